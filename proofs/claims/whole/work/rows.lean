section
-- ===== PART A: goes FIRST, ahead of the names: the tables' words, and 'selects' of the private methods out of them =====
/-- a private method of a class that the tables say can be made, by its rows of tables_1 -/
def lw_okq (q : MethodName × Nat) : Prop := (q.1.cls ≠ "java/lang/invoke/MethodHandle" ∧ q.1.cls ≠ "java/lang/invoke/VarHandle") ∧ Cond.instantiable q.1.cls q.2 ∈ tables_1 ∧ Cond.privateMethod q.1 ∈ tables_1 ∧ Cond.instanceMethod q.1 ∈ tables_1
theorem lw_p0 : lw_okq (⟨"SoundWells$Reader", "readItem", "(I)I"⟩, 8) := ⟨⟨by decide +kernel, by decide +kernel⟩, List.mem_of_getElem? (i := 21) (by decide +kernel), List.mem_of_getElem? (i := 235) (by decide +kernel), List.mem_of_getElem? (i := 236) (by decide +kernel)⟩
theorem lw_p1 : lw_okq (⟨"SoundWells$Reader", "letterAt", "(I)C"⟩, 8) := ⟨⟨by decide +kernel, by decide +kernel⟩, List.mem_of_getElem? (i := 21) (by decide +kernel), List.mem_of_getElem? (i := 239) (by decide +kernel), List.mem_of_getElem? (i := 240) (by decide +kernel)⟩
theorem lw_p2 : lw_okq (⟨"SoundWells$Reader", "endOfFigures", "(I)I"⟩, 8) := ⟨⟨by decide +kernel, by decide +kernel⟩, List.mem_of_getElem? (i := 21) (by decide +kernel), List.mem_of_getElem? (i := 246) (by decide +kernel), List.mem_of_getElem? (i := 247) (by decide +kernel)⟩
theorem lw_p3 : lw_okq (⟨"SoundWells$Reader", "isFigure", "(I)Z"⟩, 8) := ⟨⟨by decide +kernel, by decide +kernel⟩, List.mem_of_getElem? (i := 21) (by decide +kernel), List.mem_of_getElem? (i := 250) (by decide +kernel), List.mem_of_getElem? (i := 251) (by decide +kernel)⟩
theorem lw_p4 : lw_okq (⟨"SoundWells$Reader", "valueOf", "(II)I"⟩, 8) := ⟨⟨by decide +kernel, by decide +kernel⟩, List.mem_of_getElem? (i := 21) (by decide +kernel), List.mem_of_getElem? (i := 254) (by decide +kernel), List.mem_of_getElem? (i := 255) (by decide +kernel)⟩
theorem lw_p5 : lw_okq (⟨"SoundWells$Reader", "keepItem", "(C)Z"⟩, 8) := ⟨⟨by decide +kernel, by decide +kernel⟩, List.mem_of_getElem? (i := 21) (by decide +kernel), List.mem_of_getElem? (i := 258) (by decide +kernel), List.mem_of_getElem? (i := 259) (by decide +kernel)⟩
theorem lw_p6 : lw_okq (⟨"SoundWells$Reader", "keepUnit", "()Z"⟩, 8) := ⟨⟨by decide +kernel, by decide +kernel⟩, List.mem_of_getElem? (i := 21) (by decide +kernel), List.mem_of_getElem? (i := 262) (by decide +kernel), List.mem_of_getElem? (i := 263) (by decide +kernel)⟩
theorem lw_p7 : lw_okq (⟨"SoundWells$Reader", "keepBoard", "()Z"⟩, 8) := ⟨⟨by decide +kernel, by decide +kernel⟩, List.mem_of_getElem? (i := 21) (by decide +kernel), List.mem_of_getElem? (i := 269) (by decide +kernel), List.mem_of_getElem? (i := 270) (by decide +kernel)⟩
theorem lw_p8 : lw_okq (⟨"SoundWells", "change", "(LSoundWells$Plan;)V"⟩, 6) := ⟨⟨by decide +kernel, by decide +kernel⟩, List.mem_of_getElem? (i := 13) (by decide +kernel), List.mem_of_getElem? (i := 349) (by decide +kernel), List.mem_of_getElem? (i := 350) (by decide +kernel)⟩
theorem lw_p9 : lw_okq (⟨"SoundWells$Panel", "differenceAt", "(II)I"⟩, 7) := ⟨⟨by decide +kernel, by decide +kernel⟩, List.mem_of_getElem? (i := 127) (by decide +kernel), List.mem_of_getElem? (i := 459) (by decide +kernel), List.mem_of_getElem? (i := 460) (by decide +kernel)⟩
theorem lw_p10 : lw_okq (⟨"SoundWells$Saw", "start", "(LSoundWells$Plan;)V"⟩, 14) := ⟨⟨by decide +kernel, by decide +kernel⟩, List.mem_of_getElem? (i := 72) (by decide +kernel), List.mem_of_getElem? (i := 514) (by decide +kernel), List.mem_of_getElem? (i := 515) (by decide +kernel)⟩
theorem lw_p11 : lw_okq (⟨"SoundWells$Saw", "gather", "(LSoundWells$Panel;I)V"⟩, 14) := ⟨⟨by decide +kernel, by decide +kernel⟩, List.mem_of_getElem? (i := 72) (by decide +kernel), List.mem_of_getElem? (i := 520) (by decide +kernel), List.mem_of_getElem? (i := 521) (by decide +kernel)⟩
theorem lw_p12 : lw_okq (⟨"SoundWells$Saw", "cutAlike", "(II)V"⟩, 14) := ⟨⟨by decide +kernel, by decide +kernel⟩, List.mem_of_getElem? (i := 72) (by decide +kernel), List.mem_of_getElem? (i := 525) (by decide +kernel), List.mem_of_getElem? (i := 526) (by decide +kernel)⟩
theorem lw_p13 : lw_okq (⟨"SoundWells$Saw", "hasRoom", "(II)Z"⟩, 14) := ⟨⟨by decide +kernel, by decide +kernel⟩, List.mem_of_getElem? (i := 72) (by decide +kernel), List.mem_of_getElem? (i := 529) (by decide +kernel), List.mem_of_getElem? (i := 530) (by decide +kernel)⟩
theorem lw_p14 : lw_okq (⟨"SoundWells$Saw", "cutFrom", "(II)V"⟩, 14) := ⟨⟨by decide +kernel, by decide +kernel⟩, List.mem_of_getElem? (i := 72) (by decide +kernel), List.mem_of_getElem? (i := 533) (by decide +kernel), List.mem_of_getElem? (i := 534) (by decide +kernel)⟩
theorem lw_p15 : lw_okq (⟨"SoundWellsModel", "tells", "(IIIIII)V"⟩, 16) := ⟨⟨by decide +kernel, by decide +kernel⟩, List.mem_of_getElem? (i := 579) (by decide +kernel), List.mem_of_getElem? (i := 585) (by decide +kernel), List.mem_of_getElem? (i := 586) (by decide +kernel)⟩
def lw_privs_1 : List (MethodName × Nat) := [(⟨"SoundWells$Reader", "readItem", "(I)I"⟩, 8), (⟨"SoundWells$Reader", "letterAt", "(I)C"⟩, 8), (⟨"SoundWells$Reader", "endOfFigures", "(I)I"⟩, 8), (⟨"SoundWells$Reader", "isFigure", "(I)Z"⟩, 8), (⟨"SoundWells$Reader", "valueOf", "(II)I"⟩, 8), (⟨"SoundWells$Reader", "keepItem", "(C)Z"⟩, 8), (⟨"SoundWells$Reader", "keepUnit", "()Z"⟩, 8), (⟨"SoundWells$Reader", "keepBoard", "()Z"⟩, 8), (⟨"SoundWells", "change", "(LSoundWells$Plan;)V"⟩, 6), (⟨"SoundWells$Panel", "differenceAt", "(II)I"⟩, 7), (⟨"SoundWells$Saw", "start", "(LSoundWells$Plan;)V"⟩, 14), (⟨"SoundWells$Saw", "gather", "(LSoundWells$Panel;I)V"⟩, 14), (⟨"SoundWells$Saw", "cutAlike", "(II)V"⟩, 14), (⟨"SoundWells$Saw", "hasRoom", "(II)Z"⟩, 14), (⟨"SoundWells$Saw", "cutFrom", "(II)V"⟩, 14), (⟨"SoundWellsModel", "tells", "(IIIIII)V"⟩, 16)]
theorem lw_r1 : ∀ q ∈ lw_privs_1, lw_okq q := List.forall_mem_cons.mpr ⟨lw_p0, List.forall_mem_cons.mpr ⟨lw_p1, List.forall_mem_cons.mpr ⟨lw_p2, List.forall_mem_cons.mpr ⟨lw_p3, List.forall_mem_cons.mpr ⟨lw_p4, List.forall_mem_cons.mpr ⟨lw_p5, List.forall_mem_cons.mpr ⟨lw_p6, List.forall_mem_cons.mpr ⟨lw_p7, List.forall_mem_cons.mpr ⟨lw_p8, List.forall_mem_cons.mpr ⟨lw_p9, List.forall_mem_cons.mpr ⟨lw_p10, List.forall_mem_cons.mpr ⟨lw_p11, List.forall_mem_cons.mpr ⟨lw_p12, List.forall_mem_cons.mpr ⟨lw_p13, List.forall_mem_cons.mpr ⟨lw_p14, List.forall_mem_cons.mpr ⟨lw_p15, fun _ h => absurd h List.not_mem_nil⟩⟩⟩⟩⟩⟩⟩⟩⟩⟩⟩⟩⟩⟩⟩⟩
theorem lw_p16 : lw_okq (⟨"SoundWellsModel", "item", "(I)Z"⟩, 16) := ⟨⟨by decide +kernel, by decide +kernel⟩, List.mem_of_getElem? (i := 579) (by decide +kernel), List.mem_of_getElem? (i := 682) (by decide +kernel), List.mem_of_getElem? (i := 683) (by decide +kernel)⟩
theorem lw_p17 : lw_okq (⟨"SoundWellsModel", "panelItem", "(I)Z"⟩, 16) := ⟨⟨by decide +kernel, by decide +kernel⟩, List.mem_of_getElem? (i := 579) (by decide +kernel), List.mem_of_getElem? (i := 686) (by decide +kernel), List.mem_of_getElem? (i := 687) (by decide +kernel)⟩
theorem lw_p18 : lw_okq (⟨"SoundWellsModel", "number", "(IIII)Z"⟩, 16) := ⟨⟨by decide +kernel, by decide +kernel⟩, List.mem_of_getElem? (i := 579) (by decide +kernel), List.mem_of_getElem? (i := 690) (by decide +kernel), List.mem_of_getElem? (i := 691) (by decide +kernel)⟩
theorem lw_p19 : lw_okq (⟨"SoundWellsModel", "byteAt", "(I)I"⟩, 16) := ⟨⟨by decide +kernel, by decide +kernel⟩, List.mem_of_getElem? (i := 579) (by decide +kernel), List.mem_of_getElem? (i := 694) (by decide +kernel), List.mem_of_getElem? (i := 695) (by decide +kernel)⟩
theorem lw_p20 : lw_okq (⟨"SoundWellsModel", "isPanel", "(I)Z"⟩, 16) := ⟨⟨by decide +kernel, by decide +kernel⟩, List.mem_of_getElem? (i := 579) (by decide +kernel), List.mem_of_getElem? (i := 717) (by decide +kernel), List.mem_of_getElem? (i := 718) (by decide +kernel)⟩
theorem lw_p21 : lw_okq (⟨"SoundWellsModel", "becomes", "(II)I"⟩, 16) := ⟨⟨by decide +kernel, by decide +kernel⟩, List.mem_of_getElem? (i := 579) (by decide +kernel), List.mem_of_getElem? (i := 722) (by decide +kernel), List.mem_of_getElem? (i := 723) (by decide +kernel)⟩
theorem lw_p22 : lw_okq (⟨"SoundWellsModel", "note", "()V"⟩, 16) := ⟨⟨by decide +kernel, by decide +kernel⟩, List.mem_of_getElem? (i := 579) (by decide +kernel), List.mem_of_getElem? (i := 726) (by decide +kernel), List.mem_of_getElem? (i := 727) (by decide +kernel)⟩
theorem lw_p23 : lw_okq (⟨"SoundWellsModel", "wellOf", "(II)I"⟩, 16) := ⟨⟨by decide +kernel, by decide +kernel⟩, List.mem_of_getElem? (i := 579) (by decide +kernel), List.mem_of_getElem? (i := 745) (by decide +kernel), List.mem_of_getElem? (i := 746) (by decide +kernel)⟩
theorem lw_p24 : lw_okq (⟨"SoundWellsModel", "depth", "(II)I"⟩, 16) := ⟨⟨by decide +kernel, by decide +kernel⟩, List.mem_of_getElem? (i := 579) (by decide +kernel), List.mem_of_getElem? (i := 749) (by decide +kernel), List.mem_of_getElem? (i := 750) (by decide +kernel)⟩
theorem lw_p25 : lw_okq (⟨"SoundWellsModel", "period", "(I)I"⟩, 16) := ⟨⟨by decide +kernel, by decide +kernel⟩, List.mem_of_getElem? (i := 579) (by decide +kernel), List.mem_of_getElem? (i := 753) (by decide +kernel), List.mem_of_getElem? (i := 754) (by decide +kernel)⟩
theorem lw_p26 : lw_okq (⟨"SoundWellsModel", "countOf", "(III)I"⟩, 16) := ⟨⟨by decide +kernel, by decide +kernel⟩, List.mem_of_getElem? (i := 579) (by decide +kernel), List.mem_of_getElem? (i := 761) (by decide +kernel), List.mem_of_getElem? (i := 762) (by decide +kernel)⟩
theorem lw_p27 : lw_okq (⟨"SoundWellsModel", "sumOf", "(II)I"⟩, 16) := ⟨⟨by decide +kernel, by decide +kernel⟩, List.mem_of_getElem? (i := 579) (by decide +kernel), List.mem_of_getElem? (i := 770) (by decide +kernel), List.mem_of_getElem? (i := 771) (by decide +kernel)⟩
theorem lw_p28 : lw_okq (⟨"SoundWellsModel", "even", "(I)I"⟩, 16) := ⟨⟨by decide +kernel, by decide +kernel⟩, List.mem_of_getElem? (i := 579) (by decide +kernel), List.mem_of_getElem? (i := 774) (by decide +kernel), List.mem_of_getElem? (i := 775) (by decide +kernel)⟩
theorem lw_p29 : lw_okq (⟨"SoundWellsModel", "planeOf", "(III)I"⟩, 16) := ⟨⟨by decide +kernel, by decide +kernel⟩, List.mem_of_getElem? (i := 579) (by decide +kernel), List.mem_of_getElem? (i := 782) (by decide +kernel), List.mem_of_getElem? (i := 783) (by decide +kernel)⟩
theorem lw_p30 : lw_okq (⟨"SoundWellsModel", "cutsAll", "()V"⟩, 16) := ⟨⟨by decide +kernel, by decide +kernel⟩, List.mem_of_getElem? (i := 579) (by decide +kernel), List.mem_of_getElem? (i := 795) (by decide +kernel), List.mem_of_getElem? (i := 796) (by decide +kernel)⟩
theorem lw_p31 : lw_okq (⟨"SoundWellsModel", "cuts", "(II)V"⟩, 16) := ⟨⟨by decide +kernel, by decide +kernel⟩, List.mem_of_getElem? (i := 579) (by decide +kernel), List.mem_of_getElem? (i := 799) (by decide +kernel), List.mem_of_getElem? (i := 800) (by decide +kernel)⟩
def lw_privs_2 : List (MethodName × Nat) := [(⟨"SoundWellsModel", "item", "(I)Z"⟩, 16), (⟨"SoundWellsModel", "panelItem", "(I)Z"⟩, 16), (⟨"SoundWellsModel", "number", "(IIII)Z"⟩, 16), (⟨"SoundWellsModel", "byteAt", "(I)I"⟩, 16), (⟨"SoundWellsModel", "isPanel", "(I)Z"⟩, 16), (⟨"SoundWellsModel", "becomes", "(II)I"⟩, 16), (⟨"SoundWellsModel", "note", "()V"⟩, 16), (⟨"SoundWellsModel", "wellOf", "(II)I"⟩, 16), (⟨"SoundWellsModel", "depth", "(II)I"⟩, 16), (⟨"SoundWellsModel", "period", "(I)I"⟩, 16), (⟨"SoundWellsModel", "countOf", "(III)I"⟩, 16), (⟨"SoundWellsModel", "sumOf", "(II)I"⟩, 16), (⟨"SoundWellsModel", "even", "(I)I"⟩, 16), (⟨"SoundWellsModel", "planeOf", "(III)I"⟩, 16), (⟨"SoundWellsModel", "cutsAll", "()V"⟩, 16), (⟨"SoundWellsModel", "cuts", "(II)V"⟩, 16)]
theorem lw_r2 : ∀ q ∈ lw_privs_2, lw_okq q := List.forall_mem_cons.mpr ⟨lw_p16, List.forall_mem_cons.mpr ⟨lw_p17, List.forall_mem_cons.mpr ⟨lw_p18, List.forall_mem_cons.mpr ⟨lw_p19, List.forall_mem_cons.mpr ⟨lw_p20, List.forall_mem_cons.mpr ⟨lw_p21, List.forall_mem_cons.mpr ⟨lw_p22, List.forall_mem_cons.mpr ⟨lw_p23, List.forall_mem_cons.mpr ⟨lw_p24, List.forall_mem_cons.mpr ⟨lw_p25, List.forall_mem_cons.mpr ⟨lw_p26, List.forall_mem_cons.mpr ⟨lw_p27, List.forall_mem_cons.mpr ⟨lw_p28, List.forall_mem_cons.mpr ⟨lw_p29, List.forall_mem_cons.mpr ⟨lw_p30, List.forall_mem_cons.mpr ⟨lw_p31, fun _ h => absurd h List.not_mem_nil⟩⟩⟩⟩⟩⟩⟩⟩⟩⟩⟩⟩⟩⟩⟩⟩
def lw_privs : List (MethodName × Nat) := lw_privs_1 ++ (lw_privs_2)
def lw_tbl : List Cond := k2_sels lw_privs ++ tables_1
theorem lw_privs_ok : ∀ q ∈ lw_privs, lw_okq q := by
  show ∀ q ∈ lw_privs_1 ++ (lw_privs_2), lw_okq q
  exact List.forall_mem_append.mpr ⟨lw_r1, lw_r2⟩
-- ===== end of PART A; then your names; then what follows =====
end
section
def RX0 : String := "SoundWells$Numbers"
def TX0 : u_T := fun k => match k with
  | _ => ("", "", "", false)
def tyX0 : Nat → FieldType := fun k => match k with
  | _ => .int
abbrev wsX00 : List Cond := u_ws RX0 TX0 0
theorem nmX0 : ∀ a, a < 0 → ∀ b, b < 0 → a ≠ b → (TX0 a).2.1 ≠ (TX0 b).2.1 := by decide +kernel
theorem tyX0_ok : ∀ k, k < 0 → parseFieldDescriptor (TX0 k).2.2.1 = some (tyX0 k) := by decide +kernel
abbrev cX0_isPrime : ByteArray := prog_2_method_2_code
def yX0_isPrime : MethodName := ⟨RX0, "isPrime", "(I)Z"⟩
abbrev cX0_rest : ByteArray := prog_2_method_3_code
def yX0_rest : MethodName := ⟨RX0, "rest", "(II)I"⟩
abbrev cX0_roundedUp : ByteArray := prog_2_method_4_code
def yX0_roundedUp : MethodName := ⟨RX0, "roundedUp", "(II)I"⟩
abbrev cX0_squareBits : ByteArray := prog_2_method_5_code
def yX0_squareBits : MethodName := ⟨RX0, "squareBits", "(I)I"⟩
abbrev cX0_signOf : ByteArray := prog_2_method_6_code
def yX0_signOf : MethodName := ⟨RX0, "signOf", "(II)I"⟩
abbrev cX0_isRoot : ByteArray := prog_2_method_7_code
def yX0_isRoot : MethodName := ⟨RX0, "isRoot", "(II)Z"⟩
abbrev cX0_lowestRoot : ByteArray := prog_2_method_8_code
def yX0_lowestRoot : MethodName := ⟨RX0, "lowestRoot", "(I)I"⟩
abbrev cX0_rootCount : ByteArray := prog_2_method_9_code
def yX0_rootCount : MethodName := ⟨RX0, "rootCount", "(I)I"⟩
def RX1 : String := "SoundWells$Panel"
def TX1 : u_T := fun k => match k with
  | 0 => ("SoundWells$Panel", "kind", "I", true)
  | 1 => ("SoundWells$Panel", "prime", "I", true)
  | 2 => ("SoundWells$Panel", "factor", "I", true)
  | 3 => ("SoundWells$Panel", "offset", "I", true)
  | 4 => ("SoundWells$Panel", "wells", "I", true)
  | 5 => ("SoundWells$Panel", "period", "I", true)
  | _ => ("SoundWells$Panel", "row", "[I", true)
def tyX1 : Nat → FieldType := fun k => match k with
  | 0 => .int
  | 1 => .int
  | 2 => .int
  | 3 => .int
  | 4 => .int
  | 5 => .int
  | _ => .array .int
abbrev wsX10 : List Cond := u_ws RX1 TX1 7
theorem nmX1 : ∀ a, a < 7 → ∀ b, b < 7 → a ≠ b → (TX1 a).2.1 ≠ (TX1 b).2.1 := by decide +kernel
theorem tyX1_ok : ∀ k, k < 7 → parseFieldDescriptor (TX1 k).2.2.1 = some (tyX1 k) := by decide +kernel
abbrev cX1_init : ByteArray := prog_3_method_1_code
def yX1_init : MethodName := ⟨RX1, "<init>", "(IIIII)V"⟩
abbrev cX1_rowOf : ByteArray := prog_3_method_2_code
def yX1_rowOf : MethodName := ⟨RX1, "rowOf", "(III)[I"⟩
abbrev cX1_factorFits : ByteArray := prog_3_method_3_code
def yX1_factorFits : MethodName := ⟨RX1, "factorFits", "(III)Z"⟩
abbrev cX1_offsetFits : ByteArray := prog_3_method_4_code
def yX1_offsetFits : MethodName := ⟨RX1, "offsetFits", "(II)Z"⟩
abbrev cX1_wellsFit : ByteArray := prog_3_method_5_code
def yX1_wellsFit : MethodName := ⟨RX1, "wellsFit", "(I)Z"⟩
abbrev cX1_allows : ByteArray := prog_3_method_6_code
def yX1_allows : MethodName := ⟨RX1, "allows", "(II)Z"⟩
abbrev cX1_measure : ByteArray := prog_3_method_7_code
def yX1_measure : MethodName := ⟨RX1, "measure", "(I)I"⟩
abbrev cX1_withMeasure : ByteArray := prog_3_method_8_code
def yX1_withMeasure : MethodName := ⟨RX1, "withMeasure", "(II)LSoundWells$Panel;"⟩
abbrev cX1_hasWell : ByteArray := prog_3_method_9_code
def yX1_hasWell : MethodName := ⟨RX1, "hasWell", "(I)Z"⟩
abbrev cX1_isRest : ByteArray := prog_3_method_10_code
def yX1_isRest : MethodName := ⟨RX1, "isRest", "(I)Z"⟩
abbrev cX1_depthAt : ByteArray := prog_3_method_11_code
def yX1_depthAt : MethodName := ⟨RX1, "depthAt", "(I)I"⟩
abbrev cX1_wellDepth : ByteArray := prog_3_method_12_code
def yX1_wellDepth : MethodName := ⟨RX1, "wellDepth", "(I)I"⟩
abbrev cX1_greatestDepth : ByteArray := prog_3_method_13_code
def yX1_greatestDepth : MethodName := ⟨RX1, "greatestDepth", "()I"⟩
abbrev cX1_depthsTogether : ByteArray := prog_3_method_14_code
def yX1_depthsTogether : MethodName := ⟨RX1, "depthsTogether", "()I"⟩
abbrev cX1_unlikeDepths : ByteArray := prog_3_method_15_code
def yX1_unlikeDepths : MethodName := ⟨RX1, "unlikeDepths", "()I"⟩
abbrev cX1_isMirrored : ByteArray := prog_3_method_16_code
def yX1_isMirrored : MethodName := ⟨RX1, "isMirrored", "()Z"⟩
abbrev cX1_differenceAt : ByteArray := prog_3_method_17_code
def yX1_differenceAt : MethodName := ⟨RX1, "differenceAt", "(II)I"⟩
abbrev cX1_countOf : ByteArray := prog_3_method_18_code
def yX1_countOf : MethodName := ⟨RX1, "countOf", "(II)I"⟩
abbrev cX1_evenness : ByteArray := prog_3_method_19_code
def yX1_evenness : MethodName := ⟨RX1, "evenness", "()I"⟩
abbrev cX1_planeDepth : ByteArray := prog_3_method_20_code
def yX1_planeDepth : MethodName := ⟨RX1, "planeDepth", "(II)I"⟩
abbrev cX1_planePlaces : ByteArray := prog_3_method_21_code
def yX1_planePlaces : MethodName := ⟨RX1, "planePlaces", "(I)I"⟩
def RX2 : String := "SoundWells$Past"
def TX2 : u_T := fun k => match k with
  | 0 => ("SoundWells$Past", "plans", "[LSoundWells$Plan;", true)
  | _ => ("SoundWells$Past", "kept", "I", false)
def tyX2 : Nat → FieldType := fun k => match k with
  | 0 => .array (.object "SoundWells$Plan")
  | _ => .int
abbrev wsX20 : List Cond := u_ws RX2 TX2 2
theorem nmX2 : ∀ a, a < 2 → ∀ b, b < 2 → a ≠ b → (TX2 a).2.1 ≠ (TX2 b).2.1 := by decide +kernel
theorem tyX2_ok : ∀ k, k < 2 → parseFieldDescriptor (TX2 k).2.2.1 = some (tyX2 k) := by decide +kernel
abbrev cX2_init : ByteArray := prog_4_method_1_code
def yX2_init : MethodName := ⟨RX2, "<init>", "()V"⟩
abbrev cX2_forget : ByteArray := prog_4_method_2_code
def yX2_forget : MethodName := ⟨RX2, "forget", "()V"⟩
abbrev cX2_keep : ByteArray := prog_4_method_3_code
def yX2_keep : MethodName := ⟨RX2, "keep", "(LSoundWells$Plan;)V"⟩
abbrev cX2_takeLatest : ByteArray := prog_4_method_4_code
def yX2_takeLatest : MethodName := ⟨RX2, "takeLatest", "()LSoundWells$Plan;"⟩
def RX3 : String := "SoundWells$Plan"
def TX3 : u_T := fun k => match k with
  | 0 => ("SoundWells$Plan", "panels", "[LSoundWells$Panel;", true)
  | 1 => ("SoundWells$Plan", "unit", "I", true)
  | 2 => ("SoundWells$Plan", "boardLength", "I", true)
  | _ => ("SoundWells$Plan", "cutWidth", "I", true)
def tyX3 : Nat → FieldType := fun k => match k with
  | 0 => .array (.object "SoundWells$Panel")
  | 1 => .int
  | 2 => .int
  | _ => .int
abbrev wsX30 : List Cond := u_ws RX3 TX3 4
theorem nmX3 : ∀ a, a < 4 → ∀ b, b < 4 → a ≠ b → (TX3 a).2.1 ≠ (TX3 b).2.1 := by decide +kernel
theorem tyX3_ok : ∀ k, k < 4 → parseFieldDescriptor (TX3 k).2.2.1 = some (tyX3 k) := by decide +kernel
abbrev cX3_init : ByteArray := prog_5_method_1_code
def yX3_init : MethodName := ⟨RX3, "<init>", "([LSoundWells$Panel;III)V"⟩
abbrev cX3_panelAt : ByteArray := prog_5_method_2_code
def yX3_panelAt : MethodName := ⟨RX3, "panelAt", "(I)LSoundWells$Panel;"⟩
abbrev cX3_wellsBefore : ByteArray := prog_5_method_3_code
def yX3_wellsBefore : MethodName := ⟨RX3, "wellsBefore", "(I)I"⟩
abbrev cX3_withPanel : ByteArray := prog_5_method_4_code
def yX3_withPanel : MethodName := ⟨RX3, "withPanel", "(ILSoundWells$Panel;)LSoundWells$Plan;"⟩
abbrev cX3_withoutPanel : ByteArray := prog_5_method_5_code
def yX3_withoutPanel : MethodName := ⟨RX3, "withoutPanel", "(I)LSoundWells$Plan;"⟩
abbrev cX3_allows : ByteArray := prog_5_method_6_code
def yX3_allows : MethodName := ⟨RX3, "allows", "(II)Z"⟩
abbrev cX3_measure : ByteArray := prog_5_method_7_code
def yX3_measure : MethodName := ⟨RX3, "measure", "(I)I"⟩
abbrev cX3_withMeasure : ByteArray := prog_5_method_8_code
def yX3_withMeasure : MethodName := ⟨RX3, "withMeasure", "(II)LSoundWells$Plan;"⟩
def RX4 : String := "SoundWells$Reader"
def TX4 : u_T := fun k => match k with
  | 0 => ("SoundWells$Reader", "panels", "[LSoundWells$Panel;", true)
  | 1 => ("SoundWells$Reader", "numbers", "[I", true)
  | 2 => ("SoundWells$Reader", "text", "[C", false)
  | 3 => ("SoundWells$Reader", "letters", "I", false)
  | 4 => ("SoundWells$Reader", "panelCount", "I", false)
  | 5 => ("SoundWells$Reader", "unit", "I", false)
  | 6 => ("SoundWells$Reader", "boardLength", "I", false)
  | _ => ("SoundWells$Reader", "cutWidth", "I", false)
def tyX4 : Nat → FieldType := fun k => match k with
  | 0 => .array (.object "SoundWells$Panel")
  | 1 => .array .int
  | 2 => .array .char
  | 3 => .int
  | 4 => .int
  | 5 => .int
  | 6 => .int
  | _ => .int
abbrev wsX40 : List Cond := u_ws RX4 TX4 8
theorem nmX4 : ∀ a, a < 8 → ∀ b, b < 8 → a ≠ b → (TX4 a).2.1 ≠ (TX4 b).2.1 := by decide +kernel
theorem tyX4_ok : ∀ k, k < 8 → parseFieldDescriptor (TX4 k).2.2.1 = some (tyX4 k) := by decide +kernel
abbrev cX4_init : ByteArray := prog_6_method_1_code
def yX4_init : MethodName := ⟨RX4, "<init>", "()V"⟩
abbrev cX4_firstFault : ByteArray := prog_6_method_2_code
def yX4_firstFault : MethodName := ⟨RX4, "firstFault", "([CI)I"⟩
abbrev cX4_planRead : ByteArray := prog_6_method_3_code
def yX4_planRead : MethodName := ⟨RX4, "planRead", "()LSoundWells$Plan;"⟩
abbrev cX4_readItem : ByteArray := prog_6_method_4_code
def yX4_readItem : MethodName := ⟨RX4, "readItem", "(I)I"⟩
abbrev cX4_numbersOf : ByteArray := prog_6_method_5_code
def yX4_numbersOf : MethodName := ⟨RX4, "numbersOf", "(C)I"⟩
abbrev cX4_letterAt : ByteArray := prog_6_method_6_code
def yX4_letterAt : MethodName := ⟨RX4, "letterAt", "(I)C"⟩
abbrev cX4_isFigure : ByteArray := prog_6_method_7_code
def yX4_isFigure : MethodName := ⟨RX4, "isFigure", "(I)Z"⟩
abbrev cX4_endOfFigures : ByteArray := prog_6_method_8_code
def yX4_endOfFigures : MethodName := ⟨RX4, "endOfFigures", "(I)I"⟩
abbrev cX4_valueOf : ByteArray := prog_6_method_9_code
def yX4_valueOf : MethodName := ⟨RX4, "valueOf", "(II)I"⟩
abbrev cX4_keepItem : ByteArray := prog_6_method_10_code
def yX4_keepItem : MethodName := ⟨RX4, "keepItem", "(C)Z"⟩
abbrev cX4_keepUnit : ByteArray := prog_6_method_11_code
def yX4_keepUnit : MethodName := ⟨RX4, "keepUnit", "()Z"⟩
abbrev cX4_keepBoard : ByteArray := prog_6_method_12_code
def yX4_keepBoard : MethodName := ⟨RX4, "keepBoard", "()Z"⟩
def RX5 : String := "SoundWells$Saw"
def TX5 : u_T := fun k => match k with
  | 0 => ("SoundWells$Saw", "depths", "[I", true)
  | 1 => ("SoundWells$Saw", "alike", "[I", true)
  | 2 => ("SoundWells$Saw", "boardOf", "[I", true)
  | 3 => ("SoundWells$Saw", "used", "[I", true)
  | 4 => ("SoundWells$Saw", "pieces", "[I", true)
  | 5 => ("SoundWells$Saw", "longest", "[I", true)
  | 6 => ("SoundWells$Saw", "wells", "I", false)
  | 7 => ("SoundWells$Saw", "unit", "I", false)
  | 8 => ("SoundWells$Saw", "boardLength", "I", false)
  | 9 => ("SoundWells$Saw", "cutWidth", "I", false)
  | 10 => ("SoundWells$Saw", "boards", "I", false)
  | 11 => ("SoundWells$Saw", "blocks", "I", false)
  | 12 => ("SoundWells$Saw", "lost", "I", false)
  | _ => ("SoundWells$Saw", "lengths", "I", false)
def tyX5 : Nat → FieldType := fun k => match k with
  | 0 => .array .int
  | 1 => .array .int
  | 2 => .array .int
  | 3 => .array .int
  | 4 => .array .int
  | 5 => .array .int
  | 6 => .int
  | 7 => .int
  | 8 => .int
  | 9 => .int
  | 10 => .int
  | 11 => .int
  | 12 => .int
  | _ => .int
abbrev wsX50 : List Cond := u_ws RX5 TX5 14
theorem nmX5 : ∀ a, a < 14 → ∀ b, b < 14 → a ≠ b → (TX5 a).2.1 ≠ (TX5 b).2.1 := by decide +kernel
theorem tyX5_ok : ∀ k, k < 14 → parseFieldDescriptor (TX5 k).2.2.1 = some (tyX5 k) := by decide +kernel
abbrev cX5_init : ByteArray := prog_7_method_1_code
def yX5_init : MethodName := ⟨RX5, "<init>", "()V"⟩
abbrev cX5_cutAll : ByteArray := prog_7_method_2_code
def yX5_cutAll : MethodName := ⟨RX5, "cutAll", "(LSoundWells$Plan;)V"⟩
abbrev cX5_cutAllMoved : ByteArray := prog_7_method_3_code
def yX5_cutAllMoved : MethodName := ⟨RX5, "cutAllMoved", "(LSoundWells$Plan;II)V"⟩
abbrev cX5_start : ByteArray := prog_7_method_4_code
def yX5_start : MethodName := ⟨RX5, "start", "(LSoundWells$Plan;)V"⟩
abbrev cX5_gather : ByteArray := prog_7_method_5_code
def yX5_gather : MethodName := ⟨RX5, "gather", "(LSoundWells$Panel;I)V"⟩
abbrev cX5_cutAlike : ByteArray := prog_7_method_6_code
def yX5_cutAlike : MethodName := ⟨RX5, "cutAlike", "(II)V"⟩
abbrev cX5_hasRoom : ByteArray := prog_7_method_7_code
def yX5_hasRoom : MethodName := ⟨RX5, "hasRoom", "(II)Z"⟩
abbrev cX5_cutFrom : ByteArray := prog_7_method_8_code
def yX5_cutFrom : MethodName := ⟨RX5, "cutFrom", "(II)V"⟩
abbrev cX5_leftOf : ByteArray := prog_7_method_9_code
def yX5_leftOf : MethodName := ⟨RX5, "leftOf", "(I)I"⟩
abbrev cX5_leftOfLast : ByteArray := prog_7_method_10_code
def yX5_leftOfLast : MethodName := ⟨RX5, "leftOfLast", "()I"⟩
abbrev cX5_isBetterThan : ByteArray := prog_7_method_11_code
def yX5_isBetterThan : MethodName := ⟨RX5, "isBetterThan", "(III)Z"⟩
abbrev cX5_boardOfWell : ByteArray := prog_7_method_12_code
def yX5_boardOfWell : MethodName := ⟨RX5, "boardOfWell", "(I)I"⟩
def RX6 : String := "SoundWells"
def TX6 : u_T := fun k => match k with
  | 0 => ("SoundWells", "text", "[C", true)
  | 1 => ("SoundWells", "reader", "LSoundWells$Reader;", true)
  | 2 => ("SoundWells", "past", "LSoundWells$Past;", true)
  | 3 => ("SoundWells", "saw", "LSoundWells$Saw;", true)
  | 4 => ("SoundWells", "letters", "I", false)
  | _ => ("SoundWells", "plan", "LSoundWells$Plan;", false)
def tyX6 : Nat → FieldType := fun k => match k with
  | 0 => .array .char
  | 1 => .object "SoundWells$Reader"
  | 2 => .object "SoundWells$Past"
  | 3 => .object "SoundWells$Saw"
  | 4 => .int
  | _ => .object "SoundWells$Plan"
abbrev wsX60 : List Cond := u_ws RX6 TX6 6
theorem nmX6 : ∀ a, a < 6 → ∀ b, b < 6 → a ≠ b → (TX6 a).2.1 ≠ (TX6 b).2.1 := by decide +kernel
theorem tyX6_ok : ∀ k, k < 6 → parseFieldDescriptor (TX6 k).2.2.1 = some (tyX6 k) := by decide +kernel
abbrev cX6_init : ByteArray := prog_1_method_1_code
def yX6_init : MethodName := ⟨RX6, "<init>", "()V"⟩
abbrev cX6_write : ByteArray := prog_1_method_2_code
def yX6_write : MethodName := ⟨RX6, "write", "(I)I"⟩
abbrev cX6_wipe : ByteArray := prog_1_method_3_code
def yX6_wipe : MethodName := ⟨RX6, "wipe", "()I"⟩
abbrev cX6_fault : ByteArray := prog_1_method_4_code
def yX6_fault : MethodName := ⟨RX6, "fault", "()I"⟩
abbrev cX6_lay : ByteArray := prog_1_method_5_code
def yX6_lay : MethodName := ⟨RX6, "lay", "()I"⟩
abbrev cX6_set : ByteArray := prog_1_method_6_code
def yX6_set : MethodName := ⟨RX6, "set", "(III)I"⟩
abbrev cX6_tell : ByteArray := prog_1_method_7_code
def yX6_tell : MethodName := ⟨RX6, "tell", "(II)I"⟩
abbrev cX6_take : ByteArray := prog_1_method_8_code
def yX6_take : MethodName := ⟨RX6, "take", "(I)I"⟩
abbrev cX6_undo : ByteArray := prog_1_method_9_code
def yX6_undo : MethodName := ⟨RX6, "undo", "()I"⟩
abbrev cX6_change : ByteArray := prog_1_method_10_code
def yX6_change : MethodName := ⟨RX6, "change", "(LSoundWells$Plan;)V"⟩
abbrev cX6_squares : ByteArray := prog_1_method_11_code
def yX6_squares : MethodName := ⟨RX6, "squares", "(I)I"⟩
abbrev cX6_sign : ByteArray := prog_1_method_12_code
def yX6_sign : MethodName := ⟨RX6, "sign", "(II)I"⟩
abbrev cX6_root : ByteArray := prog_1_method_13_code
def yX6_root : MethodName := ⟨RX6, "root", "(II)I"⟩
abbrev cX6_law : ByteArray := prog_1_method_14_code
def yX6_law : MethodName := ⟨RX6, "law", "(II)I"⟩
abbrev cX6_panel : ByteArray := prog_1_method_15_code
def yX6_panel : MethodName := ⟨RX6, "panel", "(II)I"⟩
abbrev cX6_well : ByteArray := prog_1_method_16_code
def yX6_well : MethodName := ⟨RX6, "well", "(II)I"⟩
abbrev cX6_counts : ByteArray := prog_1_method_17_code
def yX6_counts : MethodName := ⟨RX6, "counts", "(III)I"⟩
abbrev cX6_plane : ByteArray := prog_1_method_18_code
def yX6_plane : MethodName := ⟨RX6, "plane", "(III)I"⟩
abbrev cX6_planes : ByteArray := prog_1_method_19_code
def yX6_planes : MethodName := ⟨RX6, "planes", "(II)I"⟩
abbrev cX6_cut : ByteArray := prog_1_method_20_code
def yX6_cut : MethodName := ⟨RX6, "cut", "(I)I"⟩
abbrev cX6_board : ByteArray := prog_1_method_21_code
def yX6_board : MethodName := ⟨RX6, "board", "(II)I"⟩
abbrev cX6_where : ByteArray := prog_1_method_22_code
def yX6_where : MethodName := ⟨RX6, "where", "(II)I"⟩
abbrev cX6_best : ByteArray := prog_1_method_23_code
def yX6_best : MethodName := ⟨RX6, "best", "(II)I"⟩
abbrev cX6_count : ByteArray := prog_1_method_24_code
def yX6_count : MethodName := ⟨RX6, "count", "(I)I"⟩
def RX7 : String := "SoundWellsModel"
def TX7 : u_T := fun k => match k with
  | 0 => ("SoundWellsModel", "length", "I", false)
  | 1 => ("SoundWellsModel", "text", "[I", true)
  | 2 => ("SoundWellsModel", "spot", "I", false)
  | 3 => ("SoundWellsModel", "now", "[I", true)
  | 4 => ("SoundWellsModel", "read", "[I", true)
  | 5 => ("SoundWellsModel", "before", "[I", true)
  | 6 => ("SoundWellsModel", "undoMany", "I", false)
  | 7 => ("SoundWellsModel", "blocks", "[I", true)
  | 8 => ("SoundWellsModel", "used", "[I", true)
  | 9 => ("SoundWellsModel", "longest", "[I", true)
  | 10 => ("SoundWellsModel", "boardOf", "[I", true)
  | 11 => ("SoundWellsModel", "depths", "[I", true)
  | 12 => ("SoundWellsModel", "boards", "I", false)
  | 13 => ("SoundWellsModel", "cuts", "I", false)
  | 14 => ("SoundWellsModel", "lost", "I", false)
  | _ => ("SoundWellsModel", "whole", "I", false)
def tyX7 : Nat → FieldType := fun k => match k with
  | 0 => .int
  | 1 => .array .int
  | 2 => .int
  | 3 => .array .int
  | 4 => .array .int
  | 5 => .array .int
  | 6 => .int
  | 7 => .array .int
  | 8 => .array .int
  | 9 => .array .int
  | 10 => .array .int
  | 11 => .array .int
  | 12 => .int
  | 13 => .int
  | 14 => .int
  | _ => .int
abbrev wsX70 : List Cond := u_ws RX7 TX7 16
theorem nmX7 : ∀ a, a < 16 → ∀ b, b < 16 → a ≠ b → (TX7 a).2.1 ≠ (TX7 b).2.1 := by decide +kernel
theorem tyX7_ok : ∀ k, k < 16 → parseFieldDescriptor (TX7 k).2.2.1 = some (tyX7 k) := by decide +kernel
abbrev cX7_init : ByteArray := prog_9_method_1_code
def yX7_init : MethodName := ⟨RX7, "<init>", "()V"⟩
abbrev cX7_tells : ByteArray := prog_9_method_2_code
def yX7_tells : MethodName := ⟨RX7, "tells", "(IIIIII)V"⟩
abbrev cX7_in : ByteArray := prog_9_method_3_code
def yX7_in : MethodName := ⟨RX7, "in", "(JJJ)Z"⟩
abbrev cX7_isPrime : ByteArray := prog_9_method_4_code
def yX7_isPrime : MethodName := ⟨RX7, "isPrime", "(I)Z"⟩
abbrev cX7_signOf : ByteArray := prog_9_method_5_code
def yX7_signOf : MethodName := ⟨RX7, "signOf", "(II)I"⟩
abbrev cX7_isRoot : ByteArray := prog_9_method_6_code
def yX7_isRoot : MethodName := ⟨RX7, "isRoot", "(II)Z"⟩
abbrev cX7_squares : ByteArray := prog_9_method_7_code
def yX7_squares : MethodName := ⟨RX7, "squares", "(I)I"⟩
abbrev cX7_sign : ByteArray := prog_9_method_8_code
def yX7_sign : MethodName := ⟨RX7, "sign", "(II)I"⟩
abbrev cX7_root : ByteArray := prog_9_method_9_code
def yX7_root : MethodName := ⟨RX7, "root", "(II)I"⟩
abbrev cX7_law : ByteArray := prog_9_method_10_code
def yX7_law : MethodName := ⟨RX7, "law", "(II)I"⟩
abbrev cX7_write : ByteArray := prog_9_method_11_code
def yX7_write : MethodName := ⟨RX7, "write", "(I)I"⟩
abbrev cX7_wipe : ByteArray := prog_9_method_12_code
def yX7_wipe : MethodName := ⟨RX7, "wipe", "()I"⟩
abbrev cX7_byteAt : ByteArray := prog_9_method_13_code
def yX7_byteAt : MethodName := ⟨RX7, "byteAt", "(I)I"⟩
abbrev cX7_number : ByteArray := prog_9_method_14_code
def yX7_number : MethodName := ⟨RX7, "number", "(IIII)Z"⟩
abbrev cX7_mayBe : ByteArray := prog_9_method_15_code
def yX7_mayBe : MethodName := ⟨RX7, "mayBe", "(III)Z"⟩
abbrev cX7_panelItem : ByteArray := prog_9_method_16_code
def yX7_panelItem : MethodName := ⟨RX7, "panelItem", "(I)Z"⟩
abbrev cX7_item : ByteArray := prog_9_method_17_code
def yX7_item : MethodName := ⟨RX7, "item", "(I)Z"⟩
abbrev cX7_fault : ByteArray := prog_9_method_18_code
def yX7_fault : MethodName := ⟨RX7, "fault", "()I"⟩
abbrev cX7_lay : ByteArray := prog_9_method_19_code
def yX7_lay : MethodName := ⟨RX7, "lay", "()I"⟩
abbrev cX7_note : ByteArray := prog_9_method_20_code
def yX7_note : MethodName := ⟨RX7, "note", "()V"⟩
abbrev cX7_undo : ByteArray := prog_9_method_21_code
def yX7_undo : MethodName := ⟨RX7, "undo", "()I"⟩
abbrev cX7_becomes : ByteArray := prog_9_method_22_code
def yX7_becomes : MethodName := ⟨RX7, "becomes", "(II)I"⟩
abbrev cX7_isPanel : ByteArray := prog_9_method_23_code
def yX7_isPanel : MethodName := ⟨RX7, "isPanel", "(I)Z"⟩
abbrev cX7_set : ByteArray := prog_9_method_24_code
def yX7_set : MethodName := ⟨RX7, "set", "(III)I"⟩
abbrev cX7_tell : ByteArray := prog_9_method_25_code
def yX7_tell : MethodName := ⟨RX7, "tell", "(II)I"⟩
abbrev cX7_take : ByteArray := prog_9_method_26_code
def yX7_take : MethodName := ⟨RX7, "take", "(I)I"⟩
abbrev cX7_period : ByteArray := prog_9_method_27_code
def yX7_period : MethodName := ⟨RX7, "period", "(I)I"⟩
abbrev cX7_depth : ByteArray := prog_9_method_28_code
def yX7_depth : MethodName := ⟨RX7, "depth", "(II)I"⟩
abbrev cX7_wellOf : ByteArray := prog_9_method_29_code
def yX7_wellOf : MethodName := ⟨RX7, "wellOf", "(II)I"⟩
abbrev cX7_well : ByteArray := prog_9_method_30_code
def yX7_well : MethodName := ⟨RX7, "well", "(II)I"⟩
abbrev cX7_countOf : ByteArray := prog_9_method_31_code
def yX7_countOf : MethodName := ⟨RX7, "countOf", "(III)I"⟩
abbrev cX7_counts : ByteArray := prog_9_method_32_code
def yX7_counts : MethodName := ⟨RX7, "counts", "(III)I"⟩
abbrev cX7_even : ByteArray := prog_9_method_33_code
def yX7_even : MethodName := ⟨RX7, "even", "(I)I"⟩
abbrev cX7_sumOf : ByteArray := prog_9_method_34_code
def yX7_sumOf : MethodName := ⟨RX7, "sumOf", "(II)I"⟩
abbrev cX7_panel : ByteArray := prog_9_method_35_code
def yX7_panel : MethodName := ⟨RX7, "panel", "(II)I"⟩
abbrev cX7_planeOf : ByteArray := prog_9_method_36_code
def yX7_planeOf : MethodName := ⟨RX7, "planeOf", "(III)I"⟩
abbrev cX7_plane : ByteArray := prog_9_method_37_code
def yX7_plane : MethodName := ⟨RX7, "plane", "(III)I"⟩
abbrev cX7_planes : ByteArray := prog_9_method_38_code
def yX7_planes : MethodName := ⟨RX7, "planes", "(II)I"⟩
abbrev cX7_cuts : ByteArray := prog_9_method_39_code
def yX7_cuts : MethodName := ⟨RX7, "cuts", "(II)V"⟩
abbrev cX7_cutsAll : ByteArray := prog_9_method_40_code
def yX7_cutsAll : MethodName := ⟨RX7, "cutsAll", "()V"⟩
abbrev cX7_cut : ByteArray := prog_9_method_41_code
def yX7_cut : MethodName := ⟨RX7, "cut", "(I)I"⟩
abbrev cX7_board : ByteArray := prog_9_method_42_code
def yX7_board : MethodName := ⟨RX7, "board", "(II)I"⟩
abbrev cX7_where : ByteArray := prog_9_method_43_code
def yX7_where : MethodName := ⟨RX7, "where", "(II)I"⟩
abbrev cX7_best : ByteArray := prog_9_method_44_code
def yX7_best : MethodName := ⟨RX7, "best", "(II)I"⟩
abbrev cX7_count : ByteArray := prog_9_method_45_code
def yX7_count : MethodName := ⟨RX7, "count", "(I)I"⟩
def RJx8e188 : String := "java/lang/Cloneable"
def TJx8e188 : u_T := fun k => match k with
  | _ => ("", "", "", false)
def tyJx8e188 : Nat → FieldType := fun k => match k with
  | _ => .int
abbrev wsJx8e1880 : List Cond := u_ws RJx8e188 TJx8e188 0
theorem nmJx8e188 : ∀ a, a < 0 → ∀ b, b < 0 → a ≠ b → (TJx8e188 a).2.1 ≠ (TJx8e188 b).2.1 := by decide +kernel
theorem tyJx8e188_ok : ∀ k, k < 0 → parseFieldDescriptor (TJx8e188 k).2.2.1 = some (tyJx8e188 k) := by decide +kernel
def RJ6 : String := "java/lang/Integer"
def TJ6 : u_T := fun k => match k with
  | _ => ("", "", "", false)
def tyJ6 : Nat → FieldType := fun k => match k with
  | _ => .int
abbrev wsJ60 : List Cond := u_ws RJ6 TJ6 0
theorem nmJ6 : ∀ a, a < 0 → ∀ b, b < 0 → a ≠ b → (TJ6 a).2.1 ≠ (TJ6 b).2.1 := by decide +kernel
theorem tyJ6_ok : ∀ k, k < 0 → parseFieldDescriptor (TJ6 k).2.2.1 = some (tyJ6 k) := by decide +kernel
abbrev cJ6_bitCount_0f7a4 : ByteArray := prog_11_method_49_code
def yJ6_bitCount_0f7a4 : MethodName := ⟨RJ6, "bitCount", "(I)I"⟩
def RJ9 : String := "java/lang/Math"
def TJ9 : u_T := fun k => match k with
  | _ => ("", "", "", false)
def tyJ9 : Nat → FieldType := fun k => match k with
  | _ => .int
abbrev wsJ90 : List Cond := u_ws RJ9 TJ9 0
theorem nmJ9 : ∀ a, a < 0 → ∀ b, b < 0 → a ≠ b → (TJ9 a).2.1 ≠ (TJ9 b).2.1 := by decide +kernel
theorem tyJ9_ok : ∀ k, k < 0 → parseFieldDescriptor (TJ9 k).2.2.1 = some (tyJ9 k) := by decide +kernel
abbrev cJ9_max_7cf53 : ByteArray := prog_12_method_65_code
def yJ9_max_7cf53 : MethodName := ⟨RJ9, "max", "(II)I"⟩
abbrev cJ9_min_7cf53 : ByteArray := prog_12_method_69_code
def yJ9_min_7cf53 : MethodName := ⟨RJ9, "min", "(II)I"⟩
def RJ7 : String := "java/util/Arrays"
def TJ7 : u_T := fun k => match k with
  | _ => ("", "", "", false)
def tyJ7 : Nat → FieldType := fun k => match k with
  | _ => .int
abbrev wsJ70 : List Cond := u_ws RJ7 TJ7 0
theorem nmJ7 : ∀ a, a < 0 → ∀ b, b < 0 → a ≠ b → (TJ7 a).2.1 ≠ (TJ7 b).2.1 := by decide +kernel
theorem tyJ7_ok : ∀ k, k < 0 → parseFieldDescriptor (TJ7 k).2.2.1 = some (tyJ7 k) := by decide +kernel
abbrev cJ7_fill_53178 : ByteArray := prog_13_method_103_code
def yJ7_fill_53178 : MethodName := ⟨RJ7, "fill", "([II)V"⟩
def RL : String := "SoundWellsLaw"
abbrev cL_law : ByteArray := code
def yL_law : MethodName := ⟨RL, "law", "([I)Z"⟩
end
section
theorem dX0_isPrime_0 : decode cX0_isPrime 0 = .ok (.getstatic 9, 3) := by decide +kernel
theorem dX0_isPrime_3 : decode cX0_isPrime 3 = .ok (.astore_n 1, 1) := by decide +kernel
theorem dX0_isPrime_4 : decode cX0_isPrime 4 = .ok (.aload_n 1, 1) := by decide +kernel
theorem dX0_isPrime_5 : decode cX0_isPrime 5 = .ok (.arraylength, 1) := by decide +kernel
theorem dX0_isPrime_6 : decode cX0_isPrime 6 = .ok (.istore_n 2, 1) := by decide +kernel
theorem dX0_isPrime_7 : decode cX0_isPrime 7 = .ok (.iconst 0, 1) := by decide +kernel
theorem dX0_isPrime_8 : decode cX0_isPrime 8 = .ok (.istore_n 3, 1) := by decide +kernel
theorem dX0_isPrime_9 : decode cX0_isPrime 9 = .ok (.iload_n 3, 1) := by decide +kernel
theorem dX0_isPrime_10 : decode cX0_isPrime 10 = .ok (.iload_n 2, 1) := by decide +kernel
theorem dX0_isPrime_11 : decode cX0_isPrime 11 = .ok (.if_icmp .ge 22, 3) := by decide +kernel
theorem dX0_isPrime_14 : decode cX0_isPrime 14 = .ok (.aload_n 1, 1) := by decide +kernel
theorem dX0_isPrime_15 : decode cX0_isPrime 15 = .ok (.iload_n 3, 1) := by decide +kernel
theorem dX0_isPrime_16 : decode cX0_isPrime 16 = .ok (.iaload, 1) := by decide +kernel
theorem dX0_isPrime_17 : decode cX0_isPrime 17 = .ok (.istore 4, 2) := by decide +kernel
theorem dX0_isPrime_19 : decode cX0_isPrime 19 = .ok (.iload 4, 2) := by decide +kernel
theorem dX0_isPrime_21 : decode cX0_isPrime 21 = .ok (.iload_n 0, 1) := by decide +kernel
theorem dX0_isPrime_22 : decode cX0_isPrime 22 = .ok (.if_icmp .ne 5, 3) := by decide +kernel
theorem dX0_isPrime_25 : decode cX0_isPrime 25 = .ok (.iconst 1, 1) := by decide +kernel
theorem dX0_isPrime_26 : decode cX0_isPrime 26 = .ok (.ireturn, 1) := by decide +kernel
theorem dX0_isPrime_27 : decode cX0_isPrime 27 = .ok (.iinc 3 1, 3) := by decide +kernel
theorem dX0_isPrime_30 : decode cX0_isPrime 30 = .ok (.goto (-21), 3) := by decide +kernel
theorem dX0_isPrime_33 : decode cX0_isPrime 33 = .ok (.iconst 0, 1) := by decide +kernel
theorem dX0_isPrime_34 : decode cX0_isPrime 34 = .ok (.ireturn, 1) := by decide +kernel
theorem dX0_rest_0 : decode cX0_rest 0 = .ok (.iload_n 1, 1) := by decide +kernel
theorem dX0_rest_1 : decode cX0_rest 1 = .ok (.iconst 1, 1) := by decide +kernel
theorem dX0_rest_2 : decode cX0_rest 2 = .ok (.if_icmp .ge 5, 3) := by decide +kernel
theorem dX0_rest_5 : decode cX0_rest 5 = .ok (.iconst 0, 1) := by decide +kernel
theorem dX0_rest_6 : decode cX0_rest 6 = .ok (.ireturn, 1) := by decide +kernel
theorem dX0_rest_7 : decode cX0_rest 7 = .ok (.iload_n 0, 1) := by decide +kernel
theorem dX0_rest_8 : decode cX0_rest 8 = .ok (.iload_n 1, 1) := by decide +kernel
theorem dX0_rest_9 : decode cX0_rest 9 = .ok (.irem, 1) := by decide +kernel
theorem dX0_rest_10 : decode cX0_rest 10 = .ok (.istore_n 2, 1) := by decide +kernel
theorem dX0_rest_11 : decode cX0_rest 11 = .ok (.iload_n 2, 1) := by decide +kernel
theorem dX0_rest_12 : decode cX0_rest 12 = .ok (.ifCond .ge 9, 3) := by decide +kernel
theorem dX0_rest_15 : decode cX0_rest 15 = .ok (.iload_n 2, 1) := by decide +kernel
theorem dX0_rest_16 : decode cX0_rest 16 = .ok (.iload_n 1, 1) := by decide +kernel
theorem dX0_rest_17 : decode cX0_rest 17 = .ok (.iadd, 1) := by decide +kernel
theorem dX0_rest_18 : decode cX0_rest 18 = .ok (.goto 4, 3) := by decide +kernel
theorem dX0_rest_21 : decode cX0_rest 21 = .ok (.iload_n 2, 1) := by decide +kernel
theorem dX0_rest_22 : decode cX0_rest 22 = .ok (.ireturn, 1) := by decide +kernel
theorem dX0_roundedUp_0 : decode cX0_roundedUp 0 = .ok (.iload_n 1, 1) := by decide +kernel
theorem dX0_roundedUp_1 : decode cX0_roundedUp 1 = .ok (.iconst 1, 1) := by decide +kernel
theorem dX0_roundedUp_2 : decode cX0_roundedUp 2 = .ok (.if_icmp .ge 7, 3) := by decide +kernel
theorem dX0_roundedUp_5 : decode cX0_roundedUp 5 = .ok (.iconst 0, 1) := by decide +kernel
theorem dX0_roundedUp_6 : decode cX0_roundedUp 6 = .ok (.goto 10, 3) := by decide +kernel
theorem dX0_roundedUp_9 : decode cX0_roundedUp 9 = .ok (.iload_n 0, 1) := by decide +kernel
theorem dX0_roundedUp_10 : decode cX0_roundedUp 10 = .ok (.iload_n 1, 1) := by decide +kernel
theorem dX0_roundedUp_11 : decode cX0_roundedUp 11 = .ok (.iadd, 1) := by decide +kernel
theorem dX0_roundedUp_12 : decode cX0_roundedUp 12 = .ok (.iconst 1, 1) := by decide +kernel
theorem dX0_roundedUp_13 : decode cX0_roundedUp 13 = .ok (.isub, 1) := by decide +kernel
theorem dX0_roundedUp_14 : decode cX0_roundedUp 14 = .ok (.iload_n 1, 1) := by decide +kernel
theorem dX0_roundedUp_15 : decode cX0_roundedUp 15 = .ok (.idiv, 1) := by decide +kernel
theorem dX0_roundedUp_16 : decode cX0_roundedUp 16 = .ok (.ireturn, 1) := by decide +kernel
theorem dX0_squareBits_0 : decode cX0_squareBits 0 = .ok (.iconst 0, 1) := by decide +kernel
theorem dX0_squareBits_1 : decode cX0_squareBits 1 = .ok (.istore_n 1, 1) := by decide +kernel
theorem dX0_squareBits_2 : decode cX0_squareBits 2 = .ok (.iconst 1, 1) := by decide +kernel
theorem dX0_squareBits_3 : decode cX0_squareBits 3 = .ok (.istore_n 2, 1) := by decide +kernel
theorem dX0_squareBits_4 : decode cX0_squareBits 4 = .ok (.iload_n 2, 1) := by decide +kernel
theorem dX0_squareBits_5 : decode cX0_squareBits 5 = .ok (.iload_n 0, 1) := by decide +kernel
theorem dX0_squareBits_6 : decode cX0_squareBits 6 = .ok (.if_icmp .ge 19, 3) := by decide +kernel
theorem dX0_squareBits_9 : decode cX0_squareBits 9 = .ok (.iload_n 1, 1) := by decide +kernel
theorem dX0_squareBits_10 : decode cX0_squareBits 10 = .ok (.iconst 1, 1) := by decide +kernel
theorem dX0_squareBits_11 : decode cX0_squareBits 11 = .ok (.iload_n 2, 1) := by decide +kernel
theorem dX0_squareBits_12 : decode cX0_squareBits 12 = .ok (.iload_n 2, 1) := by decide +kernel
theorem dX0_squareBits_13 : decode cX0_squareBits 13 = .ok (.imul, 1) := by decide +kernel
theorem dX0_squareBits_14 : decode cX0_squareBits 14 = .ok (.iload_n 0, 1) := by decide +kernel
theorem dX0_squareBits_15 : decode cX0_squareBits 15 = .ok (.irem, 1) := by decide +kernel
theorem dX0_squareBits_16 : decode cX0_squareBits 16 = .ok (.ishl, 1) := by decide +kernel
theorem dX0_squareBits_17 : decode cX0_squareBits 17 = .ok (.ior, 1) := by decide +kernel
theorem dX0_squareBits_18 : decode cX0_squareBits 18 = .ok (.istore_n 1, 1) := by decide +kernel
theorem dX0_squareBits_19 : decode cX0_squareBits 19 = .ok (.iinc 2 1, 3) := by decide +kernel
theorem dX0_squareBits_22 : decode cX0_squareBits 22 = .ok (.goto (-18), 3) := by decide +kernel
theorem dX0_squareBits_25 : decode cX0_squareBits 25 = .ok (.iload_n 1, 1) := by decide +kernel
theorem dX0_squareBits_26 : decode cX0_squareBits 26 = .ok (.ireturn, 1) := by decide +kernel
theorem dX0_signOf_0 : decode cX0_signOf 0 = .ok (.iload_n 0, 1) := by decide +kernel
theorem dX0_signOf_1 : decode cX0_signOf 1 = .ok (.iload_n 1, 1) := by decide +kernel
theorem dX0_signOf_2 : decode cX0_signOf 2 = .ok (.invokestatic 13, 3) := by decide +kernel
theorem dX0_signOf_5 : decode cX0_signOf 5 = .ok (.istore_n 2, 1) := by decide +kernel
theorem dX0_signOf_6 : decode cX0_signOf 6 = .ok (.iload_n 2, 1) := by decide +kernel
theorem dX0_signOf_7 : decode cX0_signOf 7 = .ok (.ifCond .ne 5, 3) := by decide +kernel
theorem dX0_signOf_10 : decode cX0_signOf 10 = .ok (.iconst 0, 1) := by decide +kernel
theorem dX0_signOf_11 : decode cX0_signOf 11 = .ok (.ireturn, 1) := by decide +kernel
theorem dX0_signOf_12 : decode cX0_signOf 12 = .ok (.iload_n 1, 1) := by decide +kernel
theorem dX0_signOf_13 : decode cX0_signOf 13 = .ok (.invokestatic 19, 3) := by decide +kernel
theorem dX0_signOf_16 : decode cX0_signOf 16 = .ok (.iload_n 2, 1) := by decide +kernel
theorem dX0_signOf_17 : decode cX0_signOf 17 = .ok (.ishr, 1) := by decide +kernel
theorem dX0_signOf_18 : decode cX0_signOf 18 = .ok (.iconst 1, 1) := by decide +kernel
theorem dX0_signOf_19 : decode cX0_signOf 19 = .ok (.iand, 1) := by decide +kernel
theorem dX0_signOf_20 : decode cX0_signOf 20 = .ok (.iconst 1, 1) := by decide +kernel
theorem dX0_signOf_21 : decode cX0_signOf 21 = .ok (.if_icmp .ne 7, 3) := by decide +kernel
theorem dX0_signOf_24 : decode cX0_signOf 24 = .ok (.iconst 1, 1) := by decide +kernel
theorem dX0_signOf_25 : decode cX0_signOf 25 = .ok (.goto 4, 3) := by decide +kernel
theorem dX0_signOf_28 : decode cX0_signOf 28 = .ok (.iconst (-1), 1) := by decide +kernel
theorem dX0_signOf_29 : decode cX0_signOf 29 = .ok (.ireturn, 1) := by decide +kernel
theorem dX0_isRoot_0 : decode cX0_isRoot 0 = .ok (.iload_n 0, 1) := by decide +kernel
theorem dX0_isRoot_1 : decode cX0_isRoot 1 = .ok (.iconst 2, 1) := by decide +kernel
theorem dX0_isRoot_2 : decode cX0_isRoot 2 = .ok (.if_icmp .lt 8, 3) := by decide +kernel
theorem dX0_isRoot_5 : decode cX0_isRoot 5 = .ok (.iload_n 0, 1) := by decide +kernel
theorem dX0_isRoot_6 : decode cX0_isRoot 6 = .ok (.iload_n 1, 1) := by decide +kernel
theorem dX0_isRoot_7 : decode cX0_isRoot 7 = .ok (.if_icmp .lt 5, 3) := by decide +kernel
theorem dX0_isRoot_10 : decode cX0_isRoot 10 = .ok (.iconst 0, 1) := by decide +kernel
theorem dX0_isRoot_11 : decode cX0_isRoot 11 = .ok (.ireturn, 1) := by decide +kernel
theorem dX0_isRoot_12 : decode cX0_isRoot 12 = .ok (.iconst 0, 1) := by decide +kernel
theorem dX0_isRoot_13 : decode cX0_isRoot 13 = .ok (.istore_n 2, 1) := by decide +kernel
theorem dX0_isRoot_14 : decode cX0_isRoot 14 = .ok (.iconst 1, 1) := by decide +kernel
theorem dX0_isRoot_15 : decode cX0_isRoot 15 = .ok (.istore_n 3, 1) := by decide +kernel
theorem dX0_isRoot_16 : decode cX0_isRoot 16 = .ok (.iconst 1, 1) := by decide +kernel
theorem dX0_isRoot_17 : decode cX0_isRoot 17 = .ok (.istore 4, 2) := by decide +kernel
theorem dX0_isRoot_19 : decode cX0_isRoot 19 = .ok (.iload 4, 2) := by decide +kernel
theorem dX0_isRoot_21 : decode cX0_isRoot 21 = .ok (.iload_n 1, 1) := by decide +kernel
theorem dX0_isRoot_22 : decode cX0_isRoot 22 = .ok (.if_icmp .ge 32, 3) := by decide +kernel
theorem dX0_isRoot_25 : decode cX0_isRoot 25 = .ok (.iload_n 3, 1) := by decide +kernel
theorem dX0_isRoot_26 : decode cX0_isRoot 26 = .ok (.iload_n 0, 1) := by decide +kernel
theorem dX0_isRoot_27 : decode cX0_isRoot 27 = .ok (.imul, 1) := by decide +kernel
theorem dX0_isRoot_28 : decode cX0_isRoot 28 = .ok (.iload_n 1, 1) := by decide +kernel
theorem dX0_isRoot_29 : decode cX0_isRoot 29 = .ok (.irem, 1) := by decide +kernel
theorem dX0_isRoot_30 : decode cX0_isRoot 30 = .ok (.istore_n 3, 1) := by decide +kernel
theorem dX0_isRoot_31 : decode cX0_isRoot 31 = .ok (.iload_n 2, 1) := by decide +kernel
theorem dX0_isRoot_32 : decode cX0_isRoot 32 = .ok (.iload_n 3, 1) := by decide +kernel
theorem dX0_isRoot_33 : decode cX0_isRoot 33 = .ok (.ishr, 1) := by decide +kernel
theorem dX0_isRoot_34 : decode cX0_isRoot 34 = .ok (.iconst 1, 1) := by decide +kernel
theorem dX0_isRoot_35 : decode cX0_isRoot 35 = .ok (.iand, 1) := by decide +kernel
theorem dX0_isRoot_36 : decode cX0_isRoot 36 = .ok (.iconst 1, 1) := by decide +kernel
theorem dX0_isRoot_37 : decode cX0_isRoot 37 = .ok (.if_icmp .ne 5, 3) := by decide +kernel
theorem dX0_isRoot_40 : decode cX0_isRoot 40 = .ok (.iconst 0, 1) := by decide +kernel
theorem dX0_isRoot_41 : decode cX0_isRoot 41 = .ok (.ireturn, 1) := by decide +kernel
theorem dX0_isRoot_42 : decode cX0_isRoot 42 = .ok (.iload_n 2, 1) := by decide +kernel
theorem dX0_isRoot_43 : decode cX0_isRoot 43 = .ok (.iconst 1, 1) := by decide +kernel
theorem dX0_isRoot_44 : decode cX0_isRoot 44 = .ok (.iload_n 3, 1) := by decide +kernel
theorem dX0_isRoot_45 : decode cX0_isRoot 45 = .ok (.ishl, 1) := by decide +kernel
theorem dX0_isRoot_46 : decode cX0_isRoot 46 = .ok (.ior, 1) := by decide +kernel
theorem dX0_isRoot_47 : decode cX0_isRoot 47 = .ok (.istore_n 2, 1) := by decide +kernel
theorem dX0_isRoot_48 : decode cX0_isRoot 48 = .ok (.iinc 4 1, 3) := by decide +kernel
theorem dX0_isRoot_51 : decode cX0_isRoot 51 = .ok (.goto (-32), 3) := by decide +kernel
theorem dX0_isRoot_54 : decode cX0_isRoot 54 = .ok (.iconst 1, 1) := by decide +kernel
theorem dX0_isRoot_55 : decode cX0_isRoot 55 = .ok (.ireturn, 1) := by decide +kernel
theorem dX0_lowestRoot_0 : decode cX0_lowestRoot 0 = .ok (.iconst 2, 1) := by decide +kernel
theorem dX0_lowestRoot_1 : decode cX0_lowestRoot 1 = .ok (.istore_n 1, 1) := by decide +kernel
theorem dX0_lowestRoot_2 : decode cX0_lowestRoot 2 = .ok (.iload_n 1, 1) := by decide +kernel
theorem dX0_lowestRoot_3 : decode cX0_lowestRoot 3 = .ok (.iload_n 0, 1) := by decide +kernel
theorem dX0_lowestRoot_4 : decode cX0_lowestRoot 4 = .ok (.if_icmp .ge 19, 3) := by decide +kernel
theorem dX0_lowestRoot_7 : decode cX0_lowestRoot 7 = .ok (.iload_n 1, 1) := by decide +kernel
theorem dX0_lowestRoot_8 : decode cX0_lowestRoot 8 = .ok (.iload_n 0, 1) := by decide +kernel
theorem dX0_lowestRoot_9 : decode cX0_lowestRoot 9 = .ok (.invokestatic 23, 3) := by decide +kernel
theorem dX0_lowestRoot_12 : decode cX0_lowestRoot 12 = .ok (.ifCond .eq 5, 3) := by decide +kernel
theorem dX0_lowestRoot_15 : decode cX0_lowestRoot 15 = .ok (.iload_n 1, 1) := by decide +kernel
theorem dX0_lowestRoot_16 : decode cX0_lowestRoot 16 = .ok (.ireturn, 1) := by decide +kernel
theorem dX0_lowestRoot_17 : decode cX0_lowestRoot 17 = .ok (.iinc 1 1, 3) := by decide +kernel
theorem dX0_lowestRoot_20 : decode cX0_lowestRoot 20 = .ok (.goto (-18), 3) := by decide +kernel
theorem dX0_lowestRoot_23 : decode cX0_lowestRoot 23 = .ok (.iconst (-1), 1) := by decide +kernel
theorem dX0_lowestRoot_24 : decode cX0_lowestRoot 24 = .ok (.ireturn, 1) := by decide +kernel
theorem dX0_rootCount_0 : decode cX0_rootCount 0 = .ok (.iconst 0, 1) := by decide +kernel
theorem dX0_rootCount_1 : decode cX0_rootCount 1 = .ok (.istore_n 1, 1) := by decide +kernel
theorem dX0_rootCount_2 : decode cX0_rootCount 2 = .ok (.iconst 2, 1) := by decide +kernel
theorem dX0_rootCount_3 : decode cX0_rootCount 3 = .ok (.istore_n 2, 1) := by decide +kernel
theorem dX0_rootCount_4 : decode cX0_rootCount 4 = .ok (.iload_n 2, 1) := by decide +kernel
theorem dX0_rootCount_5 : decode cX0_rootCount 5 = .ok (.iload_n 0, 1) := by decide +kernel
theorem dX0_rootCount_6 : decode cX0_rootCount 6 = .ok (.if_icmp .ge 20, 3) := by decide +kernel
theorem dX0_rootCount_9 : decode cX0_rootCount 9 = .ok (.iload_n 2, 1) := by decide +kernel
theorem dX0_rootCount_10 : decode cX0_rootCount 10 = .ok (.iload_n 0, 1) := by decide +kernel
theorem dX0_rootCount_11 : decode cX0_rootCount 11 = .ok (.invokestatic 23, 3) := by decide +kernel
theorem dX0_rootCount_14 : decode cX0_rootCount 14 = .ok (.ifCond .eq 6, 3) := by decide +kernel
theorem dX0_rootCount_17 : decode cX0_rootCount 17 = .ok (.iinc 1 1, 3) := by decide +kernel
theorem dX0_rootCount_20 : decode cX0_rootCount 20 = .ok (.iinc 2 1, 3) := by decide +kernel
theorem dX0_rootCount_23 : decode cX0_rootCount 23 = .ok (.goto (-19), 3) := by decide +kernel
theorem dX0_rootCount_26 : decode cX0_rootCount 26 = .ok (.iload_n 1, 1) := by decide +kernel
theorem dX0_rootCount_27 : decode cX0_rootCount 27 = .ok (.ireturn, 1) := by decide +kernel
theorem dX1_init_0 : decode cX1_init 0 = .ok (.aload_n 0, 1) := by decide +kernel
theorem dX1_init_1 : decode cX1_init 1 = .ok (.invokespecial 3, 3) := by decide +kernel
theorem dX1_init_4 : decode cX1_init 4 = .ok (.aload_n 0, 1) := by decide +kernel
theorem dX1_init_5 : decode cX1_init 5 = .ok (.iload_n 1, 1) := by decide +kernel
theorem dX1_init_6 : decode cX1_init 6 = .ok (.putfield 9, 3) := by decide +kernel
theorem dX1_init_9 : decode cX1_init 9 = .ok (.aload_n 0, 1) := by decide +kernel
theorem dX1_init_10 : decode cX1_init 10 = .ok (.iload_n 2, 1) := by decide +kernel
theorem dX1_init_11 : decode cX1_init 11 = .ok (.putfield 15, 3) := by decide +kernel
theorem dX1_init_14 : decode cX1_init 14 = .ok (.aload_n 0, 1) := by decide +kernel
theorem dX1_init_15 : decode cX1_init 15 = .ok (.iload_n 3, 1) := by decide +kernel
theorem dX1_init_16 : decode cX1_init 16 = .ok (.putfield 18, 3) := by decide +kernel
theorem dX1_init_19 : decode cX1_init 19 = .ok (.aload_n 0, 1) := by decide +kernel
theorem dX1_init_20 : decode cX1_init 20 = .ok (.iload 4, 2) := by decide +kernel
theorem dX1_init_22 : decode cX1_init 22 = .ok (.putfield 21, 3) := by decide +kernel
theorem dX1_init_25 : decode cX1_init 25 = .ok (.aload_n 0, 1) := by decide +kernel
theorem dX1_init_26 : decode cX1_init 26 = .ok (.iload 5, 2) := by decide +kernel
theorem dX1_init_28 : decode cX1_init 28 = .ok (.putfield 24, 3) := by decide +kernel
theorem dX1_init_31 : decode cX1_init 31 = .ok (.aload_n 0, 1) := by decide +kernel
theorem dX1_init_32 : decode cX1_init 32 = .ok (.iload_n 1, 1) := by decide +kernel
theorem dX1_init_33 : decode cX1_init 33 = .ok (.iconst 1, 1) := by decide +kernel
theorem dX1_init_34 : decode cX1_init 34 = .ok (.if_icmp .ne 9, 3) := by decide +kernel
theorem dX1_init_37 : decode cX1_init 37 = .ok (.iload_n 2, 1) := by decide +kernel
theorem dX1_init_38 : decode cX1_init 38 = .ok (.iconst 1, 1) := by decide +kernel
theorem dX1_init_39 : decode cX1_init 39 = .ok (.isub, 1) := by decide +kernel
theorem dX1_init_40 : decode cX1_init 40 = .ok (.goto 4, 3) := by decide +kernel
theorem dX1_init_43 : decode cX1_init 43 = .ok (.iload_n 2, 1) := by decide +kernel
theorem dX1_init_44 : decode cX1_init 44 = .ok (.putfield 27, 3) := by decide +kernel
theorem dX1_init_47 : decode cX1_init 47 = .ok (.aload_n 0, 1) := by decide +kernel
theorem dX1_init_48 : decode cX1_init 48 = .ok (.iload_n 1, 1) := by decide +kernel
theorem dX1_init_49 : decode cX1_init 49 = .ok (.iload_n 2, 1) := by decide +kernel
theorem dX1_init_50 : decode cX1_init 50 = .ok (.iload_n 3, 1) := by decide +kernel
theorem dX1_init_51 : decode cX1_init 51 = .ok (.invokestatic 30, 3) := by decide +kernel
theorem dX1_init_54 : decode cX1_init 54 = .ok (.putfield 34, 3) := by decide +kernel
theorem dX1_init_57 : decode cX1_init 57 = .ok (.return_, 1) := by decide +kernel
theorem dX1_rowOf_0 : decode cX1_rowOf 0 = .ok (.bipush 31, 2) := by decide +kernel
theorem dX1_rowOf_2 : decode cX1_rowOf 2 = .ok (.newarray .int, 2) := by decide +kernel
theorem dX1_rowOf_4 : decode cX1_rowOf 4 = .ok (.astore_n 3, 1) := by decide +kernel
theorem dX1_rowOf_5 : decode cX1_rowOf 5 = .ok (.iconst 1, 1) := by decide +kernel
theorem dX1_rowOf_6 : decode cX1_rowOf 6 = .ok (.istore 4, 2) := by decide +kernel
theorem dX1_rowOf_8 : decode cX1_rowOf 8 = .ok (.iload_n 1, 1) := by decide +kernel
theorem dX1_rowOf_9 : decode cX1_rowOf 9 = .ok (.invokestatic 38, 3) := by decide +kernel
theorem dX1_rowOf_12 : decode cX1_rowOf 12 = .ok (.istore 5, 2) := by decide +kernel
theorem dX1_rowOf_14 : decode cX1_rowOf 14 = .ok (.iconst 0, 1) := by decide +kernel
theorem dX1_rowOf_15 : decode cX1_rowOf 15 = .ok (.istore 6, 2) := by decide +kernel
theorem dX1_rowOf_17 : decode cX1_rowOf 17 = .ok (.iload 6, 2) := by decide +kernel
theorem dX1_rowOf_19 : decode cX1_rowOf 19 = .ok (.iload_n 1, 1) := by decide +kernel
theorem dX1_rowOf_20 : decode cX1_rowOf 20 = .ok (.if_icmp .ge 82, 3) := by decide +kernel
theorem dX1_rowOf_23 : decode cX1_rowOf 23 = .ok (.iload 6, 2) := by decide +kernel
theorem dX1_rowOf_25 : decode cX1_rowOf 25 = .ok (.aload_n 3, 1) := by decide +kernel
theorem dX1_rowOf_26 : decode cX1_rowOf 26 = .ok (.arraylength, 1) := by decide +kernel
theorem dX1_rowOf_27 : decode cX1_rowOf 27 = .ok (.if_icmp .ge 75, 3) := by decide +kernel
theorem dX1_rowOf_30 : decode cX1_rowOf 30 = .ok (.iload 4, 2) := by decide +kernel
theorem dX1_rowOf_32 : decode cX1_rowOf 32 = .ok (.iload_n 2, 1) := by decide +kernel
theorem dX1_rowOf_33 : decode cX1_rowOf 33 = .ok (.imul, 1) := by decide +kernel
theorem dX1_rowOf_34 : decode cX1_rowOf 34 = .ok (.iload_n 1, 1) := by decide +kernel
theorem dX1_rowOf_35 : decode cX1_rowOf 35 = .ok (.invokestatic 44, 3) := by decide +kernel
theorem dX1_rowOf_38 : decode cX1_rowOf 38 = .ok (.istore 4, 2) := by decide +kernel
theorem dX1_rowOf_40 : decode cX1_rowOf 40 = .ok (.iload_n 0, 1) := by decide +kernel
theorem dX1_rowOf_41 : decode cX1_rowOf 41 = .ok (.ifCond .ne 21, 3) := by decide +kernel
theorem dX1_rowOf_44 : decode cX1_rowOf 44 = .ok (.aload_n 3, 1) := by decide +kernel
theorem dX1_rowOf_45 : decode cX1_rowOf 45 = .ok (.iload 6, 2) := by decide +kernel
theorem dX1_rowOf_47 : decode cX1_rowOf 47 = .ok (.iload_n 2, 1) := by decide +kernel
theorem dX1_rowOf_48 : decode cX1_rowOf 48 = .ok (.iload 6, 2) := by decide +kernel
theorem dX1_rowOf_50 : decode cX1_rowOf 50 = .ok (.imul, 1) := by decide +kernel
theorem dX1_rowOf_51 : decode cX1_rowOf 51 = .ok (.iload 6, 2) := by decide +kernel
theorem dX1_rowOf_53 : decode cX1_rowOf 53 = .ok (.imul, 1) := by decide +kernel
theorem dX1_rowOf_54 : decode cX1_rowOf 54 = .ok (.iload_n 1, 1) := by decide +kernel
theorem dX1_rowOf_55 : decode cX1_rowOf 55 = .ok (.invokestatic 44, 3) := by decide +kernel
theorem dX1_rowOf_58 : decode cX1_rowOf 58 = .ok (.iastore, 1) := by decide +kernel
theorem dX1_rowOf_59 : decode cX1_rowOf 59 = .ok (.goto 37, 3) := by decide +kernel
theorem dX1_rowOf_62 : decode cX1_rowOf 62 = .ok (.iload_n 0, 1) := by decide +kernel
theorem dX1_rowOf_63 : decode cX1_rowOf 63 = .ok (.iconst 1, 1) := by decide +kernel
theorem dX1_rowOf_64 : decode cX1_rowOf 64 = .ok (.if_icmp .ne 12, 3) := by decide +kernel
theorem dX1_rowOf_67 : decode cX1_rowOf 67 = .ok (.aload_n 3, 1) := by decide +kernel
theorem dX1_rowOf_68 : decode cX1_rowOf 68 = .ok (.iload 6, 2) := by decide +kernel
theorem dX1_rowOf_70 : decode cX1_rowOf 70 = .ok (.iload 4, 2) := by decide +kernel
theorem dX1_rowOf_72 : decode cX1_rowOf 72 = .ok (.iastore, 1) := by decide +kernel
theorem dX1_rowOf_73 : decode cX1_rowOf 73 = .ok (.goto 23, 3) := by decide +kernel
theorem dX1_rowOf_76 : decode cX1_rowOf 76 = .ok (.aload_n 3, 1) := by decide +kernel
theorem dX1_rowOf_77 : decode cX1_rowOf 77 = .ok (.iload 6, 2) := by decide +kernel
theorem dX1_rowOf_79 : decode cX1_rowOf 79 = .ok (.iload 5, 2) := by decide +kernel
theorem dX1_rowOf_81 : decode cX1_rowOf 81 = .ok (.iload 6, 2) := by decide +kernel
theorem dX1_rowOf_83 : decode cX1_rowOf 83 = .ok (.ishr, 1) := by decide +kernel
theorem dX1_rowOf_84 : decode cX1_rowOf 84 = .ok (.iconst 1, 1) := by decide +kernel
theorem dX1_rowOf_85 : decode cX1_rowOf 85 = .ok (.iand, 1) := by decide +kernel
theorem dX1_rowOf_86 : decode cX1_rowOf 86 = .ok (.iconst 1, 1) := by decide +kernel
theorem dX1_rowOf_87 : decode cX1_rowOf 87 = .ok (.if_icmp .ne 7, 3) := by decide +kernel
theorem dX1_rowOf_90 : decode cX1_rowOf 90 = .ok (.iload_n 2, 1) := by decide +kernel
theorem dX1_rowOf_91 : decode cX1_rowOf 91 = .ok (.goto 4, 3) := by decide +kernel
theorem dX1_rowOf_94 : decode cX1_rowOf 94 = .ok (.iconst 0, 1) := by decide +kernel
theorem dX1_rowOf_95 : decode cX1_rowOf 95 = .ok (.iastore, 1) := by decide +kernel
theorem dX1_rowOf_96 : decode cX1_rowOf 96 = .ok (.iinc 6 1, 3) := by decide +kernel
theorem dX1_rowOf_99 : decode cX1_rowOf 99 = .ok (.goto (-82), 3) := by decide +kernel
theorem dX1_rowOf_102 : decode cX1_rowOf 102 = .ok (.aload_n 3, 1) := by decide +kernel
theorem dX1_rowOf_103 : decode cX1_rowOf 103 = .ok (.areturn, 1) := by decide +kernel
theorem dX1_factorFits_0 : decode cX1_factorFits 0 = .ok (.iload_n 0, 1) := by decide +kernel
theorem dX1_factorFits_1 : decode cX1_factorFits 1 = .ok (.ifCond .ne 19, 3) := by decide +kernel
theorem dX1_factorFits_4 : decode cX1_factorFits 4 = .ok (.iload_n 2, 1) := by decide +kernel
theorem dX1_factorFits_5 : decode cX1_factorFits 5 = .ok (.iconst 1, 1) := by decide +kernel
theorem dX1_factorFits_6 : decode cX1_factorFits 6 = .ok (.if_icmp .lt 12, 3) := by decide +kernel
theorem dX1_factorFits_9 : decode cX1_factorFits 9 = .ok (.iload_n 2, 1) := by decide +kernel
theorem dX1_factorFits_10 : decode cX1_factorFits 10 = .ok (.iload_n 1, 1) := by decide +kernel
theorem dX1_factorFits_11 : decode cX1_factorFits 11 = .ok (.if_icmp .ge 7, 3) := by decide +kernel
theorem dX1_factorFits_14 : decode cX1_factorFits 14 = .ok (.iconst 1, 1) := by decide +kernel
theorem dX1_factorFits_15 : decode cX1_factorFits 15 = .ok (.goto 4, 3) := by decide +kernel
theorem dX1_factorFits_18 : decode cX1_factorFits 18 = .ok (.iconst 0, 1) := by decide +kernel
theorem dX1_factorFits_19 : decode cX1_factorFits 19 = .ok (.ireturn, 1) := by decide +kernel
theorem dX1_factorFits_20 : decode cX1_factorFits 20 = .ok (.iload_n 0, 1) := by decide +kernel
theorem dX1_factorFits_21 : decode cX1_factorFits 21 = .ok (.iconst 1, 1) := by decide +kernel
theorem dX1_factorFits_22 : decode cX1_factorFits 22 = .ok (.if_icmp .ne 9, 3) := by decide +kernel
theorem dX1_factorFits_25 : decode cX1_factorFits 25 = .ok (.iload_n 2, 1) := by decide +kernel
theorem dX1_factorFits_26 : decode cX1_factorFits 26 = .ok (.iload_n 1, 1) := by decide +kernel
theorem dX1_factorFits_27 : decode cX1_factorFits 27 = .ok (.invokestatic 48, 3) := by decide +kernel
theorem dX1_factorFits_30 : decode cX1_factorFits 30 = .ok (.ireturn, 1) := by decide +kernel
theorem dX1_factorFits_31 : decode cX1_factorFits 31 = .ok (.iload_n 2, 1) := by decide +kernel
theorem dX1_factorFits_32 : decode cX1_factorFits 32 = .ok (.iconst 1, 1) := by decide +kernel
theorem dX1_factorFits_33 : decode cX1_factorFits 33 = .ok (.if_icmp .lt 13, 3) := by decide +kernel
theorem dX1_factorFits_36 : decode cX1_factorFits 36 = .ok (.iload_n 2, 1) := by decide +kernel
theorem dX1_factorFits_37 : decode cX1_factorFits 37 = .ok (.bipush 9, 2) := by decide +kernel
theorem dX1_factorFits_39 : decode cX1_factorFits 39 = .ok (.if_icmp .gt 7, 3) := by decide +kernel
theorem dX1_factorFits_42 : decode cX1_factorFits 42 = .ok (.iconst 1, 1) := by decide +kernel
theorem dX1_factorFits_43 : decode cX1_factorFits 43 = .ok (.goto 4, 3) := by decide +kernel
theorem dX1_factorFits_46 : decode cX1_factorFits 46 = .ok (.iconst 0, 1) := by decide +kernel
theorem dX1_factorFits_47 : decode cX1_factorFits 47 = .ok (.ireturn, 1) := by decide +kernel
theorem dX1_offsetFits_0 : decode cX1_offsetFits 0 = .ok (.iload_n 1, 1) := by decide +kernel
theorem dX1_offsetFits_1 : decode cX1_offsetFits 1 = .ok (.ifCond .lt 12, 3) := by decide +kernel
theorem dX1_offsetFits_4 : decode cX1_offsetFits 4 = .ok (.iload_n 1, 1) := by decide +kernel
theorem dX1_offsetFits_5 : decode cX1_offsetFits 5 = .ok (.iload_n 0, 1) := by decide +kernel
theorem dX1_offsetFits_6 : decode cX1_offsetFits 6 = .ok (.if_icmp .ge 7, 3) := by decide +kernel
theorem dX1_offsetFits_9 : decode cX1_offsetFits 9 = .ok (.iconst 1, 1) := by decide +kernel
theorem dX1_offsetFits_10 : decode cX1_offsetFits 10 = .ok (.goto 4, 3) := by decide +kernel
theorem dX1_offsetFits_13 : decode cX1_offsetFits 13 = .ok (.iconst 0, 1) := by decide +kernel
theorem dX1_offsetFits_14 : decode cX1_offsetFits 14 = .ok (.ireturn, 1) := by decide +kernel
theorem dX1_wellsFit_0 : decode cX1_wellsFit 0 = .ok (.iload_n 0, 1) := by decide +kernel
theorem dX1_wellsFit_1 : decode cX1_wellsFit 1 = .ok (.iconst 1, 1) := by decide +kernel
theorem dX1_wellsFit_2 : decode cX1_wellsFit 2 = .ok (.if_icmp .lt 13, 3) := by decide +kernel
theorem dX1_wellsFit_5 : decode cX1_wellsFit 5 = .ok (.iload_n 0, 1) := by decide +kernel
theorem dX1_wellsFit_6 : decode cX1_wellsFit 6 = .ok (.bipush 40, 2) := by decide +kernel
theorem dX1_wellsFit_8 : decode cX1_wellsFit 8 = .ok (.if_icmp .gt 7, 3) := by decide +kernel
theorem dX1_wellsFit_11 : decode cX1_wellsFit 11 = .ok (.iconst 1, 1) := by decide +kernel
theorem dX1_wellsFit_12 : decode cX1_wellsFit 12 = .ok (.goto 4, 3) := by decide +kernel
theorem dX1_wellsFit_15 : decode cX1_wellsFit 15 = .ok (.iconst 0, 1) := by decide +kernel
theorem dX1_wellsFit_16 : decode cX1_wellsFit 16 = .ok (.ireturn, 1) := by decide +kernel
theorem dX1_allows_0 : decode cX1_allows 0 = .ok (.iload_n 1, 1) := by decide +kernel
theorem dX1_allows_1 : decode cX1_allows 1 = .ok (.tableswitch 54 0 2 #[27, 40, 49], 27) := by decide +kernel
theorem dX1_allows_28 : decode cX1_allows 28 = .ok (.aload_n 0, 1) := by decide +kernel
theorem dX1_allows_29 : decode cX1_allows 29 = .ok (.getfield 9, 3) := by decide +kernel
theorem dX1_allows_32 : decode cX1_allows 32 = .ok (.aload_n 0, 1) := by decide +kernel
theorem dX1_allows_33 : decode cX1_allows 33 = .ok (.getfield 15, 3) := by decide +kernel
theorem dX1_allows_36 : decode cX1_allows 36 = .ok (.iload_n 2, 1) := by decide +kernel
theorem dX1_allows_37 : decode cX1_allows 37 = .ok (.invokestatic 52, 3) := by decide +kernel
theorem dX1_allows_40 : decode cX1_allows 40 = .ok (.ireturn, 1) := by decide +kernel
theorem dX1_allows_41 : decode cX1_allows 41 = .ok (.aload_n 0, 1) := by decide +kernel
theorem dX1_allows_42 : decode cX1_allows 42 = .ok (.getfield 15, 3) := by decide +kernel
theorem dX1_allows_45 : decode cX1_allows 45 = .ok (.iload_n 2, 1) := by decide +kernel
theorem dX1_allows_46 : decode cX1_allows 46 = .ok (.invokestatic 56, 3) := by decide +kernel
theorem dX1_allows_49 : decode cX1_allows 49 = .ok (.ireturn, 1) := by decide +kernel
theorem dX1_allows_50 : decode cX1_allows 50 = .ok (.iload_n 2, 1) := by decide +kernel
theorem dX1_allows_51 : decode cX1_allows 51 = .ok (.invokestatic 59, 3) := by decide +kernel
theorem dX1_allows_54 : decode cX1_allows 54 = .ok (.ireturn, 1) := by decide +kernel
theorem dX1_allows_55 : decode cX1_allows 55 = .ok (.iconst 0, 1) := by decide +kernel
theorem dX1_allows_56 : decode cX1_allows 56 = .ok (.ireturn, 1) := by decide +kernel
theorem dX1_measure_0 : decode cX1_measure 0 = .ok (.iload_n 1, 1) := by decide +kernel
theorem dX1_measure_1 : decode cX1_measure 1 = .ok (.lookupswitch 37 #[(0, 27), (1, 32)], 27) := by decide +kernel
theorem dX1_measure_28 : decode cX1_measure 28 = .ok (.aload_n 0, 1) := by decide +kernel
theorem dX1_measure_29 : decode cX1_measure 29 = .ok (.getfield 18, 3) := by decide +kernel
theorem dX1_measure_32 : decode cX1_measure 32 = .ok (.ireturn, 1) := by decide +kernel
theorem dX1_measure_33 : decode cX1_measure 33 = .ok (.aload_n 0, 1) := by decide +kernel
theorem dX1_measure_34 : decode cX1_measure 34 = .ok (.getfield 21, 3) := by decide +kernel
theorem dX1_measure_37 : decode cX1_measure 37 = .ok (.ireturn, 1) := by decide +kernel
theorem dX1_measure_38 : decode cX1_measure 38 = .ok (.aload_n 0, 1) := by decide +kernel
theorem dX1_measure_39 : decode cX1_measure 39 = .ok (.getfield 24, 3) := by decide +kernel
theorem dX1_measure_42 : decode cX1_measure 42 = .ok (.ireturn, 1) := by decide +kernel
theorem dX1_withMeasure_0 : decode cX1_withMeasure 0 = .ok (.iload_n 1, 1) := by decide +kernel
theorem dX1_withMeasure_1 : decode cX1_withMeasure 1 = .ok (.lookupswitch 77 #[(0, 27), (1, 52)], 27) := by decide +kernel
theorem dX1_withMeasure_28 : decode cX1_withMeasure 28 = .ok (.new 10, 3) := by decide +kernel
theorem dX1_withMeasure_31 : decode cX1_withMeasure 31 = .ok (.dup, 1) := by decide +kernel
theorem dX1_withMeasure_32 : decode cX1_withMeasure 32 = .ok (.aload_n 0, 1) := by decide +kernel
theorem dX1_withMeasure_33 : decode cX1_withMeasure 33 = .ok (.getfield 9, 3) := by decide +kernel
theorem dX1_withMeasure_36 : decode cX1_withMeasure 36 = .ok (.aload_n 0, 1) := by decide +kernel
theorem dX1_withMeasure_37 : decode cX1_withMeasure 37 = .ok (.getfield 15, 3) := by decide +kernel
theorem dX1_withMeasure_40 : decode cX1_withMeasure 40 = .ok (.iload_n 2, 1) := by decide +kernel
theorem dX1_withMeasure_41 : decode cX1_withMeasure 41 = .ok (.aload_n 0, 1) := by decide +kernel
theorem dX1_withMeasure_42 : decode cX1_withMeasure 42 = .ok (.getfield 21, 3) := by decide +kernel
theorem dX1_withMeasure_45 : decode cX1_withMeasure 45 = .ok (.aload_n 0, 1) := by decide +kernel
theorem dX1_withMeasure_46 : decode cX1_withMeasure 46 = .ok (.getfield 24, 3) := by decide +kernel
theorem dX1_withMeasure_49 : decode cX1_withMeasure 49 = .ok (.invokespecial 63, 3) := by decide +kernel
theorem dX1_withMeasure_52 : decode cX1_withMeasure 52 = .ok (.areturn, 1) := by decide +kernel
theorem dX1_withMeasure_53 : decode cX1_withMeasure 53 = .ok (.new 10, 3) := by decide +kernel
theorem dX1_withMeasure_56 : decode cX1_withMeasure 56 = .ok (.dup, 1) := by decide +kernel
theorem dX1_withMeasure_57 : decode cX1_withMeasure 57 = .ok (.aload_n 0, 1) := by decide +kernel
theorem dX1_withMeasure_58 : decode cX1_withMeasure 58 = .ok (.getfield 9, 3) := by decide +kernel
theorem dX1_withMeasure_61 : decode cX1_withMeasure 61 = .ok (.aload_n 0, 1) := by decide +kernel
theorem dX1_withMeasure_62 : decode cX1_withMeasure 62 = .ok (.getfield 15, 3) := by decide +kernel
theorem dX1_withMeasure_65 : decode cX1_withMeasure 65 = .ok (.aload_n 0, 1) := by decide +kernel
theorem dX1_withMeasure_66 : decode cX1_withMeasure 66 = .ok (.getfield 18, 3) := by decide +kernel
theorem dX1_withMeasure_69 : decode cX1_withMeasure 69 = .ok (.iload_n 2, 1) := by decide +kernel
theorem dX1_withMeasure_70 : decode cX1_withMeasure 70 = .ok (.aload_n 0, 1) := by decide +kernel
theorem dX1_withMeasure_71 : decode cX1_withMeasure 71 = .ok (.getfield 24, 3) := by decide +kernel
theorem dX1_withMeasure_74 : decode cX1_withMeasure 74 = .ok (.invokespecial 63, 3) := by decide +kernel
theorem dX1_withMeasure_77 : decode cX1_withMeasure 77 = .ok (.areturn, 1) := by decide +kernel
theorem dX1_withMeasure_78 : decode cX1_withMeasure 78 = .ok (.new 10, 3) := by decide +kernel
theorem dX1_withMeasure_81 : decode cX1_withMeasure 81 = .ok (.dup, 1) := by decide +kernel
theorem dX1_withMeasure_82 : decode cX1_withMeasure 82 = .ok (.aload_n 0, 1) := by decide +kernel
theorem dX1_withMeasure_83 : decode cX1_withMeasure 83 = .ok (.getfield 9, 3) := by decide +kernel
theorem dX1_withMeasure_86 : decode cX1_withMeasure 86 = .ok (.aload_n 0, 1) := by decide +kernel
theorem dX1_withMeasure_87 : decode cX1_withMeasure 87 = .ok (.getfield 15, 3) := by decide +kernel
theorem dX1_withMeasure_90 : decode cX1_withMeasure 90 = .ok (.aload_n 0, 1) := by decide +kernel
theorem dX1_withMeasure_91 : decode cX1_withMeasure 91 = .ok (.getfield 18, 3) := by decide +kernel
theorem dX1_withMeasure_94 : decode cX1_withMeasure 94 = .ok (.aload_n 0, 1) := by decide +kernel
theorem dX1_withMeasure_95 : decode cX1_withMeasure 95 = .ok (.getfield 21, 3) := by decide +kernel
theorem dX1_withMeasure_98 : decode cX1_withMeasure 98 = .ok (.iload_n 2, 1) := by decide +kernel
theorem dX1_withMeasure_99 : decode cX1_withMeasure 99 = .ok (.invokespecial 63, 3) := by decide +kernel
theorem dX1_withMeasure_102 : decode cX1_withMeasure 102 = .ok (.areturn, 1) := by decide +kernel
theorem dX1_hasWell_0 : decode cX1_hasWell 0 = .ok (.iload_n 1, 1) := by decide +kernel
theorem dX1_hasWell_1 : decode cX1_hasWell 1 = .ok (.ifCond .lt 15, 3) := by decide +kernel
theorem dX1_hasWell_4 : decode cX1_hasWell 4 = .ok (.iload_n 1, 1) := by decide +kernel
theorem dX1_hasWell_5 : decode cX1_hasWell 5 = .ok (.aload_n 0, 1) := by decide +kernel
theorem dX1_hasWell_6 : decode cX1_hasWell 6 = .ok (.getfield 24, 3) := by decide +kernel
theorem dX1_hasWell_9 : decode cX1_hasWell 9 = .ok (.if_icmp .ge 7, 3) := by decide +kernel
theorem dX1_hasWell_12 : decode cX1_hasWell 12 = .ok (.iconst 1, 1) := by decide +kernel
theorem dX1_hasWell_13 : decode cX1_hasWell 13 = .ok (.goto 4, 3) := by decide +kernel
theorem dX1_hasWell_16 : decode cX1_hasWell 16 = .ok (.iconst 0, 1) := by decide +kernel
theorem dX1_hasWell_17 : decode cX1_hasWell 17 = .ok (.ireturn, 1) := by decide +kernel
theorem dX1_isRest_0 : decode cX1_isRest 0 = .ok (.iload_n 1, 1) := by decide +kernel
theorem dX1_isRest_1 : decode cX1_isRest 1 = .ok (.ifCond .lt 15, 3) := by decide +kernel
theorem dX1_isRest_4 : decode cX1_isRest 4 = .ok (.iload_n 1, 1) := by decide +kernel
theorem dX1_isRest_5 : decode cX1_isRest 5 = .ok (.aload_n 0, 1) := by decide +kernel
theorem dX1_isRest_6 : decode cX1_isRest 6 = .ok (.getfield 15, 3) := by decide +kernel
theorem dX1_isRest_9 : decode cX1_isRest 9 = .ok (.if_icmp .ge 7, 3) := by decide +kernel
theorem dX1_isRest_12 : decode cX1_isRest 12 = .ok (.iconst 1, 1) := by decide +kernel
theorem dX1_isRest_13 : decode cX1_isRest 13 = .ok (.goto 4, 3) := by decide +kernel
theorem dX1_isRest_16 : decode cX1_isRest 16 = .ok (.iconst 0, 1) := by decide +kernel
theorem dX1_isRest_17 : decode cX1_isRest 17 = .ok (.ireturn, 1) := by decide +kernel
theorem dX1_depthAt_0 : decode cX1_depthAt 0 = .ok (.iload_n 1, 1) := by decide +kernel
theorem dX1_depthAt_1 : decode cX1_depthAt 1 = .ok (.aload_n 0, 1) := by decide +kernel
theorem dX1_depthAt_2 : decode cX1_depthAt 2 = .ok (.getfield 27, 3) := by decide +kernel
theorem dX1_depthAt_5 : decode cX1_depthAt 5 = .ok (.invokestatic 44, 3) := by decide +kernel
theorem dX1_depthAt_8 : decode cX1_depthAt 8 = .ok (.istore_n 2, 1) := by decide +kernel
theorem dX1_depthAt_9 : decode cX1_depthAt 9 = .ok (.iload_n 2, 1) := by decide +kernel
theorem dX1_depthAt_10 : decode cX1_depthAt 10 = .ok (.aload_n 0, 1) := by decide +kernel
theorem dX1_depthAt_11 : decode cX1_depthAt 11 = .ok (.getfield 34, 3) := by decide +kernel
theorem dX1_depthAt_14 : decode cX1_depthAt 14 = .ok (.arraylength, 1) := by decide +kernel
theorem dX1_depthAt_15 : decode cX1_depthAt 15 = .ok (.if_icmp .ge 12, 3) := by decide +kernel
theorem dX1_depthAt_18 : decode cX1_depthAt 18 = .ok (.aload_n 0, 1) := by decide +kernel
theorem dX1_depthAt_19 : decode cX1_depthAt 19 = .ok (.getfield 34, 3) := by decide +kernel
theorem dX1_depthAt_22 : decode cX1_depthAt 22 = .ok (.iload_n 2, 1) := by decide +kernel
theorem dX1_depthAt_23 : decode cX1_depthAt 23 = .ok (.iaload, 1) := by decide +kernel
theorem dX1_depthAt_24 : decode cX1_depthAt 24 = .ok (.goto 4, 3) := by decide +kernel
theorem dX1_depthAt_27 : decode cX1_depthAt 27 = .ok (.iconst 0, 1) := by decide +kernel
theorem dX1_depthAt_28 : decode cX1_depthAt 28 = .ok (.ireturn, 1) := by decide +kernel
theorem dX1_wellDepth_0 : decode cX1_wellDepth 0 = .ok (.aload_n 0, 1) := by decide +kernel
theorem dX1_wellDepth_1 : decode cX1_wellDepth 1 = .ok (.iload_n 1, 1) := by decide +kernel
theorem dX1_wellDepth_2 : decode cX1_wellDepth 2 = .ok (.aload_n 0, 1) := by decide +kernel
theorem dX1_wellDepth_3 : decode cX1_wellDepth 3 = .ok (.getfield 21, 3) := by decide +kernel
theorem dX1_wellDepth_6 : decode cX1_wellDepth 6 = .ok (.iadd, 1) := by decide +kernel
theorem dX1_wellDepth_7 : decode cX1_wellDepth 7 = .ok (.invokevirtual 66, 3) := by decide +kernel
theorem dX1_wellDepth_10 : decode cX1_wellDepth 10 = .ok (.ireturn, 1) := by decide +kernel
theorem dX1_greatestDepth_0 : decode cX1_greatestDepth 0 = .ok (.iconst 0, 1) := by decide +kernel
theorem dX1_greatestDepth_1 : decode cX1_greatestDepth 1 = .ok (.istore_n 1, 1) := by decide +kernel
theorem dX1_greatestDepth_2 : decode cX1_greatestDepth 2 = .ok (.iconst 0, 1) := by decide +kernel
theorem dX1_greatestDepth_3 : decode cX1_greatestDepth 3 = .ok (.istore_n 2, 1) := by decide +kernel
theorem dX1_greatestDepth_4 : decode cX1_greatestDepth 4 = .ok (.iload_n 2, 1) := by decide +kernel
theorem dX1_greatestDepth_5 : decode cX1_greatestDepth 5 = .ok (.aload_n 0, 1) := by decide +kernel
theorem dX1_greatestDepth_6 : decode cX1_greatestDepth 6 = .ok (.getfield 24, 3) := by decide +kernel
theorem dX1_greatestDepth_9 : decode cX1_greatestDepth 9 = .ok (.if_icmp .ge 19, 3) := by decide +kernel
theorem dX1_greatestDepth_12 : decode cX1_greatestDepth 12 = .ok (.iload_n 1, 1) := by decide +kernel
theorem dX1_greatestDepth_13 : decode cX1_greatestDepth 13 = .ok (.aload_n 0, 1) := by decide +kernel
theorem dX1_greatestDepth_14 : decode cX1_greatestDepth 14 = .ok (.iload_n 2, 1) := by decide +kernel
theorem dX1_greatestDepth_15 : decode cX1_greatestDepth 15 = .ok (.invokevirtual 69, 3) := by decide +kernel
theorem dX1_greatestDepth_18 : decode cX1_greatestDepth 18 = .ok (.invokestatic 72, 3) := by decide +kernel
theorem dX1_greatestDepth_21 : decode cX1_greatestDepth 21 = .ok (.istore_n 1, 1) := by decide +kernel
theorem dX1_greatestDepth_22 : decode cX1_greatestDepth 22 = .ok (.iinc 2 1, 3) := by decide +kernel
theorem dX1_greatestDepth_25 : decode cX1_greatestDepth 25 = .ok (.goto (-21), 3) := by decide +kernel
theorem dX1_greatestDepth_28 : decode cX1_greatestDepth 28 = .ok (.iload_n 1, 1) := by decide +kernel
theorem dX1_greatestDepth_29 : decode cX1_greatestDepth 29 = .ok (.ireturn, 1) := by decide +kernel
theorem dX1_depthsTogether_0 : decode cX1_depthsTogether 0 = .ok (.iconst 0, 1) := by decide +kernel
theorem dX1_depthsTogether_1 : decode cX1_depthsTogether 1 = .ok (.istore_n 1, 1) := by decide +kernel
theorem dX1_depthsTogether_2 : decode cX1_depthsTogether 2 = .ok (.iconst 0, 1) := by decide +kernel
theorem dX1_depthsTogether_3 : decode cX1_depthsTogether 3 = .ok (.istore_n 2, 1) := by decide +kernel
theorem dX1_depthsTogether_4 : decode cX1_depthsTogether 4 = .ok (.iload_n 2, 1) := by decide +kernel
theorem dX1_depthsTogether_5 : decode cX1_depthsTogether 5 = .ok (.aload_n 0, 1) := by decide +kernel
theorem dX1_depthsTogether_6 : decode cX1_depthsTogether 6 = .ok (.getfield 24, 3) := by decide +kernel
theorem dX1_depthsTogether_9 : decode cX1_depthsTogether 9 = .ok (.if_icmp .ge 17, 3) := by decide +kernel
theorem dX1_depthsTogether_12 : decode cX1_depthsTogether 12 = .ok (.iload_n 1, 1) := by decide +kernel
theorem dX1_depthsTogether_13 : decode cX1_depthsTogether 13 = .ok (.aload_n 0, 1) := by decide +kernel
theorem dX1_depthsTogether_14 : decode cX1_depthsTogether 14 = .ok (.iload_n 2, 1) := by decide +kernel
theorem dX1_depthsTogether_15 : decode cX1_depthsTogether 15 = .ok (.invokevirtual 69, 3) := by decide +kernel
theorem dX1_depthsTogether_18 : decode cX1_depthsTogether 18 = .ok (.iadd, 1) := by decide +kernel
theorem dX1_depthsTogether_19 : decode cX1_depthsTogether 19 = .ok (.istore_n 1, 1) := by decide +kernel
theorem dX1_depthsTogether_20 : decode cX1_depthsTogether 20 = .ok (.iinc 2 1, 3) := by decide +kernel
theorem dX1_depthsTogether_23 : decode cX1_depthsTogether 23 = .ok (.goto (-19), 3) := by decide +kernel
theorem dX1_depthsTogether_26 : decode cX1_depthsTogether 26 = .ok (.iload_n 1, 1) := by decide +kernel
theorem dX1_depthsTogether_27 : decode cX1_depthsTogether 27 = .ok (.ireturn, 1) := by decide +kernel
theorem dX1_unlikeDepths_0 : decode cX1_unlikeDepths 0 = .ok (.iconst 0, 1) := by decide +kernel
theorem dX1_unlikeDepths_1 : decode cX1_unlikeDepths 1 = .ok (.istore_n 1, 1) := by decide +kernel
theorem dX1_unlikeDepths_2 : decode cX1_unlikeDepths 2 = .ok (.iconst 0, 1) := by decide +kernel
theorem dX1_unlikeDepths_3 : decode cX1_unlikeDepths 3 = .ok (.istore_n 2, 1) := by decide +kernel
theorem dX1_unlikeDepths_4 : decode cX1_unlikeDepths 4 = .ok (.iload_n 2, 1) := by decide +kernel
theorem dX1_unlikeDepths_5 : decode cX1_unlikeDepths 5 = .ok (.aload_n 0, 1) := by decide +kernel
theorem dX1_unlikeDepths_6 : decode cX1_unlikeDepths 6 = .ok (.getfield 24, 3) := by decide +kernel
theorem dX1_unlikeDepths_9 : decode cX1_unlikeDepths 9 = .ok (.if_icmp .ge 19, 3) := by decide +kernel
theorem dX1_unlikeDepths_12 : decode cX1_unlikeDepths 12 = .ok (.iload_n 1, 1) := by decide +kernel
theorem dX1_unlikeDepths_13 : decode cX1_unlikeDepths 13 = .ok (.iconst 1, 1) := by decide +kernel
theorem dX1_unlikeDepths_14 : decode cX1_unlikeDepths 14 = .ok (.aload_n 0, 1) := by decide +kernel
theorem dX1_unlikeDepths_15 : decode cX1_unlikeDepths 15 = .ok (.iload_n 2, 1) := by decide +kernel
theorem dX1_unlikeDepths_16 : decode cX1_unlikeDepths 16 = .ok (.invokevirtual 69, 3) := by decide +kernel
theorem dX1_unlikeDepths_19 : decode cX1_unlikeDepths 19 = .ok (.ishl, 1) := by decide +kernel
theorem dX1_unlikeDepths_20 : decode cX1_unlikeDepths 20 = .ok (.ior, 1) := by decide +kernel
theorem dX1_unlikeDepths_21 : decode cX1_unlikeDepths 21 = .ok (.istore_n 1, 1) := by decide +kernel
theorem dX1_unlikeDepths_22 : decode cX1_unlikeDepths 22 = .ok (.iinc 2 1, 3) := by decide +kernel
theorem dX1_unlikeDepths_25 : decode cX1_unlikeDepths 25 = .ok (.goto (-21), 3) := by decide +kernel
theorem dX1_unlikeDepths_28 : decode cX1_unlikeDepths 28 = .ok (.iload_n 1, 1) := by decide +kernel
theorem dX1_unlikeDepths_29 : decode cX1_unlikeDepths 29 = .ok (.invokestatic 77, 3) := by decide +kernel
theorem dX1_unlikeDepths_32 : decode cX1_unlikeDepths 32 = .ok (.ireturn, 1) := by decide +kernel
theorem dX1_isMirrored_0 : decode cX1_isMirrored 0 = .ok (.iconst 0, 1) := by decide +kernel
theorem dX1_isMirrored_1 : decode cX1_isMirrored 1 = .ok (.istore_n 1, 1) := by decide +kernel
theorem dX1_isMirrored_2 : decode cX1_isMirrored 2 = .ok (.iload_n 1, 1) := by decide +kernel
theorem dX1_isMirrored_3 : decode cX1_isMirrored 3 = .ok (.aload_n 0, 1) := by decide +kernel
theorem dX1_isMirrored_4 : decode cX1_isMirrored 4 = .ok (.getfield 24, 3) := by decide +kernel
theorem dX1_isMirrored_7 : decode cX1_isMirrored 7 = .ok (.if_icmp .ge 31, 3) := by decide +kernel
theorem dX1_isMirrored_10 : decode cX1_isMirrored 10 = .ok (.aload_n 0, 1) := by decide +kernel
theorem dX1_isMirrored_11 : decode cX1_isMirrored 11 = .ok (.iload_n 1, 1) := by decide +kernel
theorem dX1_isMirrored_12 : decode cX1_isMirrored 12 = .ok (.invokevirtual 69, 3) := by decide +kernel
theorem dX1_isMirrored_15 : decode cX1_isMirrored 15 = .ok (.aload_n 0, 1) := by decide +kernel
theorem dX1_isMirrored_16 : decode cX1_isMirrored 16 = .ok (.aload_n 0, 1) := by decide +kernel
theorem dX1_isMirrored_17 : decode cX1_isMirrored 17 = .ok (.getfield 24, 3) := by decide +kernel
theorem dX1_isMirrored_20 : decode cX1_isMirrored 20 = .ok (.iconst 1, 1) := by decide +kernel
theorem dX1_isMirrored_21 : decode cX1_isMirrored 21 = .ok (.isub, 1) := by decide +kernel
theorem dX1_isMirrored_22 : decode cX1_isMirrored 22 = .ok (.iload_n 1, 1) := by decide +kernel
theorem dX1_isMirrored_23 : decode cX1_isMirrored 23 = .ok (.isub, 1) := by decide +kernel
theorem dX1_isMirrored_24 : decode cX1_isMirrored 24 = .ok (.invokevirtual 69, 3) := by decide +kernel
theorem dX1_isMirrored_27 : decode cX1_isMirrored 27 = .ok (.if_icmp .eq 5, 3) := by decide +kernel
theorem dX1_isMirrored_30 : decode cX1_isMirrored 30 = .ok (.iconst 0, 1) := by decide +kernel
theorem dX1_isMirrored_31 : decode cX1_isMirrored 31 = .ok (.ireturn, 1) := by decide +kernel
theorem dX1_isMirrored_32 : decode cX1_isMirrored 32 = .ok (.iinc 1 1, 3) := by decide +kernel
theorem dX1_isMirrored_35 : decode cX1_isMirrored 35 = .ok (.goto (-33), 3) := by decide +kernel
theorem dX1_isMirrored_38 : decode cX1_isMirrored 38 = .ok (.iconst 1, 1) := by decide +kernel
theorem dX1_isMirrored_39 : decode cX1_isMirrored 39 = .ok (.ireturn, 1) := by decide +kernel
theorem dX1_differenceAt_0 : decode cX1_differenceAt 0 = .ok (.aload_n 0, 1) := by decide +kernel
theorem dX1_differenceAt_1 : decode cX1_differenceAt 1 = .ok (.iload_n 1, 1) := by decide +kernel
theorem dX1_differenceAt_2 : decode cX1_differenceAt 2 = .ok (.iload_n 2, 1) := by decide +kernel
theorem dX1_differenceAt_3 : decode cX1_differenceAt 3 = .ok (.iadd, 1) := by decide +kernel
theorem dX1_differenceAt_4 : decode cX1_differenceAt 4 = .ok (.invokevirtual 66, 3) := by decide +kernel
theorem dX1_differenceAt_7 : decode cX1_differenceAt 7 = .ok (.aload_n 0, 1) := by decide +kernel
theorem dX1_differenceAt_8 : decode cX1_differenceAt 8 = .ok (.iload_n 1, 1) := by decide +kernel
theorem dX1_differenceAt_9 : decode cX1_differenceAt 9 = .ok (.invokevirtual 66, 3) := by decide +kernel
theorem dX1_differenceAt_12 : decode cX1_differenceAt 12 = .ok (.isub, 1) := by decide +kernel
theorem dX1_differenceAt_13 : decode cX1_differenceAt 13 = .ok (.aload_n 0, 1) := by decide +kernel
theorem dX1_differenceAt_14 : decode cX1_differenceAt 14 = .ok (.getfield 15, 3) := by decide +kernel
theorem dX1_differenceAt_17 : decode cX1_differenceAt 17 = .ok (.invokestatic 44, 3) := by decide +kernel
theorem dX1_differenceAt_20 : decode cX1_differenceAt 20 = .ok (.ireturn, 1) := by decide +kernel
theorem dX1_countOf_0 : decode cX1_countOf 0 = .ok (.iconst 0, 1) := by decide +kernel
theorem dX1_countOf_1 : decode cX1_countOf 1 = .ok (.istore_n 3, 1) := by decide +kernel
theorem dX1_countOf_2 : decode cX1_countOf 2 = .ok (.iconst 0, 1) := by decide +kernel
theorem dX1_countOf_3 : decode cX1_countOf 3 = .ok (.istore 4, 2) := by decide +kernel
theorem dX1_countOf_5 : decode cX1_countOf 5 = .ok (.iload 4, 2) := by decide +kernel
theorem dX1_countOf_7 : decode cX1_countOf 7 = .ok (.aload_n 0, 1) := by decide +kernel
theorem dX1_countOf_8 : decode cX1_countOf 8 = .ok (.getfield 27, 3) := by decide +kernel
theorem dX1_countOf_11 : decode cX1_countOf 11 = .ok (.if_icmp .ge 23, 3) := by decide +kernel
theorem dX1_countOf_14 : decode cX1_countOf 14 = .ok (.aload_n 0, 1) := by decide +kernel
theorem dX1_countOf_15 : decode cX1_countOf 15 = .ok (.iload 4, 2) := by decide +kernel
theorem dX1_countOf_17 : decode cX1_countOf 17 = .ok (.iload_n 1, 1) := by decide +kernel
theorem dX1_countOf_18 : decode cX1_countOf 18 = .ok (.invokevirtual 82, 3) := by decide +kernel
theorem dX1_countOf_21 : decode cX1_countOf 21 = .ok (.iload_n 2, 1) := by decide +kernel
theorem dX1_countOf_22 : decode cX1_countOf 22 = .ok (.if_icmp .ne 6, 3) := by decide +kernel
theorem dX1_countOf_25 : decode cX1_countOf 25 = .ok (.iinc 3 1, 3) := by decide +kernel
theorem dX1_countOf_28 : decode cX1_countOf 28 = .ok (.iinc 4 1, 3) := by decide +kernel
theorem dX1_countOf_31 : decode cX1_countOf 31 = .ok (.goto (-26), 3) := by decide +kernel
theorem dX1_countOf_34 : decode cX1_countOf 34 = .ok (.iload_n 3, 1) := by decide +kernel
theorem dX1_countOf_35 : decode cX1_countOf 35 = .ok (.ireturn, 1) := by decide +kernel
theorem dX1_evenness_0 : decode cX1_evenness 0 = .ok (.bipush 31, 2) := by decide +kernel
theorem dX1_evenness_2 : decode cX1_evenness 2 = .ok (.newarray .int, 2) := by decide +kernel
theorem dX1_evenness_4 : decode cX1_evenness 4 = .ok (.astore_n 1, 1) := by decide +kernel
theorem dX1_evenness_5 : decode cX1_evenness 5 = .ok (.iconst 0, 1) := by decide +kernel
theorem dX1_evenness_6 : decode cX1_evenness 6 = .ok (.istore_n 2, 1) := by decide +kernel
theorem dX1_evenness_7 : decode cX1_evenness 7 = .ok (.aload_n 0, 1) := by decide +kernel
theorem dX1_evenness_8 : decode cX1_evenness 8 = .ok (.getfield 27, 3) := by decide +kernel
theorem dX1_evenness_11 : decode cX1_evenness 11 = .ok (.istore_n 3, 1) := by decide +kernel
theorem dX1_evenness_12 : decode cX1_evenness 12 = .ok (.iconst 1, 1) := by decide +kernel
theorem dX1_evenness_13 : decode cX1_evenness 13 = .ok (.istore 4, 2) := by decide +kernel
theorem dX1_evenness_15 : decode cX1_evenness 15 = .ok (.iload 4, 2) := by decide +kernel
theorem dX1_evenness_17 : decode cX1_evenness 17 = .ok (.aload_n 0, 1) := by decide +kernel
theorem dX1_evenness_18 : decode cX1_evenness 18 = .ok (.getfield 27, 3) := by decide +kernel
theorem dX1_evenness_21 : decode cX1_evenness 21 = .ok (.if_icmp .ge 100, 3) := by decide +kernel
theorem dX1_evenness_24 : decode cX1_evenness 24 = .ok (.aload_n 1, 1) := by decide +kernel
theorem dX1_evenness_25 : decode cX1_evenness 25 = .ok (.iconst 0, 1) := by decide +kernel
theorem dX1_evenness_26 : decode cX1_evenness 26 = .ok (.invokestatic 85, 3) := by decide +kernel
theorem dX1_evenness_29 : decode cX1_evenness 29 = .ok (.iconst 0, 1) := by decide +kernel
theorem dX1_evenness_30 : decode cX1_evenness 30 = .ok (.istore 5, 2) := by decide +kernel
theorem dX1_evenness_32 : decode cX1_evenness 32 = .ok (.iload 5, 2) := by decide +kernel
theorem dX1_evenness_34 : decode cX1_evenness 34 = .ok (.aload_n 0, 1) := by decide +kernel
theorem dX1_evenness_35 : decode cX1_evenness 35 = .ok (.getfield 27, 3) := by decide +kernel
theorem dX1_evenness_38 : decode cX1_evenness 38 = .ok (.if_icmp .ge 34, 3) := by decide +kernel
theorem dX1_evenness_41 : decode cX1_evenness 41 = .ok (.aload_n 0, 1) := by decide +kernel
theorem dX1_evenness_42 : decode cX1_evenness 42 = .ok (.iload 5, 2) := by decide +kernel
theorem dX1_evenness_44 : decode cX1_evenness 44 = .ok (.iload 4, 2) := by decide +kernel
theorem dX1_evenness_46 : decode cX1_evenness 46 = .ok (.invokevirtual 82, 3) := by decide +kernel
theorem dX1_evenness_49 : decode cX1_evenness 49 = .ok (.istore 6, 2) := by decide +kernel
theorem dX1_evenness_51 : decode cX1_evenness 51 = .ok (.iload 6, 2) := by decide +kernel
theorem dX1_evenness_53 : decode cX1_evenness 53 = .ok (.aload_n 1, 1) := by decide +kernel
theorem dX1_evenness_54 : decode cX1_evenness 54 = .ok (.arraylength, 1) := by decide +kernel
theorem dX1_evenness_55 : decode cX1_evenness 55 = .ok (.if_icmp .ge 11, 3) := by decide +kernel
theorem dX1_evenness_58 : decode cX1_evenness 58 = .ok (.aload_n 1, 1) := by decide +kernel
theorem dX1_evenness_59 : decode cX1_evenness 59 = .ok (.iload 6, 2) := by decide +kernel
theorem dX1_evenness_61 : decode cX1_evenness 61 = .ok (.dup2, 1) := by decide +kernel
theorem dX1_evenness_62 : decode cX1_evenness 62 = .ok (.iaload, 1) := by decide +kernel
theorem dX1_evenness_63 : decode cX1_evenness 63 = .ok (.iconst 1, 1) := by decide +kernel
theorem dX1_evenness_64 : decode cX1_evenness 64 = .ok (.iadd, 1) := by decide +kernel
theorem dX1_evenness_65 : decode cX1_evenness 65 = .ok (.iastore, 1) := by decide +kernel
theorem dX1_evenness_66 : decode cX1_evenness 66 = .ok (.iinc 5 1, 3) := by decide +kernel
theorem dX1_evenness_69 : decode cX1_evenness 69 = .ok (.goto (-37), 3) := by decide +kernel
theorem dX1_evenness_72 : decode cX1_evenness 72 = .ok (.iconst 0, 1) := by decide +kernel
theorem dX1_evenness_73 : decode cX1_evenness 73 = .ok (.istore 5, 2) := by decide +kernel
theorem dX1_evenness_75 : decode cX1_evenness 75 = .ok (.iload 5, 2) := by decide +kernel
theorem dX1_evenness_77 : decode cX1_evenness 77 = .ok (.aload_n 0, 1) := by decide +kernel
theorem dX1_evenness_78 : decode cX1_evenness 78 = .ok (.getfield 15, 3) := by decide +kernel
theorem dX1_evenness_81 : decode cX1_evenness 81 = .ok (.if_icmp .ge 34, 3) := by decide +kernel
theorem dX1_evenness_84 : decode cX1_evenness 84 = .ok (.iload 5, 2) := by decide +kernel
theorem dX1_evenness_86 : decode cX1_evenness 86 = .ok (.aload_n 1, 1) := by decide +kernel
theorem dX1_evenness_87 : decode cX1_evenness 87 = .ok (.arraylength, 1) := by decide +kernel
theorem dX1_evenness_88 : decode cX1_evenness 88 = .ok (.if_icmp .ge 27, 3) := by decide +kernel
theorem dX1_evenness_91 : decode cX1_evenness 91 = .ok (.iload_n 2, 1) := by decide +kernel
theorem dX1_evenness_92 : decode cX1_evenness 92 = .ok (.aload_n 1, 1) := by decide +kernel
theorem dX1_evenness_93 : decode cX1_evenness 93 = .ok (.iload 5, 2) := by decide +kernel
theorem dX1_evenness_95 : decode cX1_evenness 95 = .ok (.iaload, 1) := by decide +kernel
theorem dX1_evenness_96 : decode cX1_evenness 96 = .ok (.invokestatic 72, 3) := by decide +kernel
theorem dX1_evenness_99 : decode cX1_evenness 99 = .ok (.istore_n 2, 1) := by decide +kernel
theorem dX1_evenness_100 : decode cX1_evenness 100 = .ok (.iload_n 3, 1) := by decide +kernel
theorem dX1_evenness_101 : decode cX1_evenness 101 = .ok (.aload_n 1, 1) := by decide +kernel
theorem dX1_evenness_102 : decode cX1_evenness 102 = .ok (.iload 5, 2) := by decide +kernel
theorem dX1_evenness_104 : decode cX1_evenness 104 = .ok (.iaload, 1) := by decide +kernel
theorem dX1_evenness_105 : decode cX1_evenness 105 = .ok (.invokestatic 91, 3) := by decide +kernel
theorem dX1_evenness_108 : decode cX1_evenness 108 = .ok (.istore_n 3, 1) := by decide +kernel
theorem dX1_evenness_109 : decode cX1_evenness 109 = .ok (.iinc 5 1, 3) := by decide +kernel
theorem dX1_evenness_112 : decode cX1_evenness 112 = .ok (.goto (-37), 3) := by decide +kernel
theorem dX1_evenness_115 : decode cX1_evenness 115 = .ok (.iinc 4 1, 3) := by decide +kernel
theorem dX1_evenness_118 : decode cX1_evenness 118 = .ok (.goto (-103), 3) := by decide +kernel
theorem dX1_evenness_121 : decode cX1_evenness 121 = .ok (.iload_n 2, 1) := by decide +kernel
theorem dX1_evenness_122 : decode cX1_evenness 122 = .ok (.iload_n 3, 1) := by decide +kernel
theorem dX1_evenness_123 : decode cX1_evenness 123 = .ok (.isub, 1) := by decide +kernel
theorem dX1_evenness_124 : decode cX1_evenness 124 = .ok (.ireturn, 1) := by decide +kernel
theorem dX1_planeDepth_0 : decode cX1_planeDepth 0 = .ok (.aload_n 0, 1) := by decide +kernel
theorem dX1_planeDepth_1 : decode cX1_planeDepth 1 = .ok (.iload_n 1, 1) := by decide +kernel
theorem dX1_planeDepth_2 : decode cX1_planeDepth 2 = .ok (.invokevirtual 66, 3) := by decide +kernel
theorem dX1_planeDepth_5 : decode cX1_planeDepth 5 = .ok (.aload_n 0, 1) := by decide +kernel
theorem dX1_planeDepth_6 : decode cX1_planeDepth 6 = .ok (.iload_n 2, 1) := by decide +kernel
theorem dX1_planeDepth_7 : decode cX1_planeDepth 7 = .ok (.invokevirtual 66, 3) := by decide +kernel
theorem dX1_planeDepth_10 : decode cX1_planeDepth 10 = .ok (.iadd, 1) := by decide +kernel
theorem dX1_planeDepth_11 : decode cX1_planeDepth 11 = .ok (.aload_n 0, 1) := by decide +kernel
theorem dX1_planeDepth_12 : decode cX1_planeDepth 12 = .ok (.getfield 15, 3) := by decide +kernel
theorem dX1_planeDepth_15 : decode cX1_planeDepth 15 = .ok (.invokestatic 44, 3) := by decide +kernel
theorem dX1_planeDepth_18 : decode cX1_planeDepth 18 = .ok (.ireturn, 1) := by decide +kernel
theorem dX1_planePlaces_0 : decode cX1_planePlaces 0 = .ok (.iconst 0, 1) := by decide +kernel
theorem dX1_planePlaces_1 : decode cX1_planePlaces 1 = .ok (.istore_n 2, 1) := by decide +kernel
theorem dX1_planePlaces_2 : decode cX1_planePlaces 2 = .ok (.iconst 0, 1) := by decide +kernel
theorem dX1_planePlaces_3 : decode cX1_planePlaces 3 = .ok (.istore_n 3, 1) := by decide +kernel
theorem dX1_planePlaces_4 : decode cX1_planePlaces 4 = .ok (.iload_n 3, 1) := by decide +kernel
theorem dX1_planePlaces_5 : decode cX1_planePlaces 5 = .ok (.aload_n 0, 1) := by decide +kernel
theorem dX1_planePlaces_6 : decode cX1_planePlaces 6 = .ok (.getfield 15, 3) := by decide +kernel
theorem dX1_planePlaces_9 : decode cX1_planePlaces 9 = .ok (.if_icmp .ge 41, 3) := by decide +kernel
theorem dX1_planePlaces_12 : decode cX1_planePlaces 12 = .ok (.iconst 0, 1) := by decide +kernel
theorem dX1_planePlaces_13 : decode cX1_planePlaces 13 = .ok (.istore 4, 2) := by decide +kernel
theorem dX1_planePlaces_15 : decode cX1_planePlaces 15 = .ok (.iload 4, 2) := by decide +kernel
theorem dX1_planePlaces_17 : decode cX1_planePlaces 17 = .ok (.aload_n 0, 1) := by decide +kernel
theorem dX1_planePlaces_18 : decode cX1_planePlaces 18 = .ok (.getfield 15, 3) := by decide +kernel
theorem dX1_planePlaces_21 : decode cX1_planePlaces 21 = .ok (.if_icmp .ge 23, 3) := by decide +kernel
theorem dX1_planePlaces_24 : decode cX1_planePlaces 24 = .ok (.aload_n 0, 1) := by decide +kernel
theorem dX1_planePlaces_25 : decode cX1_planePlaces 25 = .ok (.iload_n 3, 1) := by decide +kernel
theorem dX1_planePlaces_26 : decode cX1_planePlaces 26 = .ok (.iload 4, 2) := by decide +kernel
theorem dX1_planePlaces_28 : decode cX1_planePlaces 28 = .ok (.invokevirtual 94, 3) := by decide +kernel
theorem dX1_planePlaces_31 : decode cX1_planePlaces 31 = .ok (.iload_n 1, 1) := by decide +kernel
theorem dX1_planePlaces_32 : decode cX1_planePlaces 32 = .ok (.if_icmp .ne 6, 3) := by decide +kernel
theorem dX1_planePlaces_35 : decode cX1_planePlaces 35 = .ok (.iinc 2 1, 3) := by decide +kernel
theorem dX1_planePlaces_38 : decode cX1_planePlaces 38 = .ok (.iinc 4 1, 3) := by decide +kernel
theorem dX1_planePlaces_41 : decode cX1_planePlaces 41 = .ok (.goto (-26), 3) := by decide +kernel
theorem dX1_planePlaces_44 : decode cX1_planePlaces 44 = .ok (.iinc 3 1, 3) := by decide +kernel
theorem dX1_planePlaces_47 : decode cX1_planePlaces 47 = .ok (.goto (-43), 3) := by decide +kernel
theorem dX1_planePlaces_50 : decode cX1_planePlaces 50 = .ok (.iload_n 2, 1) := by decide +kernel
theorem dX1_planePlaces_51 : decode cX1_planePlaces 51 = .ok (.ireturn, 1) := by decide +kernel
theorem dX2_init_0 : decode cX2_init 0 = .ok (.aload_n 0, 1) := by decide +kernel
theorem dX2_init_1 : decode cX2_init 1 = .ok (.invokespecial 3, 3) := by decide +kernel
theorem dX2_init_4 : decode cX2_init 4 = .ok (.aload_n 0, 1) := by decide +kernel
theorem dX2_init_5 : decode cX2_init 5 = .ok (.bipush 6, 2) := by decide +kernel
theorem dX2_init_7 : decode cX2_init 7 = .ok (.anewarray 9, 3) := by decide +kernel
theorem dX2_init_10 : decode cX2_init 10 = .ok (.putfield 11, 3) := by decide +kernel
theorem dX2_init_13 : decode cX2_init 13 = .ok (.aload_n 0, 1) := by decide +kernel
theorem dX2_init_14 : decode cX2_init 14 = .ok (.iconst 0, 1) := by decide +kernel
theorem dX2_init_15 : decode cX2_init 15 = .ok (.putfield 17, 3) := by decide +kernel
theorem dX2_init_18 : decode cX2_init 18 = .ok (.return_, 1) := by decide +kernel
theorem dX2_forget_0 : decode cX2_forget 0 = .ok (.iconst 0, 1) := by decide +kernel
theorem dX2_forget_1 : decode cX2_forget 1 = .ok (.istore_n 1, 1) := by decide +kernel
theorem dX2_forget_2 : decode cX2_forget 2 = .ok (.iload_n 1, 1) := by decide +kernel
theorem dX2_forget_3 : decode cX2_forget 3 = .ok (.aload_n 0, 1) := by decide +kernel
theorem dX2_forget_4 : decode cX2_forget 4 = .ok (.getfield 11, 3) := by decide +kernel
theorem dX2_forget_7 : decode cX2_forget 7 = .ok (.arraylength, 1) := by decide +kernel
theorem dX2_forget_8 : decode cX2_forget 8 = .ok (.if_icmp .ge 16, 3) := by decide +kernel
theorem dX2_forget_11 : decode cX2_forget 11 = .ok (.aload_n 0, 1) := by decide +kernel
theorem dX2_forget_12 : decode cX2_forget 12 = .ok (.getfield 11, 3) := by decide +kernel
theorem dX2_forget_15 : decode cX2_forget 15 = .ok (.iload_n 1, 1) := by decide +kernel
theorem dX2_forget_16 : decode cX2_forget 16 = .ok (.aconst_null, 1) := by decide +kernel
theorem dX2_forget_17 : decode cX2_forget 17 = .ok (.aastore, 1) := by decide +kernel
theorem dX2_forget_18 : decode cX2_forget 18 = .ok (.iinc 1 1, 3) := by decide +kernel
theorem dX2_forget_21 : decode cX2_forget 21 = .ok (.goto (-19), 3) := by decide +kernel
theorem dX2_forget_24 : decode cX2_forget 24 = .ok (.aload_n 0, 1) := by decide +kernel
theorem dX2_forget_25 : decode cX2_forget 25 = .ok (.iconst 0, 1) := by decide +kernel
theorem dX2_forget_26 : decode cX2_forget 26 = .ok (.putfield 17, 3) := by decide +kernel
theorem dX2_forget_29 : decode cX2_forget 29 = .ok (.return_, 1) := by decide +kernel
theorem dX2_keep_0 : decode cX2_keep 0 = .ok (.aload_n 0, 1) := by decide +kernel
theorem dX2_keep_1 : decode cX2_keep 1 = .ok (.getfield 17, 3) := by decide +kernel
theorem dX2_keep_4 : decode cX2_keep 4 = .ok (.aload_n 0, 1) := by decide +kernel
theorem dX2_keep_5 : decode cX2_keep 5 = .ok (.getfield 11, 3) := by decide +kernel
theorem dX2_keep_8 : decode cX2_keep 8 = .ok (.arraylength, 1) := by decide +kernel
theorem dX2_keep_9 : decode cX2_keep 9 = .ok (.if_icmp .lt 45, 3) := by decide +kernel
theorem dX2_keep_12 : decode cX2_keep 12 = .ok (.iconst 1, 1) := by decide +kernel
theorem dX2_keep_13 : decode cX2_keep 13 = .ok (.istore_n 2, 1) := by decide +kernel
theorem dX2_keep_14 : decode cX2_keep 14 = .ok (.iload_n 2, 1) := by decide +kernel
theorem dX2_keep_15 : decode cX2_keep 15 = .ok (.aload_n 0, 1) := by decide +kernel
theorem dX2_keep_16 : decode cX2_keep 16 = .ok (.getfield 11, 3) := by decide +kernel
theorem dX2_keep_19 : decode cX2_keep 19 = .ok (.arraylength, 1) := by decide +kernel
theorem dX2_keep_20 : decode cX2_keep 20 = .ok (.if_icmp .ge 23, 3) := by decide +kernel
theorem dX2_keep_23 : decode cX2_keep 23 = .ok (.aload_n 0, 1) := by decide +kernel
theorem dX2_keep_24 : decode cX2_keep 24 = .ok (.getfield 11, 3) := by decide +kernel
theorem dX2_keep_27 : decode cX2_keep 27 = .ok (.iload_n 2, 1) := by decide +kernel
theorem dX2_keep_28 : decode cX2_keep 28 = .ok (.iconst 1, 1) := by decide +kernel
theorem dX2_keep_29 : decode cX2_keep 29 = .ok (.isub, 1) := by decide +kernel
theorem dX2_keep_30 : decode cX2_keep 30 = .ok (.aload_n 0, 1) := by decide +kernel
theorem dX2_keep_31 : decode cX2_keep 31 = .ok (.getfield 11, 3) := by decide +kernel
theorem dX2_keep_34 : decode cX2_keep 34 = .ok (.iload_n 2, 1) := by decide +kernel
theorem dX2_keep_35 : decode cX2_keep 35 = .ok (.aaload, 1) := by decide +kernel
theorem dX2_keep_36 : decode cX2_keep 36 = .ok (.aastore, 1) := by decide +kernel
theorem dX2_keep_37 : decode cX2_keep 37 = .ok (.iinc 2 1, 3) := by decide +kernel
theorem dX2_keep_40 : decode cX2_keep 40 = .ok (.goto (-26), 3) := by decide +kernel
theorem dX2_keep_43 : decode cX2_keep 43 = .ok (.aload_n 0, 1) := by decide +kernel
theorem dX2_keep_44 : decode cX2_keep 44 = .ok (.aload_n 0, 1) := by decide +kernel
theorem dX2_keep_45 : decode cX2_keep 45 = .ok (.getfield 11, 3) := by decide +kernel
theorem dX2_keep_48 : decode cX2_keep 48 = .ok (.arraylength, 1) := by decide +kernel
theorem dX2_keep_49 : decode cX2_keep 49 = .ok (.iconst 1, 1) := by decide +kernel
theorem dX2_keep_50 : decode cX2_keep 50 = .ok (.isub, 1) := by decide +kernel
theorem dX2_keep_51 : decode cX2_keep 51 = .ok (.putfield 17, 3) := by decide +kernel
theorem dX2_keep_54 : decode cX2_keep 54 = .ok (.aload_n 0, 1) := by decide +kernel
theorem dX2_keep_55 : decode cX2_keep 55 = .ok (.getfield 17, 3) := by decide +kernel
theorem dX2_keep_58 : decode cX2_keep 58 = .ok (.ifCond .lt 13, 3) := by decide +kernel
theorem dX2_keep_61 : decode cX2_keep 61 = .ok (.aload_n 0, 1) := by decide +kernel
theorem dX2_keep_62 : decode cX2_keep 62 = .ok (.getfield 11, 3) := by decide +kernel
theorem dX2_keep_65 : decode cX2_keep 65 = .ok (.aload_n 0, 1) := by decide +kernel
theorem dX2_keep_66 : decode cX2_keep 66 = .ok (.getfield 17, 3) := by decide +kernel
theorem dX2_keep_69 : decode cX2_keep 69 = .ok (.aload_n 1, 1) := by decide +kernel
theorem dX2_keep_70 : decode cX2_keep 70 = .ok (.aastore, 1) := by decide +kernel
theorem dX2_keep_71 : decode cX2_keep 71 = .ok (.aload_n 0, 1) := by decide +kernel
theorem dX2_keep_72 : decode cX2_keep 72 = .ok (.dup, 1) := by decide +kernel
theorem dX2_keep_73 : decode cX2_keep 73 = .ok (.getfield 17, 3) := by decide +kernel
theorem dX2_keep_76 : decode cX2_keep 76 = .ok (.iconst 1, 1) := by decide +kernel
theorem dX2_keep_77 : decode cX2_keep 77 = .ok (.iadd, 1) := by decide +kernel
theorem dX2_keep_78 : decode cX2_keep 78 = .ok (.putfield 17, 3) := by decide +kernel
theorem dX2_keep_81 : decode cX2_keep 81 = .ok (.return_, 1) := by decide +kernel
theorem dX2_takeLatest_0 : decode cX2_takeLatest 0 = .ok (.aload_n 0, 1) := by decide +kernel
theorem dX2_takeLatest_1 : decode cX2_takeLatest 1 = .ok (.getfield 17, 3) := by decide +kernel
theorem dX2_takeLatest_4 : decode cX2_takeLatest 4 = .ok (.iconst 1, 1) := by decide +kernel
theorem dX2_takeLatest_5 : decode cX2_takeLatest 5 = .ok (.if_icmp .lt 15, 3) := by decide +kernel
theorem dX2_takeLatest_8 : decode cX2_takeLatest 8 = .ok (.aload_n 0, 1) := by decide +kernel
theorem dX2_takeLatest_9 : decode cX2_takeLatest 9 = .ok (.getfield 17, 3) := by decide +kernel
theorem dX2_takeLatest_12 : decode cX2_takeLatest 12 = .ok (.aload_n 0, 1) := by decide +kernel
theorem dX2_takeLatest_13 : decode cX2_takeLatest 13 = .ok (.getfield 11, 3) := by decide +kernel
theorem dX2_takeLatest_16 : decode cX2_takeLatest 16 = .ok (.arraylength, 1) := by decide +kernel
theorem dX2_takeLatest_17 : decode cX2_takeLatest 17 = .ok (.if_icmp .le 5, 3) := by decide +kernel
theorem dX2_takeLatest_20 : decode cX2_takeLatest 20 = .ok (.aconst_null, 1) := by decide +kernel
theorem dX2_takeLatest_21 : decode cX2_takeLatest 21 = .ok (.areturn, 1) := by decide +kernel
theorem dX2_takeLatest_22 : decode cX2_takeLatest 22 = .ok (.aload_n 0, 1) := by decide +kernel
theorem dX2_takeLatest_23 : decode cX2_takeLatest 23 = .ok (.dup, 1) := by decide +kernel
theorem dX2_takeLatest_24 : decode cX2_takeLatest 24 = .ok (.getfield 17, 3) := by decide +kernel
theorem dX2_takeLatest_27 : decode cX2_takeLatest 27 = .ok (.iconst 1, 1) := by decide +kernel
theorem dX2_takeLatest_28 : decode cX2_takeLatest 28 = .ok (.isub, 1) := by decide +kernel
theorem dX2_takeLatest_29 : decode cX2_takeLatest 29 = .ok (.putfield 17, 3) := by decide +kernel
theorem dX2_takeLatest_32 : decode cX2_takeLatest 32 = .ok (.aload_n 0, 1) := by decide +kernel
theorem dX2_takeLatest_33 : decode cX2_takeLatest 33 = .ok (.getfield 11, 3) := by decide +kernel
theorem dX2_takeLatest_36 : decode cX2_takeLatest 36 = .ok (.aload_n 0, 1) := by decide +kernel
theorem dX2_takeLatest_37 : decode cX2_takeLatest 37 = .ok (.getfield 17, 3) := by decide +kernel
theorem dX2_takeLatest_40 : decode cX2_takeLatest 40 = .ok (.aaload, 1) := by decide +kernel
theorem dX2_takeLatest_41 : decode cX2_takeLatest 41 = .ok (.astore_n 1, 1) := by decide +kernel
theorem dX2_takeLatest_42 : decode cX2_takeLatest 42 = .ok (.aload_n 0, 1) := by decide +kernel
theorem dX2_takeLatest_43 : decode cX2_takeLatest 43 = .ok (.getfield 11, 3) := by decide +kernel
theorem dX2_takeLatest_46 : decode cX2_takeLatest 46 = .ok (.aload_n 0, 1) := by decide +kernel
theorem dX2_takeLatest_47 : decode cX2_takeLatest 47 = .ok (.getfield 17, 3) := by decide +kernel
theorem dX2_takeLatest_50 : decode cX2_takeLatest 50 = .ok (.aconst_null, 1) := by decide +kernel
theorem dX2_takeLatest_51 : decode cX2_takeLatest 51 = .ok (.aastore, 1) := by decide +kernel
theorem dX2_takeLatest_52 : decode cX2_takeLatest 52 = .ok (.aload_n 1, 1) := by decide +kernel
theorem dX2_takeLatest_53 : decode cX2_takeLatest 53 = .ok (.areturn, 1) := by decide +kernel
theorem dX3_init_0 : decode cX3_init 0 = .ok (.aload_n 0, 1) := by decide +kernel
theorem dX3_init_1 : decode cX3_init 1 = .ok (.invokespecial 1, 3) := by decide +kernel
theorem dX3_init_4 : decode cX3_init 4 = .ok (.aload_n 0, 1) := by decide +kernel
theorem dX3_init_5 : decode cX3_init 5 = .ok (.aload_n 1, 1) := by decide +kernel
theorem dX3_init_6 : decode cX3_init 6 = .ok (.putfield 7, 3) := by decide +kernel
theorem dX3_init_9 : decode cX3_init 9 = .ok (.aload_n 0, 1) := by decide +kernel
theorem dX3_init_10 : decode cX3_init 10 = .ok (.iload_n 2, 1) := by decide +kernel
theorem dX3_init_11 : decode cX3_init 11 = .ok (.putfield 13, 3) := by decide +kernel
theorem dX3_init_14 : decode cX3_init 14 = .ok (.aload_n 0, 1) := by decide +kernel
theorem dX3_init_15 : decode cX3_init 15 = .ok (.iload_n 3, 1) := by decide +kernel
theorem dX3_init_16 : decode cX3_init 16 = .ok (.putfield 17, 3) := by decide +kernel
theorem dX3_init_19 : decode cX3_init 19 = .ok (.aload_n 0, 1) := by decide +kernel
theorem dX3_init_20 : decode cX3_init 20 = .ok (.iload 4, 2) := by decide +kernel
theorem dX3_init_22 : decode cX3_init 22 = .ok (.putfield 20, 3) := by decide +kernel
theorem dX3_init_25 : decode cX3_init 25 = .ok (.return_, 1) := by decide +kernel
theorem dX3_panelAt_0 : decode cX3_panelAt 0 = .ok (.iload_n 1, 1) := by decide +kernel
theorem dX3_panelAt_1 : decode cX3_panelAt 1 = .ok (.ifCond .lt 12, 3) := by decide +kernel
theorem dX3_panelAt_4 : decode cX3_panelAt 4 = .ok (.iload_n 1, 1) := by decide +kernel
theorem dX3_panelAt_5 : decode cX3_panelAt 5 = .ok (.aload_n 0, 1) := by decide +kernel
theorem dX3_panelAt_6 : decode cX3_panelAt 6 = .ok (.getfield 7, 3) := by decide +kernel
theorem dX3_panelAt_9 : decode cX3_panelAt 9 = .ok (.arraylength, 1) := by decide +kernel
theorem dX3_panelAt_10 : decode cX3_panelAt 10 = .ok (.if_icmp .lt 7, 3) := by decide +kernel
theorem dX3_panelAt_13 : decode cX3_panelAt 13 = .ok (.aconst_null, 1) := by decide +kernel
theorem dX3_panelAt_14 : decode cX3_panelAt 14 = .ok (.goto 9, 3) := by decide +kernel
theorem dX3_panelAt_17 : decode cX3_panelAt 17 = .ok (.aload_n 0, 1) := by decide +kernel
theorem dX3_panelAt_18 : decode cX3_panelAt 18 = .ok (.getfield 7, 3) := by decide +kernel
theorem dX3_panelAt_21 : decode cX3_panelAt 21 = .ok (.iload_n 1, 1) := by decide +kernel
theorem dX3_panelAt_22 : decode cX3_panelAt 22 = .ok (.aaload, 1) := by decide +kernel
theorem dX3_panelAt_23 : decode cX3_panelAt 23 = .ok (.areturn, 1) := by decide +kernel
theorem dX3_wellsBefore_0 : decode cX3_wellsBefore 0 = .ok (.iconst 0, 1) := by decide +kernel
theorem dX3_wellsBefore_1 : decode cX3_wellsBefore 1 = .ok (.istore_n 2, 1) := by decide +kernel
theorem dX3_wellsBefore_2 : decode cX3_wellsBefore 2 = .ok (.iconst 0, 1) := by decide +kernel
theorem dX3_wellsBefore_3 : decode cX3_wellsBefore 3 = .ok (.istore_n 3, 1) := by decide +kernel
theorem dX3_wellsBefore_4 : decode cX3_wellsBefore 4 = .ok (.iload_n 3, 1) := by decide +kernel
theorem dX3_wellsBefore_5 : decode cX3_wellsBefore 5 = .ok (.iload_n 1, 1) := by decide +kernel
theorem dX3_wellsBefore_6 : decode cX3_wellsBefore 6 = .ok (.if_icmp .ge 39, 3) := by decide +kernel
theorem dX3_wellsBefore_9 : decode cX3_wellsBefore 9 = .ok (.iload_n 3, 1) := by decide +kernel
theorem dX3_wellsBefore_10 : decode cX3_wellsBefore 10 = .ok (.aload_n 0, 1) := by decide +kernel
theorem dX3_wellsBefore_11 : decode cX3_wellsBefore 11 = .ok (.getfield 7, 3) := by decide +kernel
theorem dX3_wellsBefore_14 : decode cX3_wellsBefore 14 = .ok (.arraylength, 1) := by decide +kernel
theorem dX3_wellsBefore_15 : decode cX3_wellsBefore 15 = .ok (.if_icmp .ge 30, 3) := by decide +kernel
theorem dX3_wellsBefore_18 : decode cX3_wellsBefore 18 = .ok (.aload_n 0, 1) := by decide +kernel
theorem dX3_wellsBefore_19 : decode cX3_wellsBefore 19 = .ok (.getfield 7, 3) := by decide +kernel
theorem dX3_wellsBefore_22 : decode cX3_wellsBefore 22 = .ok (.iload_n 3, 1) := by decide +kernel
theorem dX3_wellsBefore_23 : decode cX3_wellsBefore 23 = .ok (.aaload, 1) := by decide +kernel
theorem dX3_wellsBefore_24 : decode cX3_wellsBefore 24 = .ok (.astore 4, 2) := by decide +kernel
theorem dX3_wellsBefore_26 : decode cX3_wellsBefore 26 = .ok (.aload 4, 2) := by decide +kernel
theorem dX3_wellsBefore_28 : decode cX3_wellsBefore 28 = .ok (.ifnull 11, 3) := by decide +kernel
theorem dX3_wellsBefore_31 : decode cX3_wellsBefore 31 = .ok (.iload_n 2, 1) := by decide +kernel
theorem dX3_wellsBefore_32 : decode cX3_wellsBefore 32 = .ok (.aload 4, 2) := by decide +kernel
theorem dX3_wellsBefore_34 : decode cX3_wellsBefore 34 = .ok (.getfield 23, 3) := by decide +kernel
theorem dX3_wellsBefore_37 : decode cX3_wellsBefore 37 = .ok (.iadd, 1) := by decide +kernel
theorem dX3_wellsBefore_38 : decode cX3_wellsBefore 38 = .ok (.istore_n 2, 1) := by decide +kernel
theorem dX3_wellsBefore_39 : decode cX3_wellsBefore 39 = .ok (.iinc 3 1, 3) := by decide +kernel
theorem dX3_wellsBefore_42 : decode cX3_wellsBefore 42 = .ok (.goto (-38), 3) := by decide +kernel
theorem dX3_wellsBefore_45 : decode cX3_wellsBefore 45 = .ok (.iload_n 2, 1) := by decide +kernel
theorem dX3_wellsBefore_46 : decode cX3_wellsBefore 46 = .ok (.ireturn, 1) := by decide +kernel
theorem dX3_withPanel_0 : decode cX3_withPanel 0 = .ok (.aload_n 0, 1) := by decide +kernel
theorem dX3_withPanel_1 : decode cX3_withPanel 1 = .ok (.getfield 7, 3) := by decide +kernel
theorem dX3_withPanel_4 : decode cX3_withPanel 4 = .ok (.invokevirtual 28, 3) := by decide +kernel
theorem dX3_withPanel_7 : decode cX3_withPanel 7 = .ok (.checkcast 29, 3) := by decide +kernel
theorem dX3_withPanel_10 : decode cX3_withPanel 10 = .ok (.astore_n 3, 1) := by decide +kernel
theorem dX3_withPanel_11 : decode cX3_withPanel 11 = .ok (.iload_n 1, 1) := by decide +kernel
theorem dX3_withPanel_12 : decode cX3_withPanel 12 = .ok (.ifCond .lt 13, 3) := by decide +kernel
theorem dX3_withPanel_15 : decode cX3_withPanel 15 = .ok (.iload_n 1, 1) := by decide +kernel
theorem dX3_withPanel_16 : decode cX3_withPanel 16 = .ok (.aload_n 3, 1) := by decide +kernel
theorem dX3_withPanel_17 : decode cX3_withPanel 17 = .ok (.arraylength, 1) := by decide +kernel
theorem dX3_withPanel_18 : decode cX3_withPanel 18 = .ok (.if_icmp .ge 7, 3) := by decide +kernel
theorem dX3_withPanel_21 : decode cX3_withPanel 21 = .ok (.aload_n 3, 1) := by decide +kernel
theorem dX3_withPanel_22 : decode cX3_withPanel 22 = .ok (.iload_n 1, 1) := by decide +kernel
theorem dX3_withPanel_23 : decode cX3_withPanel 23 = .ok (.aload_n 2, 1) := by decide +kernel
theorem dX3_withPanel_24 : decode cX3_withPanel 24 = .ok (.aastore, 1) := by decide +kernel
theorem dX3_withPanel_25 : decode cX3_withPanel 25 = .ok (.new 8, 3) := by decide +kernel
theorem dX3_withPanel_28 : decode cX3_withPanel 28 = .ok (.dup, 1) := by decide +kernel
theorem dX3_withPanel_29 : decode cX3_withPanel 29 = .ok (.aload_n 3, 1) := by decide +kernel
theorem dX3_withPanel_30 : decode cX3_withPanel 30 = .ok (.aload_n 0, 1) := by decide +kernel
theorem dX3_withPanel_31 : decode cX3_withPanel 31 = .ok (.getfield 13, 3) := by decide +kernel
theorem dX3_withPanel_34 : decode cX3_withPanel 34 = .ok (.aload_n 0, 1) := by decide +kernel
theorem dX3_withPanel_35 : decode cX3_withPanel 35 = .ok (.getfield 17, 3) := by decide +kernel
theorem dX3_withPanel_38 : decode cX3_withPanel 38 = .ok (.aload_n 0, 1) := by decide +kernel
theorem dX3_withPanel_39 : decode cX3_withPanel 39 = .ok (.getfield 20, 3) := by decide +kernel
theorem dX3_withPanel_42 : decode cX3_withPanel 42 = .ok (.invokespecial 33, 3) := by decide +kernel
theorem dX3_withPanel_45 : decode cX3_withPanel 45 = .ok (.areturn, 1) := by decide +kernel
theorem dX3_withoutPanel_0 : decode cX3_withoutPanel 0 = .ok (.iload_n 1, 1) := by decide +kernel
theorem dX3_withoutPanel_1 : decode cX3_withoutPanel 1 = .ok (.ifCond .lt 12, 3) := by decide +kernel
theorem dX3_withoutPanel_4 : decode cX3_withoutPanel 4 = .ok (.iload_n 1, 1) := by decide +kernel
theorem dX3_withoutPanel_5 : decode cX3_withoutPanel 5 = .ok (.aload_n 0, 1) := by decide +kernel
theorem dX3_withoutPanel_6 : decode cX3_withoutPanel 6 = .ok (.getfield 7, 3) := by decide +kernel
theorem dX3_withoutPanel_9 : decode cX3_withoutPanel 9 = .ok (.arraylength, 1) := by decide +kernel
theorem dX3_withoutPanel_10 : decode cX3_withoutPanel 10 = .ok (.if_icmp .lt 5, 3) := by decide +kernel
theorem dX3_withoutPanel_13 : decode cX3_withoutPanel 13 = .ok (.aload_n 0, 1) := by decide +kernel
theorem dX3_withoutPanel_14 : decode cX3_withoutPanel 14 = .ok (.areturn, 1) := by decide +kernel
theorem dX3_withoutPanel_15 : decode cX3_withoutPanel 15 = .ok (.aload_n 0, 1) := by decide +kernel
theorem dX3_withoutPanel_16 : decode cX3_withoutPanel 16 = .ok (.getfield 7, 3) := by decide +kernel
theorem dX3_withoutPanel_19 : decode cX3_withoutPanel 19 = .ok (.arraylength, 1) := by decide +kernel
theorem dX3_withoutPanel_20 : decode cX3_withoutPanel 20 = .ok (.iconst 1, 1) := by decide +kernel
theorem dX3_withoutPanel_21 : decode cX3_withoutPanel 21 = .ok (.isub, 1) := by decide +kernel
theorem dX3_withoutPanel_22 : decode cX3_withoutPanel 22 = .ok (.anewarray 24, 3) := by decide +kernel
theorem dX3_withoutPanel_25 : decode cX3_withoutPanel 25 = .ok (.astore_n 2, 1) := by decide +kernel
theorem dX3_withoutPanel_26 : decode cX3_withoutPanel 26 = .ok (.iconst 0, 1) := by decide +kernel
theorem dX3_withoutPanel_27 : decode cX3_withoutPanel 27 = .ok (.istore_n 3, 1) := by decide +kernel
theorem dX3_withoutPanel_28 : decode cX3_withoutPanel 28 = .ok (.iload_n 3, 1) := by decide +kernel
theorem dX3_withoutPanel_29 : decode cX3_withoutPanel 29 = .ok (.aload_n 2, 1) := by decide +kernel
theorem dX3_withoutPanel_30 : decode cX3_withoutPanel 30 = .ok (.arraylength, 1) := by decide +kernel
theorem dX3_withoutPanel_31 : decode cX3_withoutPanel 31 = .ok (.if_icmp .ge 29, 3) := by decide +kernel
theorem dX3_withoutPanel_34 : decode cX3_withoutPanel 34 = .ok (.aload_n 2, 1) := by decide +kernel
theorem dX3_withoutPanel_35 : decode cX3_withoutPanel 35 = .ok (.iload_n 3, 1) := by decide +kernel
theorem dX3_withoutPanel_36 : decode cX3_withoutPanel 36 = .ok (.aload_n 0, 1) := by decide +kernel
theorem dX3_withoutPanel_37 : decode cX3_withoutPanel 37 = .ok (.getfield 7, 3) := by decide +kernel
theorem dX3_withoutPanel_40 : decode cX3_withoutPanel 40 = .ok (.iload_n 3, 1) := by decide +kernel
theorem dX3_withoutPanel_41 : decode cX3_withoutPanel 41 = .ok (.iload_n 1, 1) := by decide +kernel
theorem dX3_withoutPanel_42 : decode cX3_withoutPanel 42 = .ok (.if_icmp .ge 7, 3) := by decide +kernel
theorem dX3_withoutPanel_45 : decode cX3_withoutPanel 45 = .ok (.iload_n 3, 1) := by decide +kernel
theorem dX3_withoutPanel_46 : decode cX3_withoutPanel 46 = .ok (.goto 6, 3) := by decide +kernel
theorem dX3_withoutPanel_49 : decode cX3_withoutPanel 49 = .ok (.iload_n 3, 1) := by decide +kernel
theorem dX3_withoutPanel_50 : decode cX3_withoutPanel 50 = .ok (.iconst 1, 1) := by decide +kernel
theorem dX3_withoutPanel_51 : decode cX3_withoutPanel 51 = .ok (.iadd, 1) := by decide +kernel
theorem dX3_withoutPanel_52 : decode cX3_withoutPanel 52 = .ok (.aaload, 1) := by decide +kernel
theorem dX3_withoutPanel_53 : decode cX3_withoutPanel 53 = .ok (.aastore, 1) := by decide +kernel
theorem dX3_withoutPanel_54 : decode cX3_withoutPanel 54 = .ok (.iinc 3 1, 3) := by decide +kernel
theorem dX3_withoutPanel_57 : decode cX3_withoutPanel 57 = .ok (.goto (-29), 3) := by decide +kernel
theorem dX3_withoutPanel_60 : decode cX3_withoutPanel 60 = .ok (.new 8, 3) := by decide +kernel
theorem dX3_withoutPanel_63 : decode cX3_withoutPanel 63 = .ok (.dup, 1) := by decide +kernel
theorem dX3_withoutPanel_64 : decode cX3_withoutPanel 64 = .ok (.aload_n 2, 1) := by decide +kernel
theorem dX3_withoutPanel_65 : decode cX3_withoutPanel 65 = .ok (.aload_n 0, 1) := by decide +kernel
theorem dX3_withoutPanel_66 : decode cX3_withoutPanel 66 = .ok (.getfield 13, 3) := by decide +kernel
theorem dX3_withoutPanel_69 : decode cX3_withoutPanel 69 = .ok (.aload_n 0, 1) := by decide +kernel
theorem dX3_withoutPanel_70 : decode cX3_withoutPanel 70 = .ok (.getfield 17, 3) := by decide +kernel
theorem dX3_withoutPanel_73 : decode cX3_withoutPanel 73 = .ok (.aload_n 0, 1) := by decide +kernel
theorem dX3_withoutPanel_74 : decode cX3_withoutPanel 74 = .ok (.getfield 20, 3) := by decide +kernel
theorem dX3_withoutPanel_77 : decode cX3_withoutPanel 77 = .ok (.invokespecial 33, 3) := by decide +kernel
theorem dX3_withoutPanel_80 : decode cX3_withoutPanel 80 = .ok (.areturn, 1) := by decide +kernel
theorem dX3_allows_0 : decode cX3_allows 0 = .ok (.iload_n 0, 1) := by decide +kernel
theorem dX3_allows_1 : decode cX3_allows 1 = .ok (.tableswitch 78 0 2 #[27, 44, 63], 27) := by decide +kernel
theorem dX3_allows_28 : decode cX3_allows 28 = .ok (.iload_n 1, 1) := by decide +kernel
theorem dX3_allows_29 : decode cX3_allows 29 = .ok (.iconst 1, 1) := by decide +kernel
theorem dX3_allows_30 : decode cX3_allows 30 = .ok (.if_icmp .lt 13, 3) := by decide +kernel
theorem dX3_allows_33 : decode cX3_allows 33 = .ok (.iload_n 1, 1) := by decide +kernel
theorem dX3_allows_34 : decode cX3_allows 34 = .ok (.bipush 20, 2) := by decide +kernel
theorem dX3_allows_36 : decode cX3_allows 36 = .ok (.if_icmp .gt 7, 3) := by decide +kernel
theorem dX3_allows_39 : decode cX3_allows 39 = .ok (.iconst 1, 1) := by decide +kernel
theorem dX3_allows_40 : decode cX3_allows 40 = .ok (.goto 4, 3) := by decide +kernel
theorem dX3_allows_43 : decode cX3_allows 43 = .ok (.iconst 0, 1) := by decide +kernel
theorem dX3_allows_44 : decode cX3_allows 44 = .ok (.ireturn, 1) := by decide +kernel
theorem dX3_allows_45 : decode cX3_allows 45 = .ok (.iload_n 1, 1) := by decide +kernel
theorem dX3_allows_46 : decode cX3_allows 46 = .ok (.bipush 20, 2) := by decide +kernel
theorem dX3_allows_48 : decode cX3_allows 48 = .ok (.if_icmp .lt 14, 3) := by decide +kernel
theorem dX3_allows_51 : decode cX3_allows 51 = .ok (.iload_n 1, 1) := by decide +kernel
theorem dX3_allows_52 : decode cX3_allows 52 = .ok (.sipush 400, 3) := by decide +kernel
theorem dX3_allows_55 : decode cX3_allows 55 = .ok (.if_icmp .gt 7, 3) := by decide +kernel
theorem dX3_allows_58 : decode cX3_allows 58 = .ok (.iconst 1, 1) := by decide +kernel
theorem dX3_allows_59 : decode cX3_allows 59 = .ok (.goto 4, 3) := by decide +kernel
theorem dX3_allows_62 : decode cX3_allows 62 = .ok (.iconst 0, 1) := by decide +kernel
theorem dX3_allows_63 : decode cX3_allows 63 = .ok (.ireturn, 1) := by decide +kernel
theorem dX3_allows_64 : decode cX3_allows 64 = .ok (.iload_n 1, 1) := by decide +kernel
theorem dX3_allows_65 : decode cX3_allows 65 = .ok (.ifCond .lt 12, 3) := by decide +kernel
theorem dX3_allows_68 : decode cX3_allows 68 = .ok (.iload_n 1, 1) := by decide +kernel
theorem dX3_allows_69 : decode cX3_allows 69 = .ok (.iconst 5, 1) := by decide +kernel
theorem dX3_allows_70 : decode cX3_allows 70 = .ok (.if_icmp .gt 7, 3) := by decide +kernel
theorem dX3_allows_73 : decode cX3_allows 73 = .ok (.iconst 1, 1) := by decide +kernel
theorem dX3_allows_74 : decode cX3_allows 74 = .ok (.goto 4, 3) := by decide +kernel
theorem dX3_allows_77 : decode cX3_allows 77 = .ok (.iconst 0, 1) := by decide +kernel
theorem dX3_allows_78 : decode cX3_allows 78 = .ok (.ireturn, 1) := by decide +kernel
theorem dX3_allows_79 : decode cX3_allows 79 = .ok (.iconst 0, 1) := by decide +kernel
theorem dX3_allows_80 : decode cX3_allows 80 = .ok (.ireturn, 1) := by decide +kernel
theorem dX3_measure_0 : decode cX3_measure 0 = .ok (.iload_n 1, 1) := by decide +kernel
theorem dX3_measure_1 : decode cX3_measure 1 = .ok (.lookupswitch 37 #[(0, 27), (1, 32)], 27) := by decide +kernel
theorem dX3_measure_28 : decode cX3_measure 28 = .ok (.aload_n 0, 1) := by decide +kernel
theorem dX3_measure_29 : decode cX3_measure 29 = .ok (.getfield 13, 3) := by decide +kernel
theorem dX3_measure_32 : decode cX3_measure 32 = .ok (.ireturn, 1) := by decide +kernel
theorem dX3_measure_33 : decode cX3_measure 33 = .ok (.aload_n 0, 1) := by decide +kernel
theorem dX3_measure_34 : decode cX3_measure 34 = .ok (.getfield 17, 3) := by decide +kernel
theorem dX3_measure_37 : decode cX3_measure 37 = .ok (.ireturn, 1) := by decide +kernel
theorem dX3_measure_38 : decode cX3_measure 38 = .ok (.aload_n 0, 1) := by decide +kernel
theorem dX3_measure_39 : decode cX3_measure 39 = .ok (.getfield 20, 3) := by decide +kernel
theorem dX3_measure_42 : decode cX3_measure 42 = .ok (.ireturn, 1) := by decide +kernel
theorem dX3_withMeasure_0 : decode cX3_withMeasure 0 = .ok (.iload_n 1, 1) := by decide +kernel
theorem dX3_withMeasure_1 : decode cX3_withMeasure 1 = .ok (.lookupswitch 69 #[(0, 27), (1, 48)], 27) := by decide +kernel
theorem dX3_withMeasure_28 : decode cX3_withMeasure 28 = .ok (.new 8, 3) := by decide +kernel
theorem dX3_withMeasure_31 : decode cX3_withMeasure 31 = .ok (.dup, 1) := by decide +kernel
theorem dX3_withMeasure_32 : decode cX3_withMeasure 32 = .ok (.aload_n 0, 1) := by decide +kernel
theorem dX3_withMeasure_33 : decode cX3_withMeasure 33 = .ok (.getfield 7, 3) := by decide +kernel
theorem dX3_withMeasure_36 : decode cX3_withMeasure 36 = .ok (.iload_n 2, 1) := by decide +kernel
theorem dX3_withMeasure_37 : decode cX3_withMeasure 37 = .ok (.aload_n 0, 1) := by decide +kernel
theorem dX3_withMeasure_38 : decode cX3_withMeasure 38 = .ok (.getfield 17, 3) := by decide +kernel
theorem dX3_withMeasure_41 : decode cX3_withMeasure 41 = .ok (.aload_n 0, 1) := by decide +kernel
theorem dX3_withMeasure_42 : decode cX3_withMeasure 42 = .ok (.getfield 20, 3) := by decide +kernel
theorem dX3_withMeasure_45 : decode cX3_withMeasure 45 = .ok (.invokespecial 33, 3) := by decide +kernel
theorem dX3_withMeasure_48 : decode cX3_withMeasure 48 = .ok (.areturn, 1) := by decide +kernel
theorem dX3_withMeasure_49 : decode cX3_withMeasure 49 = .ok (.new 8, 3) := by decide +kernel
theorem dX3_withMeasure_52 : decode cX3_withMeasure 52 = .ok (.dup, 1) := by decide +kernel
theorem dX3_withMeasure_53 : decode cX3_withMeasure 53 = .ok (.aload_n 0, 1) := by decide +kernel
theorem dX3_withMeasure_54 : decode cX3_withMeasure 54 = .ok (.getfield 7, 3) := by decide +kernel
theorem dX3_withMeasure_57 : decode cX3_withMeasure 57 = .ok (.aload_n 0, 1) := by decide +kernel
theorem dX3_withMeasure_58 : decode cX3_withMeasure 58 = .ok (.getfield 13, 3) := by decide +kernel
theorem dX3_withMeasure_61 : decode cX3_withMeasure 61 = .ok (.iload_n 2, 1) := by decide +kernel
theorem dX3_withMeasure_62 : decode cX3_withMeasure 62 = .ok (.aload_n 0, 1) := by decide +kernel
theorem dX3_withMeasure_63 : decode cX3_withMeasure 63 = .ok (.getfield 20, 3) := by decide +kernel
theorem dX3_withMeasure_66 : decode cX3_withMeasure 66 = .ok (.invokespecial 33, 3) := by decide +kernel
theorem dX3_withMeasure_69 : decode cX3_withMeasure 69 = .ok (.areturn, 1) := by decide +kernel
theorem dX3_withMeasure_70 : decode cX3_withMeasure 70 = .ok (.new 8, 3) := by decide +kernel
theorem dX3_withMeasure_73 : decode cX3_withMeasure 73 = .ok (.dup, 1) := by decide +kernel
theorem dX3_withMeasure_74 : decode cX3_withMeasure 74 = .ok (.aload_n 0, 1) := by decide +kernel
theorem dX3_withMeasure_75 : decode cX3_withMeasure 75 = .ok (.getfield 7, 3) := by decide +kernel
theorem dX3_withMeasure_78 : decode cX3_withMeasure 78 = .ok (.aload_n 0, 1) := by decide +kernel
theorem dX3_withMeasure_79 : decode cX3_withMeasure 79 = .ok (.getfield 13, 3) := by decide +kernel
theorem dX3_withMeasure_82 : decode cX3_withMeasure 82 = .ok (.aload_n 0, 1) := by decide +kernel
theorem dX3_withMeasure_83 : decode cX3_withMeasure 83 = .ok (.getfield 17, 3) := by decide +kernel
theorem dX3_withMeasure_86 : decode cX3_withMeasure 86 = .ok (.iload_n 2, 1) := by decide +kernel
theorem dX3_withMeasure_87 : decode cX3_withMeasure 87 = .ok (.invokespecial 33, 3) := by decide +kernel
theorem dX3_withMeasure_90 : decode cX3_withMeasure 90 = .ok (.areturn, 1) := by decide +kernel
theorem dX4_init_0 : decode cX4_init 0 = .ok (.aload_n 0, 1) := by decide +kernel
theorem dX4_init_1 : decode cX4_init 1 = .ok (.invokespecial 3, 3) := by decide +kernel
theorem dX4_init_4 : decode cX4_init 4 = .ok (.aload_n 0, 1) := by decide +kernel
theorem dX4_init_5 : decode cX4_init 5 = .ok (.iconst 4, 1) := by decide +kernel
theorem dX4_init_6 : decode cX4_init 6 = .ok (.anewarray 9, 3) := by decide +kernel
theorem dX4_init_9 : decode cX4_init 9 = .ok (.putfield 11, 3) := by decide +kernel
theorem dX4_init_12 : decode cX4_init 12 = .ok (.aload_n 0, 1) := by decide +kernel
theorem dX4_init_13 : decode cX4_init 13 = .ok (.iconst 4, 1) := by decide +kernel
theorem dX4_init_14 : decode cX4_init 14 = .ok (.newarray .int, 2) := by decide +kernel
theorem dX4_init_16 : decode cX4_init 16 = .ok (.putfield 17, 3) := by decide +kernel
theorem dX4_init_19 : decode cX4_init 19 = .ok (.return_, 1) := by decide +kernel
theorem dX4_firstFault_0 : decode cX4_firstFault 0 = .ok (.aload_n 0, 1) := by decide +kernel
theorem dX4_firstFault_1 : decode cX4_firstFault 1 = .ok (.aload_n 1, 1) := by decide +kernel
theorem dX4_firstFault_2 : decode cX4_firstFault 2 = .ok (.putfield 21, 3) := by decide +kernel
theorem dX4_firstFault_5 : decode cX4_firstFault 5 = .ok (.aload_n 0, 1) := by decide +kernel
theorem dX4_firstFault_6 : decode cX4_firstFault 6 = .ok (.iload_n 2, 1) := by decide +kernel
theorem dX4_firstFault_7 : decode cX4_firstFault 7 = .ok (.putfield 25, 3) := by decide +kernel
theorem dX4_firstFault_10 : decode cX4_firstFault 10 = .ok (.aload_n 0, 1) := by decide +kernel
theorem dX4_firstFault_11 : decode cX4_firstFault 11 = .ok (.iconst 0, 1) := by decide +kernel
theorem dX4_firstFault_12 : decode cX4_firstFault 12 = .ok (.putfield 29, 3) := by decide +kernel
theorem dX4_firstFault_15 : decode cX4_firstFault 15 = .ok (.aload_n 0, 1) := by decide +kernel
theorem dX4_firstFault_16 : decode cX4_firstFault 16 = .ok (.iconst 3, 1) := by decide +kernel
theorem dX4_firstFault_17 : decode cX4_firstFault 17 = .ok (.putfield 32, 3) := by decide +kernel
theorem dX4_firstFault_20 : decode cX4_firstFault 20 = .ok (.aload_n 0, 1) := by decide +kernel
theorem dX4_firstFault_21 : decode cX4_firstFault 21 = .ok (.bipush 100, 2) := by decide +kernel
theorem dX4_firstFault_23 : decode cX4_firstFault 23 = .ok (.putfield 35, 3) := by decide +kernel
theorem dX4_firstFault_26 : decode cX4_firstFault 26 = .ok (.aload_n 0, 1) := by decide +kernel
theorem dX4_firstFault_27 : decode cX4_firstFault 27 = .ok (.iconst 1, 1) := by decide +kernel
theorem dX4_firstFault_28 : decode cX4_firstFault 28 = .ok (.putfield 38, 3) := by decide +kernel
theorem dX4_firstFault_31 : decode cX4_firstFault 31 = .ok (.iconst 0, 1) := by decide +kernel
theorem dX4_firstFault_32 : decode cX4_firstFault 32 = .ok (.istore_n 3, 1) := by decide +kernel
theorem dX4_firstFault_33 : decode cX4_firstFault 33 = .ok (.iconst 0, 1) := by decide +kernel
theorem dX4_firstFault_34 : decode cX4_firstFault 34 = .ok (.istore 4, 2) := by decide +kernel
theorem dX4_firstFault_36 : decode cX4_firstFault 36 = .ok (.iload 4, 2) := by decide +kernel
theorem dX4_firstFault_38 : decode cX4_firstFault 38 = .ok (.aload_n 0, 1) := by decide +kernel
theorem dX4_firstFault_39 : decode cX4_firstFault 39 = .ok (.getfield 25, 3) := by decide +kernel
theorem dX4_firstFault_42 : decode cX4_firstFault 42 = .ok (.if_icmp .ge 25, 3) := by decide +kernel
theorem dX4_firstFault_45 : decode cX4_firstFault 45 = .ok (.aload_n 0, 1) := by decide +kernel
theorem dX4_firstFault_46 : decode cX4_firstFault 46 = .ok (.iload 4, 2) := by decide +kernel
theorem dX4_firstFault_48 : decode cX4_firstFault 48 = .ok (.invokevirtual 41, 3) := by decide +kernel
theorem dX4_firstFault_51 : decode cX4_firstFault 51 = .ok (.istore_n 3, 1) := by decide +kernel
theorem dX4_firstFault_52 : decode cX4_firstFault 52 = .ok (.iload_n 3, 1) := by decide +kernel
theorem dX4_firstFault_53 : decode cX4_firstFault 53 = .ok (.iload 4, 2) := by decide +kernel
theorem dX4_firstFault_55 : decode cX4_firstFault 55 = .ok (.if_icmp .gt 6, 3) := by decide +kernel
theorem dX4_firstFault_58 : decode cX4_firstFault 58 = .ok (.iload 4, 2) := by decide +kernel
theorem dX4_firstFault_60 : decode cX4_firstFault 60 = .ok (.ireturn, 1) := by decide +kernel
theorem dX4_firstFault_61 : decode cX4_firstFault 61 = .ok (.iload_n 3, 1) := by decide +kernel
theorem dX4_firstFault_62 : decode cX4_firstFault 62 = .ok (.istore 4, 2) := by decide +kernel
theorem dX4_firstFault_64 : decode cX4_firstFault 64 = .ok (.goto (-28), 3) := by decide +kernel
theorem dX4_firstFault_67 : decode cX4_firstFault 67 = .ok (.bipush (-4), 2) := by decide +kernel
theorem dX4_firstFault_69 : decode cX4_firstFault 69 = .ok (.ireturn, 1) := by decide +kernel
theorem dX4_planRead_0 : decode cX4_planRead 0 = .ok (.iconst 0, 1) := by decide +kernel
theorem dX4_planRead_1 : decode cX4_planRead 1 = .ok (.aload_n 0, 1) := by decide +kernel
theorem dX4_planRead_2 : decode cX4_planRead 2 = .ok (.getfield 29, 3) := by decide +kernel
theorem dX4_planRead_5 : decode cX4_planRead 5 = .ok (.aload_n 0, 1) := by decide +kernel
theorem dX4_planRead_6 : decode cX4_planRead 6 = .ok (.getfield 11, 3) := by decide +kernel
theorem dX4_planRead_9 : decode cX4_planRead 9 = .ok (.arraylength, 1) := by decide +kernel
theorem dX4_planRead_10 : decode cX4_planRead 10 = .ok (.invokestatic 45, 3) := by decide +kernel
theorem dX4_planRead_13 : decode cX4_planRead 13 = .ok (.invokestatic 51, 3) := by decide +kernel
theorem dX4_planRead_16 : decode cX4_planRead 16 = .ok (.anewarray 9, 3) := by decide +kernel
theorem dX4_planRead_19 : decode cX4_planRead 19 = .ok (.astore_n 1, 1) := by decide +kernel
theorem dX4_planRead_20 : decode cX4_planRead 20 = .ok (.iconst 0, 1) := by decide +kernel
theorem dX4_planRead_21 : decode cX4_planRead 21 = .ok (.istore_n 2, 1) := by decide +kernel
theorem dX4_planRead_22 : decode cX4_planRead 22 = .ok (.iload_n 2, 1) := by decide +kernel
theorem dX4_planRead_23 : decode cX4_planRead 23 = .ok (.aload_n 1, 1) := by decide +kernel
theorem dX4_planRead_24 : decode cX4_planRead 24 = .ok (.arraylength, 1) := by decide +kernel
theorem dX4_planRead_25 : decode cX4_planRead 25 = .ok (.if_icmp .ge 18, 3) := by decide +kernel
theorem dX4_planRead_28 : decode cX4_planRead 28 = .ok (.aload_n 1, 1) := by decide +kernel
theorem dX4_planRead_29 : decode cX4_planRead 29 = .ok (.iload_n 2, 1) := by decide +kernel
theorem dX4_planRead_30 : decode cX4_planRead 30 = .ok (.aload_n 0, 1) := by decide +kernel
theorem dX4_planRead_31 : decode cX4_planRead 31 = .ok (.getfield 11, 3) := by decide +kernel
theorem dX4_planRead_34 : decode cX4_planRead 34 = .ok (.iload_n 2, 1) := by decide +kernel
theorem dX4_planRead_35 : decode cX4_planRead 35 = .ok (.aaload, 1) := by decide +kernel
theorem dX4_planRead_36 : decode cX4_planRead 36 = .ok (.aastore, 1) := by decide +kernel
theorem dX4_planRead_37 : decode cX4_planRead 37 = .ok (.iinc 2 1, 3) := by decide +kernel
theorem dX4_planRead_40 : decode cX4_planRead 40 = .ok (.goto (-18), 3) := by decide +kernel
theorem dX4_planRead_43 : decode cX4_planRead 43 = .ok (.new 54, 3) := by decide +kernel
theorem dX4_planRead_46 : decode cX4_planRead 46 = .ok (.dup, 1) := by decide +kernel
theorem dX4_planRead_47 : decode cX4_planRead 47 = .ok (.aload_n 1, 1) := by decide +kernel
theorem dX4_planRead_48 : decode cX4_planRead 48 = .ok (.aload_n 0, 1) := by decide +kernel
theorem dX4_planRead_49 : decode cX4_planRead 49 = .ok (.getfield 32, 3) := by decide +kernel
theorem dX4_planRead_52 : decode cX4_planRead 52 = .ok (.aload_n 0, 1) := by decide +kernel
theorem dX4_planRead_53 : decode cX4_planRead 53 = .ok (.getfield 35, 3) := by decide +kernel
theorem dX4_planRead_56 : decode cX4_planRead 56 = .ok (.aload_n 0, 1) := by decide +kernel
theorem dX4_planRead_57 : decode cX4_planRead 57 = .ok (.getfield 38, 3) := by decide +kernel
theorem dX4_planRead_60 : decode cX4_planRead 60 = .ok (.invokespecial 56, 3) := by decide +kernel
theorem dX4_planRead_63 : decode cX4_planRead 63 = .ok (.areturn, 1) := by decide +kernel
theorem dX4_readItem_0 : decode cX4_readItem 0 = .ok (.aload_n 0, 1) := by decide +kernel
theorem dX4_readItem_1 : decode cX4_readItem 1 = .ok (.iload_n 1, 1) := by decide +kernel
theorem dX4_readItem_2 : decode cX4_readItem 2 = .ok (.invokevirtual 59, 3) := by decide +kernel
theorem dX4_readItem_5 : decode cX4_readItem 5 = .ok (.istore_n 2, 1) := by decide +kernel
theorem dX4_readItem_6 : decode cX4_readItem 6 = .ok (.iload_n 2, 1) := by decide +kernel
theorem dX4_readItem_7 : decode cX4_readItem 7 = .ok (.invokestatic 63, 3) := by decide +kernel
theorem dX4_readItem_10 : decode cX4_readItem 10 = .ok (.istore_n 3, 1) := by decide +kernel
theorem dX4_readItem_11 : decode cX4_readItem 11 = .ok (.iload_n 3, 1) := by decide +kernel
theorem dX4_readItem_12 : decode cX4_readItem 12 = .ok (.iconst 1, 1) := by decide +kernel
theorem dX4_readItem_13 : decode cX4_readItem 13 = .ok (.if_icmp .ge 5, 3) := by decide +kernel
theorem dX4_readItem_16 : decode cX4_readItem 16 = .ok (.iconst (-1), 1) := by decide +kernel
theorem dX4_readItem_17 : decode cX4_readItem 17 = .ok (.ireturn, 1) := by decide +kernel
theorem dX4_readItem_18 : decode cX4_readItem 18 = .ok (.iload_n 1, 1) := by decide +kernel
theorem dX4_readItem_19 : decode cX4_readItem 19 = .ok (.iconst 1, 1) := by decide +kernel
theorem dX4_readItem_20 : decode cX4_readItem 20 = .ok (.iadd, 1) := by decide +kernel
theorem dX4_readItem_21 : decode cX4_readItem 21 = .ok (.istore 4, 2) := by decide +kernel
theorem dX4_readItem_23 : decode cX4_readItem 23 = .ok (.iconst 0, 1) := by decide +kernel
theorem dX4_readItem_24 : decode cX4_readItem 24 = .ok (.istore 5, 2) := by decide +kernel
theorem dX4_readItem_26 : decode cX4_readItem 26 = .ok (.iload 5, 2) := by decide +kernel
theorem dX4_readItem_28 : decode cX4_readItem 28 = .ok (.iload_n 3, 1) := by decide +kernel
theorem dX4_readItem_29 : decode cX4_readItem 29 = .ok (.if_icmp .ge 85, 3) := by decide +kernel
theorem dX4_readItem_32 : decode cX4_readItem 32 = .ok (.iload 5, 2) := by decide +kernel
theorem dX4_readItem_34 : decode cX4_readItem 34 = .ok (.aload_n 0, 1) := by decide +kernel
theorem dX4_readItem_35 : decode cX4_readItem 35 = .ok (.getfield 17, 3) := by decide +kernel
theorem dX4_readItem_38 : decode cX4_readItem 38 = .ok (.arraylength, 1) := by decide +kernel
theorem dX4_readItem_39 : decode cX4_readItem 39 = .ok (.if_icmp .ge 75, 3) := by decide +kernel
theorem dX4_readItem_42 : decode cX4_readItem 42 = .ok (.aload_n 0, 1) := by decide +kernel
theorem dX4_readItem_43 : decode cX4_readItem 43 = .ok (.iload 4, 2) := by decide +kernel
theorem dX4_readItem_45 : decode cX4_readItem 45 = .ok (.invokevirtual 67, 3) := by decide +kernel
theorem dX4_readItem_48 : decode cX4_readItem 48 = .ok (.istore 6, 2) := by decide +kernel
theorem dX4_readItem_50 : decode cX4_readItem 50 = .ok (.iload 5, 2) := by decide +kernel
theorem dX4_readItem_52 : decode cX4_readItem 52 = .ok (.iload_n 3, 1) := by decide +kernel
theorem dX4_readItem_53 : decode cX4_readItem 53 = .ok (.iconst 1, 1) := by decide +kernel
theorem dX4_readItem_54 : decode cX4_readItem 54 = .ok (.isub, 1) := by decide +kernel
theorem dX4_readItem_55 : decode cX4_readItem 55 = .ok (.if_icmp .ne 8, 3) := by decide +kernel
theorem dX4_readItem_58 : decode cX4_readItem 58 = .ok (.bipush 59, 2) := by decide +kernel
theorem dX4_readItem_60 : decode cX4_readItem 60 = .ok (.goto 5, 3) := by decide +kernel
theorem dX4_readItem_63 : decode cX4_readItem 63 = .ok (.bipush 44, 2) := by decide +kernel
theorem dX4_readItem_65 : decode cX4_readItem 65 = .ok (.istore 7, 2) := by decide +kernel
theorem dX4_readItem_67 : decode cX4_readItem 67 = .ok (.iload 6, 2) := by decide +kernel
theorem dX4_readItem_69 : decode cX4_readItem 69 = .ok (.iload 4, 2) := by decide +kernel
theorem dX4_readItem_71 : decode cX4_readItem 71 = .ok (.if_icmp .eq 14, 3) := by decide +kernel
theorem dX4_readItem_74 : decode cX4_readItem 74 = .ok (.aload_n 0, 1) := by decide +kernel
theorem dX4_readItem_75 : decode cX4_readItem 75 = .ok (.iload 6, 2) := by decide +kernel
theorem dX4_readItem_77 : decode cX4_readItem 77 = .ok (.invokevirtual 59, 3) := by decide +kernel
theorem dX4_readItem_80 : decode cX4_readItem 80 = .ok (.iload 7, 2) := by decide +kernel
theorem dX4_readItem_82 : decode cX4_readItem 82 = .ok (.if_icmp .eq 5, 3) := by decide +kernel
theorem dX4_readItem_85 : decode cX4_readItem 85 = .ok (.iconst (-1), 1) := by decide +kernel
theorem dX4_readItem_86 : decode cX4_readItem 86 = .ok (.ireturn, 1) := by decide +kernel
theorem dX4_readItem_87 : decode cX4_readItem 87 = .ok (.aload_n 0, 1) := by decide +kernel
theorem dX4_readItem_88 : decode cX4_readItem 88 = .ok (.getfield 17, 3) := by decide +kernel
theorem dX4_readItem_91 : decode cX4_readItem 91 = .ok (.iload 5, 2) := by decide +kernel
theorem dX4_readItem_93 : decode cX4_readItem 93 = .ok (.aload_n 0, 1) := by decide +kernel
theorem dX4_readItem_94 : decode cX4_readItem 94 = .ok (.iload 4, 2) := by decide +kernel
theorem dX4_readItem_96 : decode cX4_readItem 96 = .ok (.iload 6, 2) := by decide +kernel
theorem dX4_readItem_98 : decode cX4_readItem 98 = .ok (.invokevirtual 70, 3) := by decide +kernel
theorem dX4_readItem_101 : decode cX4_readItem 101 = .ok (.iastore, 1) := by decide +kernel
theorem dX4_readItem_102 : decode cX4_readItem 102 = .ok (.iload 6, 2) := by decide +kernel
theorem dX4_readItem_104 : decode cX4_readItem 104 = .ok (.iconst 1, 1) := by decide +kernel
theorem dX4_readItem_105 : decode cX4_readItem 105 = .ok (.iadd, 1) := by decide +kernel
theorem dX4_readItem_106 : decode cX4_readItem 106 = .ok (.istore 4, 2) := by decide +kernel
theorem dX4_readItem_108 : decode cX4_readItem 108 = .ok (.iinc 5 1, 3) := by decide +kernel
theorem dX4_readItem_111 : decode cX4_readItem 111 = .ok (.goto (-85), 3) := by decide +kernel
theorem dX4_readItem_114 : decode cX4_readItem 114 = .ok (.aload_n 0, 1) := by decide +kernel
theorem dX4_readItem_115 : decode cX4_readItem 115 = .ok (.iload_n 2, 1) := by decide +kernel
theorem dX4_readItem_116 : decode cX4_readItem 116 = .ok (.invokevirtual 73, 3) := by decide +kernel
theorem dX4_readItem_119 : decode cX4_readItem 119 = .ok (.ifCond .eq 8, 3) := by decide +kernel
theorem dX4_readItem_122 : decode cX4_readItem 122 = .ok (.iload 4, 2) := by decide +kernel
theorem dX4_readItem_124 : decode cX4_readItem 124 = .ok (.goto 4, 3) := by decide +kernel
theorem dX4_readItem_127 : decode cX4_readItem 127 = .ok (.iconst (-1), 1) := by decide +kernel
theorem dX4_readItem_128 : decode cX4_readItem 128 = .ok (.ireturn, 1) := by decide +kernel
theorem dX4_numbersOf_0 : decode cX4_numbersOf 0 = .ok (.iload_n 0, 1) := by decide +kernel
theorem dX4_numbersOf_1 : decode cX4_numbersOf 1 = .ok (.lookupswitch 57 #[(98, 53), (108, 51), (113, 51), (114, 51), (117, 55)], 51) := by decide +kernel
theorem dX4_numbersOf_52 : decode cX4_numbersOf 52 = .ok (.iconst 4, 1) := by decide +kernel
theorem dX4_numbersOf_53 : decode cX4_numbersOf 53 = .ok (.ireturn, 1) := by decide +kernel
theorem dX4_numbersOf_54 : decode cX4_numbersOf 54 = .ok (.iconst 2, 1) := by decide +kernel
theorem dX4_numbersOf_55 : decode cX4_numbersOf 55 = .ok (.ireturn, 1) := by decide +kernel
theorem dX4_numbersOf_56 : decode cX4_numbersOf 56 = .ok (.iconst 1, 1) := by decide +kernel
theorem dX4_numbersOf_57 : decode cX4_numbersOf 57 = .ok (.ireturn, 1) := by decide +kernel
theorem dX4_numbersOf_58 : decode cX4_numbersOf 58 = .ok (.iconst 0, 1) := by decide +kernel
theorem dX4_numbersOf_59 : decode cX4_numbersOf 59 = .ok (.ireturn, 1) := by decide +kernel
theorem dX4_letterAt_0 : decode cX4_letterAt 0 = .ok (.aload_n 0, 1) := by decide +kernel
theorem dX4_letterAt_1 : decode cX4_letterAt 1 = .ok (.getfield 21, 3) := by decide +kernel
theorem dX4_letterAt_4 : decode cX4_letterAt 4 = .ok (.ifnull 24, 3) := by decide +kernel
theorem dX4_letterAt_7 : decode cX4_letterAt 7 = .ok (.iload_n 1, 1) := by decide +kernel
theorem dX4_letterAt_8 : decode cX4_letterAt 8 = .ok (.ifCond .lt 20, 3) := by decide +kernel
theorem dX4_letterAt_11 : decode cX4_letterAt 11 = .ok (.iload_n 1, 1) := by decide +kernel
theorem dX4_letterAt_12 : decode cX4_letterAt 12 = .ok (.aload_n 0, 1) := by decide +kernel
theorem dX4_letterAt_13 : decode cX4_letterAt 13 = .ok (.getfield 25, 3) := by decide +kernel
theorem dX4_letterAt_16 : decode cX4_letterAt 16 = .ok (.if_icmp .ge 12, 3) := by decide +kernel
theorem dX4_letterAt_19 : decode cX4_letterAt 19 = .ok (.iload_n 1, 1) := by decide +kernel
theorem dX4_letterAt_20 : decode cX4_letterAt 20 = .ok (.aload_n 0, 1) := by decide +kernel
theorem dX4_letterAt_21 : decode cX4_letterAt 21 = .ok (.getfield 21, 3) := by decide +kernel
theorem dX4_letterAt_24 : decode cX4_letterAt 24 = .ok (.arraylength, 1) := by decide +kernel
theorem dX4_letterAt_25 : decode cX4_letterAt 25 = .ok (.if_icmp .lt 5, 3) := by decide +kernel
theorem dX4_letterAt_28 : decode cX4_letterAt 28 = .ok (.iconst 0, 1) := by decide +kernel
theorem dX4_letterAt_29 : decode cX4_letterAt 29 = .ok (.ireturn, 1) := by decide +kernel
theorem dX4_letterAt_30 : decode cX4_letterAt 30 = .ok (.aload_n 0, 1) := by decide +kernel
theorem dX4_letterAt_31 : decode cX4_letterAt 31 = .ok (.getfield 21, 3) := by decide +kernel
theorem dX4_letterAt_34 : decode cX4_letterAt 34 = .ok (.iload_n 1, 1) := by decide +kernel
theorem dX4_letterAt_35 : decode cX4_letterAt 35 = .ok (.caload, 1) := by decide +kernel
theorem dX4_letterAt_36 : decode cX4_letterAt 36 = .ok (.ireturn, 1) := by decide +kernel
theorem dX4_isFigure_0 : decode cX4_isFigure 0 = .ok (.aload_n 0, 1) := by decide +kernel
theorem dX4_isFigure_1 : decode cX4_isFigure 1 = .ok (.iload_n 1, 1) := by decide +kernel
theorem dX4_isFigure_2 : decode cX4_isFigure 2 = .ok (.invokevirtual 59, 3) := by decide +kernel
theorem dX4_isFigure_5 : decode cX4_isFigure 5 = .ok (.istore_n 2, 1) := by decide +kernel
theorem dX4_isFigure_6 : decode cX4_isFigure 6 = .ok (.iload_n 2, 1) := by decide +kernel
theorem dX4_isFigure_7 : decode cX4_isFigure 7 = .ok (.bipush 48, 2) := by decide +kernel
theorem dX4_isFigure_9 : decode cX4_isFigure 9 = .ok (.if_icmp .lt 13, 3) := by decide +kernel
theorem dX4_isFigure_12 : decode cX4_isFigure 12 = .ok (.iload_n 2, 1) := by decide +kernel
theorem dX4_isFigure_13 : decode cX4_isFigure 13 = .ok (.bipush 57, 2) := by decide +kernel
theorem dX4_isFigure_15 : decode cX4_isFigure 15 = .ok (.if_icmp .gt 7, 3) := by decide +kernel
theorem dX4_isFigure_18 : decode cX4_isFigure 18 = .ok (.iconst 1, 1) := by decide +kernel
theorem dX4_isFigure_19 : decode cX4_isFigure 19 = .ok (.goto 4, 3) := by decide +kernel
theorem dX4_isFigure_22 : decode cX4_isFigure 22 = .ok (.iconst 0, 1) := by decide +kernel
theorem dX4_isFigure_23 : decode cX4_isFigure 23 = .ok (.ireturn, 1) := by decide +kernel
theorem dX4_endOfFigures_0 : decode cX4_endOfFigures 0 = .ok (.iconst 0, 1) := by decide +kernel
theorem dX4_endOfFigures_1 : decode cX4_endOfFigures 1 = .ok (.istore_n 2, 1) := by decide +kernel
theorem dX4_endOfFigures_2 : decode cX4_endOfFigures 2 = .ok (.iload_n 2, 1) := by decide +kernel
theorem dX4_endOfFigures_3 : decode cX4_endOfFigures 3 = .ok (.iconst 3, 1) := by decide +kernel
theorem dX4_endOfFigures_4 : decode cX4_endOfFigures 4 = .ok (.if_icmp .ge 19, 3) := by decide +kernel
theorem dX4_endOfFigures_7 : decode cX4_endOfFigures 7 = .ok (.aload_n 0, 1) := by decide +kernel
theorem dX4_endOfFigures_8 : decode cX4_endOfFigures 8 = .ok (.iload_n 1, 1) := by decide +kernel
theorem dX4_endOfFigures_9 : decode cX4_endOfFigures 9 = .ok (.iload_n 2, 1) := by decide +kernel
theorem dX4_endOfFigures_10 : decode cX4_endOfFigures 10 = .ok (.iadd, 1) := by decide +kernel
theorem dX4_endOfFigures_11 : decode cX4_endOfFigures 11 = .ok (.invokevirtual 77, 3) := by decide +kernel
theorem dX4_endOfFigures_14 : decode cX4_endOfFigures 14 = .ok (.ifCond .eq 9, 3) := by decide +kernel
theorem dX4_endOfFigures_17 : decode cX4_endOfFigures 17 = .ok (.iinc 2 1, 3) := by decide +kernel
theorem dX4_endOfFigures_20 : decode cX4_endOfFigures 20 = .ok (.goto (-18), 3) := by decide +kernel
theorem dX4_endOfFigures_23 : decode cX4_endOfFigures 23 = .ok (.iload_n 1, 1) := by decide +kernel
theorem dX4_endOfFigures_24 : decode cX4_endOfFigures 24 = .ok (.iload_n 2, 1) := by decide +kernel
theorem dX4_endOfFigures_25 : decode cX4_endOfFigures 25 = .ok (.iadd, 1) := by decide +kernel
theorem dX4_endOfFigures_26 : decode cX4_endOfFigures 26 = .ok (.ireturn, 1) := by decide +kernel
theorem dX4_valueOf_0 : decode cX4_valueOf 0 = .ok (.iconst 0, 1) := by decide +kernel
theorem dX4_valueOf_1 : decode cX4_valueOf 1 = .ok (.istore_n 3, 1) := by decide +kernel
theorem dX4_valueOf_2 : decode cX4_valueOf 2 = .ok (.iload_n 1, 1) := by decide +kernel
theorem dX4_valueOf_3 : decode cX4_valueOf 3 = .ok (.istore 4, 2) := by decide +kernel
theorem dX4_valueOf_5 : decode cX4_valueOf 5 = .ok (.iload 4, 2) := by decide +kernel
theorem dX4_valueOf_7 : decode cX4_valueOf 7 = .ok (.iload_n 2, 1) := by decide +kernel
theorem dX4_valueOf_8 : decode cX4_valueOf 8 = .ok (.if_icmp .ge 24, 3) := by decide +kernel
theorem dX4_valueOf_11 : decode cX4_valueOf 11 = .ok (.iload_n 3, 1) := by decide +kernel
theorem dX4_valueOf_12 : decode cX4_valueOf 12 = .ok (.bipush 10, 2) := by decide +kernel
theorem dX4_valueOf_14 : decode cX4_valueOf 14 = .ok (.imul, 1) := by decide +kernel
theorem dX4_valueOf_15 : decode cX4_valueOf 15 = .ok (.aload_n 0, 1) := by decide +kernel
theorem dX4_valueOf_16 : decode cX4_valueOf 16 = .ok (.iload 4, 2) := by decide +kernel
theorem dX4_valueOf_18 : decode cX4_valueOf 18 = .ok (.invokevirtual 59, 3) := by decide +kernel
theorem dX4_valueOf_21 : decode cX4_valueOf 21 = .ok (.iadd, 1) := by decide +kernel
theorem dX4_valueOf_22 : decode cX4_valueOf 22 = .ok (.bipush 48, 2) := by decide +kernel
theorem dX4_valueOf_24 : decode cX4_valueOf 24 = .ok (.isub, 1) := by decide +kernel
theorem dX4_valueOf_25 : decode cX4_valueOf 25 = .ok (.istore_n 3, 1) := by decide +kernel
theorem dX4_valueOf_26 : decode cX4_valueOf 26 = .ok (.iinc 4 1, 3) := by decide +kernel
theorem dX4_valueOf_29 : decode cX4_valueOf 29 = .ok (.goto (-24), 3) := by decide +kernel
theorem dX4_valueOf_32 : decode cX4_valueOf 32 = .ok (.iload_n 3, 1) := by decide +kernel
theorem dX4_valueOf_33 : decode cX4_valueOf 33 = .ok (.ireturn, 1) := by decide +kernel
end
section
theorem dX4_keepItem_0 : decode cX4_keepItem 0 = .ok (.iload_n 1, 1) := by decide +kernel
theorem dX4_keepItem_1 : decode cX4_keepItem 1 = .ok (.bipush 117, 2) := by decide +kernel
theorem dX4_keepItem_3 : decode cX4_keepItem 3 = .ok (.if_icmp .ne 8, 3) := by decide +kernel
theorem dX4_keepItem_6 : decode cX4_keepItem 6 = .ok (.aload_n 0, 1) := by decide +kernel
theorem dX4_keepItem_7 : decode cX4_keepItem 7 = .ok (.invokevirtual 81, 3) := by decide +kernel
theorem dX4_keepItem_10 : decode cX4_keepItem 10 = .ok (.ireturn, 1) := by decide +kernel
theorem dX4_keepItem_11 : decode cX4_keepItem 11 = .ok (.iload_n 1, 1) := by decide +kernel
theorem dX4_keepItem_12 : decode cX4_keepItem 12 = .ok (.bipush 98, 2) := by decide +kernel
theorem dX4_keepItem_14 : decode cX4_keepItem 14 = .ok (.if_icmp .ne 8, 3) := by decide +kernel
theorem dX4_keepItem_17 : decode cX4_keepItem 17 = .ok (.aload_n 0, 1) := by decide +kernel
theorem dX4_keepItem_18 : decode cX4_keepItem 18 = .ok (.invokevirtual 85, 3) := by decide +kernel
theorem dX4_keepItem_21 : decode cX4_keepItem 21 = .ok (.ireturn, 1) := by decide +kernel
theorem dX4_keepItem_22 : decode cX4_keepItem 22 = .ok (.iload_n 1, 1) := by decide +kernel
theorem dX4_keepItem_23 : decode cX4_keepItem 23 = .ok (.bipush 113, 2) := by decide +kernel
theorem dX4_keepItem_25 : decode cX4_keepItem 25 = .ok (.if_icmp .ne 7, 3) := by decide +kernel
theorem dX4_keepItem_28 : decode cX4_keepItem 28 = .ok (.iconst 0, 1) := by decide +kernel
theorem dX4_keepItem_29 : decode cX4_keepItem 29 = .ok (.goto 14, 3) := by decide +kernel
theorem dX4_keepItem_32 : decode cX4_keepItem 32 = .ok (.iload_n 1, 1) := by decide +kernel
theorem dX4_keepItem_33 : decode cX4_keepItem 33 = .ok (.bipush 114, 2) := by decide +kernel
theorem dX4_keepItem_35 : decode cX4_keepItem 35 = .ok (.if_icmp .ne 7, 3) := by decide +kernel
theorem dX4_keepItem_38 : decode cX4_keepItem 38 = .ok (.iconst 1, 1) := by decide +kernel
theorem dX4_keepItem_39 : decode cX4_keepItem 39 = .ok (.goto 4, 3) := by decide +kernel
theorem dX4_keepItem_42 : decode cX4_keepItem 42 = .ok (.iconst 2, 1) := by decide +kernel
theorem dX4_keepItem_43 : decode cX4_keepItem 43 = .ok (.istore_n 2, 1) := by decide +kernel
theorem dX4_keepItem_44 : decode cX4_keepItem 44 = .ok (.aload_n 0, 1) := by decide +kernel
theorem dX4_keepItem_45 : decode cX4_keepItem 45 = .ok (.getfield 17, 3) := by decide +kernel
theorem dX4_keepItem_48 : decode cX4_keepItem 48 = .ok (.iconst 0, 1) := by decide +kernel
theorem dX4_keepItem_49 : decode cX4_keepItem 49 = .ok (.iaload, 1) := by decide +kernel
theorem dX4_keepItem_50 : decode cX4_keepItem 50 = .ok (.istore_n 3, 1) := by decide +kernel
theorem dX4_keepItem_51 : decode cX4_keepItem 51 = .ok (.aload_n 0, 1) := by decide +kernel
theorem dX4_keepItem_52 : decode cX4_keepItem 52 = .ok (.getfield 17, 3) := by decide +kernel
theorem dX4_keepItem_55 : decode cX4_keepItem 55 = .ok (.iconst 1, 1) := by decide +kernel
theorem dX4_keepItem_56 : decode cX4_keepItem 56 = .ok (.iaload, 1) := by decide +kernel
theorem dX4_keepItem_57 : decode cX4_keepItem 57 = .ok (.istore 4, 2) := by decide +kernel
theorem dX4_keepItem_59 : decode cX4_keepItem 59 = .ok (.aload_n 0, 1) := by decide +kernel
theorem dX4_keepItem_60 : decode cX4_keepItem 60 = .ok (.getfield 17, 3) := by decide +kernel
theorem dX4_keepItem_63 : decode cX4_keepItem 63 = .ok (.iconst 2, 1) := by decide +kernel
theorem dX4_keepItem_64 : decode cX4_keepItem 64 = .ok (.iaload, 1) := by decide +kernel
theorem dX4_keepItem_65 : decode cX4_keepItem 65 = .ok (.istore 5, 2) := by decide +kernel
theorem dX4_keepItem_67 : decode cX4_keepItem 67 = .ok (.aload_n 0, 1) := by decide +kernel
theorem dX4_keepItem_68 : decode cX4_keepItem 68 = .ok (.getfield 17, 3) := by decide +kernel
theorem dX4_keepItem_71 : decode cX4_keepItem 71 = .ok (.iconst 3, 1) := by decide +kernel
theorem dX4_keepItem_72 : decode cX4_keepItem 72 = .ok (.iaload, 1) := by decide +kernel
theorem dX4_keepItem_73 : decode cX4_keepItem 73 = .ok (.istore 6, 2) := by decide +kernel
theorem dX4_keepItem_75 : decode cX4_keepItem 75 = .ok (.aload_n 0, 1) := by decide +kernel
theorem dX4_keepItem_76 : decode cX4_keepItem 76 = .ok (.getfield 29, 3) := by decide +kernel
theorem dX4_keepItem_79 : decode cX4_keepItem 79 = .ok (.ifCond .lt 22, 3) := by decide +kernel
theorem dX4_keepItem_82 : decode cX4_keepItem 82 = .ok (.aload_n 0, 1) := by decide +kernel
theorem dX4_keepItem_83 : decode cX4_keepItem 83 = .ok (.getfield 29, 3) := by decide +kernel
theorem dX4_keepItem_86 : decode cX4_keepItem 86 = .ok (.aload_n 0, 1) := by decide +kernel
theorem dX4_keepItem_87 : decode cX4_keepItem 87 = .ok (.getfield 11, 3) := by decide +kernel
theorem dX4_keepItem_90 : decode cX4_keepItem 90 = .ok (.arraylength, 1) := by decide +kernel
theorem dX4_keepItem_91 : decode cX4_keepItem 91 = .ok (.if_icmp .ge 10, 3) := by decide +kernel
theorem dX4_keepItem_94 : decode cX4_keepItem 94 = .ok (.iload_n 3, 1) := by decide +kernel
theorem dX4_keepItem_95 : decode cX4_keepItem 95 = .ok (.invokestatic 88, 3) := by decide +kernel
theorem dX4_keepItem_98 : decode cX4_keepItem 98 = .ok (.ifCond .ne 5, 3) := by decide +kernel
theorem dX4_keepItem_101 : decode cX4_keepItem 101 = .ok (.iconst 0, 1) := by decide +kernel
theorem dX4_keepItem_102 : decode cX4_keepItem 102 = .ok (.ireturn, 1) := by decide +kernel
theorem dX4_keepItem_103 : decode cX4_keepItem 103 = .ok (.iload_n 2, 1) := by decide +kernel
theorem dX4_keepItem_104 : decode cX4_keepItem 104 = .ok (.iload_n 3, 1) := by decide +kernel
theorem dX4_keepItem_105 : decode cX4_keepItem 105 = .ok (.iload 4, 2) := by decide +kernel
theorem dX4_keepItem_107 : decode cX4_keepItem 107 = .ok (.invokestatic 93, 3) := by decide +kernel
theorem dX4_keepItem_110 : decode cX4_keepItem 110 = .ok (.ifCond .ne 5, 3) := by decide +kernel
theorem dX4_keepItem_113 : decode cX4_keepItem 113 = .ok (.iconst 0, 1) := by decide +kernel
theorem dX4_keepItem_114 : decode cX4_keepItem 114 = .ok (.ireturn, 1) := by decide +kernel
theorem dX4_keepItem_115 : decode cX4_keepItem 115 = .ok (.iload_n 3, 1) := by decide +kernel
theorem dX4_keepItem_116 : decode cX4_keepItem 116 = .ok (.iload 5, 2) := by decide +kernel
theorem dX4_keepItem_118 : decode cX4_keepItem 118 = .ok (.invokestatic 97, 3) := by decide +kernel
theorem dX4_keepItem_121 : decode cX4_keepItem 121 = .ok (.ifCond .eq 11, 3) := by decide +kernel
theorem dX4_keepItem_124 : decode cX4_keepItem 124 = .ok (.iload 6, 2) := by decide +kernel
theorem dX4_keepItem_126 : decode cX4_keepItem 126 = .ok (.invokestatic 101, 3) := by decide +kernel
theorem dX4_keepItem_129 : decode cX4_keepItem 129 = .ok (.ifCond .ne 5, 3) := by decide +kernel
theorem dX4_keepItem_132 : decode cX4_keepItem 132 = .ok (.iconst 0, 1) := by decide +kernel
theorem dX4_keepItem_133 : decode cX4_keepItem 133 = .ok (.ireturn, 1) := by decide +kernel
theorem dX4_keepItem_134 : decode cX4_keepItem 134 = .ok (.aload_n 0, 1) := by decide +kernel
theorem dX4_keepItem_135 : decode cX4_keepItem 135 = .ok (.getfield 11, 3) := by decide +kernel
theorem dX4_keepItem_138 : decode cX4_keepItem 138 = .ok (.aload_n 0, 1) := by decide +kernel
theorem dX4_keepItem_139 : decode cX4_keepItem 139 = .ok (.getfield 29, 3) := by decide +kernel
theorem dX4_keepItem_142 : decode cX4_keepItem 142 = .ok (.new 9, 3) := by decide +kernel
theorem dX4_keepItem_145 : decode cX4_keepItem 145 = .ok (.dup, 1) := by decide +kernel
theorem dX4_keepItem_146 : decode cX4_keepItem 146 = .ok (.iload_n 2, 1) := by decide +kernel
theorem dX4_keepItem_147 : decode cX4_keepItem 147 = .ok (.iload_n 3, 1) := by decide +kernel
theorem dX4_keepItem_148 : decode cX4_keepItem 148 = .ok (.iload 4, 2) := by decide +kernel
theorem dX4_keepItem_150 : decode cX4_keepItem 150 = .ok (.iload 5, 2) := by decide +kernel
theorem dX4_keepItem_152 : decode cX4_keepItem 152 = .ok (.iload 6, 2) := by decide +kernel
theorem dX4_keepItem_154 : decode cX4_keepItem 154 = .ok (.invokespecial 104, 3) := by decide +kernel
theorem dX4_keepItem_157 : decode cX4_keepItem 157 = .ok (.aastore, 1) := by decide +kernel
theorem dX4_keepItem_158 : decode cX4_keepItem 158 = .ok (.aload_n 0, 1) := by decide +kernel
theorem dX4_keepItem_159 : decode cX4_keepItem 159 = .ok (.dup, 1) := by decide +kernel
theorem dX4_keepItem_160 : decode cX4_keepItem 160 = .ok (.getfield 29, 3) := by decide +kernel
theorem dX4_keepItem_163 : decode cX4_keepItem 163 = .ok (.iconst 1, 1) := by decide +kernel
theorem dX4_keepItem_164 : decode cX4_keepItem 164 = .ok (.iadd, 1) := by decide +kernel
theorem dX4_keepItem_165 : decode cX4_keepItem 165 = .ok (.putfield 29, 3) := by decide +kernel
theorem dX4_keepItem_168 : decode cX4_keepItem 168 = .ok (.iconst 1, 1) := by decide +kernel
theorem dX4_keepItem_169 : decode cX4_keepItem 169 = .ok (.ireturn, 1) := by decide +kernel
theorem dX4_keepUnit_0 : decode cX4_keepUnit 0 = .ok (.iconst 0, 1) := by decide +kernel
theorem dX4_keepUnit_1 : decode cX4_keepUnit 1 = .ok (.aload_n 0, 1) := by decide +kernel
theorem dX4_keepUnit_2 : decode cX4_keepUnit 2 = .ok (.getfield 17, 3) := by decide +kernel
theorem dX4_keepUnit_5 : decode cX4_keepUnit 5 = .ok (.iconst 0, 1) := by decide +kernel
theorem dX4_keepUnit_6 : decode cX4_keepUnit 6 = .ok (.iaload, 1) := by decide +kernel
theorem dX4_keepUnit_7 : decode cX4_keepUnit 7 = .ok (.invokestatic 107, 3) := by decide +kernel
theorem dX4_keepUnit_10 : decode cX4_keepUnit 10 = .ok (.ifCond .ne 5, 3) := by decide +kernel
theorem dX4_keepUnit_13 : decode cX4_keepUnit 13 = .ok (.iconst 0, 1) := by decide +kernel
theorem dX4_keepUnit_14 : decode cX4_keepUnit 14 = .ok (.ireturn, 1) := by decide +kernel
theorem dX4_keepUnit_15 : decode cX4_keepUnit 15 = .ok (.aload_n 0, 1) := by decide +kernel
theorem dX4_keepUnit_16 : decode cX4_keepUnit 16 = .ok (.aload_n 0, 1) := by decide +kernel
theorem dX4_keepUnit_17 : decode cX4_keepUnit 17 = .ok (.getfield 17, 3) := by decide +kernel
theorem dX4_keepUnit_20 : decode cX4_keepUnit 20 = .ok (.iconst 0, 1) := by decide +kernel
theorem dX4_keepUnit_21 : decode cX4_keepUnit 21 = .ok (.iaload, 1) := by decide +kernel
theorem dX4_keepUnit_22 : decode cX4_keepUnit 22 = .ok (.putfield 32, 3) := by decide +kernel
theorem dX4_keepUnit_25 : decode cX4_keepUnit 25 = .ok (.iconst 1, 1) := by decide +kernel
theorem dX4_keepUnit_26 : decode cX4_keepUnit 26 = .ok (.ireturn, 1) := by decide +kernel
theorem dX4_keepBoard_0 : decode cX4_keepBoard 0 = .ok (.iconst 1, 1) := by decide +kernel
theorem dX4_keepBoard_1 : decode cX4_keepBoard 1 = .ok (.aload_n 0, 1) := by decide +kernel
theorem dX4_keepBoard_2 : decode cX4_keepBoard 2 = .ok (.getfield 17, 3) := by decide +kernel
theorem dX4_keepBoard_5 : decode cX4_keepBoard 5 = .ok (.iconst 0, 1) := by decide +kernel
theorem dX4_keepBoard_6 : decode cX4_keepBoard 6 = .ok (.iaload, 1) := by decide +kernel
theorem dX4_keepBoard_7 : decode cX4_keepBoard 7 = .ok (.invokestatic 107, 3) := by decide +kernel
theorem dX4_keepBoard_10 : decode cX4_keepBoard 10 = .ok (.ifCond .eq 16, 3) := by decide +kernel
theorem dX4_keepBoard_13 : decode cX4_keepBoard 13 = .ok (.iconst 2, 1) := by decide +kernel
theorem dX4_keepBoard_14 : decode cX4_keepBoard 14 = .ok (.aload_n 0, 1) := by decide +kernel
theorem dX4_keepBoard_15 : decode cX4_keepBoard 15 = .ok (.getfield 17, 3) := by decide +kernel
theorem dX4_keepBoard_18 : decode cX4_keepBoard 18 = .ok (.iconst 1, 1) := by decide +kernel
theorem dX4_keepBoard_19 : decode cX4_keepBoard 19 = .ok (.iaload, 1) := by decide +kernel
theorem dX4_keepBoard_20 : decode cX4_keepBoard 20 = .ok (.invokestatic 107, 3) := by decide +kernel
theorem dX4_keepBoard_23 : decode cX4_keepBoard 23 = .ok (.ifCond .ne 5, 3) := by decide +kernel
theorem dX4_keepBoard_26 : decode cX4_keepBoard 26 = .ok (.iconst 0, 1) := by decide +kernel
theorem dX4_keepBoard_27 : decode cX4_keepBoard 27 = .ok (.ireturn, 1) := by decide +kernel
theorem dX4_keepBoard_28 : decode cX4_keepBoard 28 = .ok (.aload_n 0, 1) := by decide +kernel
theorem dX4_keepBoard_29 : decode cX4_keepBoard 29 = .ok (.aload_n 0, 1) := by decide +kernel
theorem dX4_keepBoard_30 : decode cX4_keepBoard 30 = .ok (.getfield 17, 3) := by decide +kernel
theorem dX4_keepBoard_33 : decode cX4_keepBoard 33 = .ok (.iconst 0, 1) := by decide +kernel
theorem dX4_keepBoard_34 : decode cX4_keepBoard 34 = .ok (.iaload, 1) := by decide +kernel
theorem dX4_keepBoard_35 : decode cX4_keepBoard 35 = .ok (.putfield 35, 3) := by decide +kernel
theorem dX4_keepBoard_38 : decode cX4_keepBoard 38 = .ok (.aload_n 0, 1) := by decide +kernel
theorem dX4_keepBoard_39 : decode cX4_keepBoard 39 = .ok (.aload_n 0, 1) := by decide +kernel
theorem dX4_keepBoard_40 : decode cX4_keepBoard 40 = .ok (.getfield 17, 3) := by decide +kernel
theorem dX4_keepBoard_43 : decode cX4_keepBoard 43 = .ok (.iconst 1, 1) := by decide +kernel
theorem dX4_keepBoard_44 : decode cX4_keepBoard 44 = .ok (.iaload, 1) := by decide +kernel
theorem dX4_keepBoard_45 : decode cX4_keepBoard 45 = .ok (.putfield 38, 3) := by decide +kernel
theorem dX4_keepBoard_48 : decode cX4_keepBoard 48 = .ok (.iconst 1, 1) := by decide +kernel
theorem dX4_keepBoard_49 : decode cX4_keepBoard 49 = .ok (.ireturn, 1) := by decide +kernel
theorem dX5_init_0 : decode cX5_init 0 = .ok (.aload_n 0, 1) := by decide +kernel
theorem dX5_init_1 : decode cX5_init 1 = .ok (.invokespecial 3, 3) := by decide +kernel
theorem dX5_init_4 : decode cX5_init 4 = .ok (.aload_n 0, 1) := by decide +kernel
theorem dX5_init_5 : decode cX5_init 5 = .ok (.sipush 160, 3) := by decide +kernel
theorem dX5_init_8 : decode cX5_init 8 = .ok (.newarray .int, 2) := by decide +kernel
theorem dX5_init_10 : decode cX5_init 10 = .ok (.putfield 9, 3) := by decide +kernel
theorem dX5_init_13 : decode cX5_init 13 = .ok (.aload_n 0, 1) := by decide +kernel
theorem dX5_init_14 : decode cX5_init 14 = .ok (.bipush 31, 2) := by decide +kernel
theorem dX5_init_16 : decode cX5_init 16 = .ok (.newarray .int, 2) := by decide +kernel
theorem dX5_init_18 : decode cX5_init 18 = .ok (.putfield 15, 3) := by decide +kernel
theorem dX5_init_21 : decode cX5_init 21 = .ok (.aload_n 0, 1) := by decide +kernel
theorem dX5_init_22 : decode cX5_init 22 = .ok (.sipush 160, 3) := by decide +kernel
theorem dX5_init_25 : decode cX5_init 25 = .ok (.newarray .int, 2) := by decide +kernel
theorem dX5_init_27 : decode cX5_init 27 = .ok (.putfield 18, 3) := by decide +kernel
theorem dX5_init_30 : decode cX5_init 30 = .ok (.aload_n 0, 1) := by decide +kernel
theorem dX5_init_31 : decode cX5_init 31 = .ok (.sipush 160, 3) := by decide +kernel
theorem dX5_init_34 : decode cX5_init 34 = .ok (.newarray .int, 2) := by decide +kernel
theorem dX5_init_36 : decode cX5_init 36 = .ok (.putfield 21, 3) := by decide +kernel
theorem dX5_init_39 : decode cX5_init 39 = .ok (.aload_n 0, 1) := by decide +kernel
theorem dX5_init_40 : decode cX5_init 40 = .ok (.sipush 160, 3) := by decide +kernel
theorem dX5_init_43 : decode cX5_init 43 = .ok (.newarray .int, 2) := by decide +kernel
theorem dX5_init_45 : decode cX5_init 45 = .ok (.putfield 24, 3) := by decide +kernel
theorem dX5_init_48 : decode cX5_init 48 = .ok (.aload_n 0, 1) := by decide +kernel
theorem dX5_init_49 : decode cX5_init 49 = .ok (.sipush 160, 3) := by decide +kernel
theorem dX5_init_52 : decode cX5_init 52 = .ok (.newarray .int, 2) := by decide +kernel
theorem dX5_init_54 : decode cX5_init 54 = .ok (.putfield 27, 3) := by decide +kernel
theorem dX5_init_57 : decode cX5_init 57 = .ok (.return_, 1) := by decide +kernel
theorem dX5_cutAll_0 : decode cX5_cutAll 0 = .ok (.aload_n 0, 1) := by decide +kernel
theorem dX5_cutAll_1 : decode cX5_cutAll 1 = .ok (.aload_n 1, 1) := by decide +kernel
theorem dX5_cutAll_2 : decode cX5_cutAll 2 = .ok (.bipush (-4), 2) := by decide +kernel
theorem dX5_cutAll_4 : decode cX5_cutAll 4 = .ok (.iconst 0, 1) := by decide +kernel
theorem dX5_cutAll_5 : decode cX5_cutAll 5 = .ok (.invokevirtual 30, 3) := by decide +kernel
theorem dX5_cutAll_8 : decode cX5_cutAll 8 = .ok (.return_, 1) := by decide +kernel
theorem dX5_cutAllMoved_0 : decode cX5_cutAllMoved 0 = .ok (.aload_n 0, 1) := by decide +kernel
theorem dX5_cutAllMoved_1 : decode cX5_cutAllMoved 1 = .ok (.aload_n 1, 1) := by decide +kernel
theorem dX5_cutAllMoved_2 : decode cX5_cutAllMoved 2 = .ok (.invokevirtual 34, 3) := by decide +kernel
theorem dX5_cutAllMoved_5 : decode cX5_cutAllMoved 5 = .ok (.iconst 0, 1) := by decide +kernel
theorem dX5_cutAllMoved_6 : decode cX5_cutAllMoved 6 = .ok (.istore 4, 2) := by decide +kernel
theorem dX5_cutAllMoved_8 : decode cX5_cutAllMoved 8 = .ok (.iload 4, 2) := by decide +kernel
theorem dX5_cutAllMoved_10 : decode cX5_cutAllMoved 10 = .ok (.aload_n 1, 1) := by decide +kernel
theorem dX5_cutAllMoved_11 : decode cX5_cutAllMoved 11 = .ok (.getfield 38, 3) := by decide +kernel
theorem dX5_cutAllMoved_14 : decode cX5_cutAllMoved 14 = .ok (.arraylength, 1) := by decide +kernel
theorem dX5_cutAllMoved_15 : decode cX5_cutAllMoved 15 = .ok (.if_icmp .ge 43, 3) := by decide +kernel
theorem dX5_cutAllMoved_18 : decode cX5_cutAllMoved 18 = .ok (.aload_n 1, 1) := by decide +kernel
theorem dX5_cutAllMoved_19 : decode cX5_cutAllMoved 19 = .ok (.iload 4, 2) := by decide +kernel
theorem dX5_cutAllMoved_21 : decode cX5_cutAllMoved 21 = .ok (.invokevirtual 44, 3) := by decide +kernel
theorem dX5_cutAllMoved_24 : decode cX5_cutAllMoved 24 = .ok (.astore 5, 2) := by decide +kernel
theorem dX5_cutAllMoved_26 : decode cX5_cutAllMoved 26 = .ok (.aload 5, 2) := by decide +kernel
theorem dX5_cutAllMoved_28 : decode cX5_cutAllMoved 28 = .ok (.ifnull 24, 3) := by decide +kernel
theorem dX5_cutAllMoved_31 : decode cX5_cutAllMoved 31 = .ok (.aload_n 0, 1) := by decide +kernel
theorem dX5_cutAllMoved_32 : decode cX5_cutAllMoved 32 = .ok (.aload 5, 2) := by decide +kernel
theorem dX5_cutAllMoved_34 : decode cX5_cutAllMoved 34 = .ok (.iload 4, 2) := by decide +kernel
theorem dX5_cutAllMoved_36 : decode cX5_cutAllMoved 36 = .ok (.iload_n 2, 1) := by decide +kernel
theorem dX5_cutAllMoved_37 : decode cX5_cutAllMoved 37 = .ok (.if_icmp .ne 7, 3) := by decide +kernel
theorem dX5_cutAllMoved_40 : decode cX5_cutAllMoved 40 = .ok (.iload_n 3, 1) := by decide +kernel
theorem dX5_cutAllMoved_41 : decode cX5_cutAllMoved 41 = .ok (.goto 8, 3) := by decide +kernel
theorem dX5_cutAllMoved_44 : decode cX5_cutAllMoved 44 = .ok (.aload 5, 2) := by decide +kernel
theorem dX5_cutAllMoved_46 : decode cX5_cutAllMoved 46 = .ok (.getfield 48, 3) := by decide +kernel
theorem dX5_cutAllMoved_49 : decode cX5_cutAllMoved 49 = .ok (.invokevirtual 54, 3) := by decide +kernel
theorem dX5_cutAllMoved_52 : decode cX5_cutAllMoved 52 = .ok (.iinc 4 1, 3) := by decide +kernel
theorem dX5_cutAllMoved_55 : decode cX5_cutAllMoved 55 = .ok (.goto (-47), 3) := by decide +kernel
theorem dX5_cutAllMoved_58 : decode cX5_cutAllMoved 58 = .ok (.bipush 30, 2) := by decide +kernel
theorem dX5_cutAllMoved_60 : decode cX5_cutAllMoved 60 = .ok (.istore 4, 2) := by decide +kernel
theorem dX5_cutAllMoved_62 : decode cX5_cutAllMoved 62 = .ok (.iload 4, 2) := by decide +kernel
theorem dX5_cutAllMoved_64 : decode cX5_cutAllMoved 64 = .ok (.ifCond .le 60, 3) := by decide +kernel
theorem dX5_cutAllMoved_67 : decode cX5_cutAllMoved 67 = .ok (.iload 4, 2) := by decide +kernel
theorem dX5_cutAllMoved_69 : decode cX5_cutAllMoved 69 = .ok (.aload_n 0, 1) := by decide +kernel
theorem dX5_cutAllMoved_70 : decode cX5_cutAllMoved 70 = .ok (.getfield 58, 3) := by decide +kernel
theorem dX5_cutAllMoved_73 : decode cX5_cutAllMoved 73 = .ok (.imul, 1) := by decide +kernel
theorem dX5_cutAllMoved_74 : decode cX5_cutAllMoved 74 = .ok (.aload_n 0, 1) := by decide +kernel
theorem dX5_cutAllMoved_75 : decode cX5_cutAllMoved 75 = .ok (.getfield 61, 3) := by decide +kernel
theorem dX5_cutAllMoved_78 : decode cX5_cutAllMoved 78 = .ok (.if_icmp .le 22, 3) := by decide +kernel
theorem dX5_cutAllMoved_81 : decode cX5_cutAllMoved 81 = .ok (.aload_n 0, 1) := by decide +kernel
theorem dX5_cutAllMoved_82 : decode cX5_cutAllMoved 82 = .ok (.dup, 1) := by decide +kernel
theorem dX5_cutAllMoved_83 : decode cX5_cutAllMoved 83 = .ok (.getfield 64, 3) := by decide +kernel
theorem dX5_cutAllMoved_86 : decode cX5_cutAllMoved 86 = .ok (.aload_n 0, 1) := by decide +kernel
theorem dX5_cutAllMoved_87 : decode cX5_cutAllMoved 87 = .ok (.getfield 15, 3) := by decide +kernel
theorem dX5_cutAllMoved_90 : decode cX5_cutAllMoved 90 = .ok (.iload 4, 2) := by decide +kernel
theorem dX5_cutAllMoved_92 : decode cX5_cutAllMoved 92 = .ok (.iaload, 1) := by decide +kernel
theorem dX5_cutAllMoved_93 : decode cX5_cutAllMoved 93 = .ok (.iadd, 1) := by decide +kernel
theorem dX5_cutAllMoved_94 : decode cX5_cutAllMoved 94 = .ok (.putfield 64, 3) := by decide +kernel
theorem dX5_cutAllMoved_97 : decode cX5_cutAllMoved 97 = .ok (.goto 21, 3) := by decide +kernel
theorem dX5_cutAllMoved_100 : decode cX5_cutAllMoved 100 = .ok (.aload_n 0, 1) := by decide +kernel
theorem dX5_cutAllMoved_101 : decode cX5_cutAllMoved 101 = .ok (.iload 4, 2) := by decide +kernel
theorem dX5_cutAllMoved_103 : decode cX5_cutAllMoved 103 = .ok (.aload_n 0, 1) := by decide +kernel
theorem dX5_cutAllMoved_104 : decode cX5_cutAllMoved 104 = .ok (.getfield 58, 3) := by decide +kernel
theorem dX5_cutAllMoved_107 : decode cX5_cutAllMoved 107 = .ok (.imul, 1) := by decide +kernel
theorem dX5_cutAllMoved_108 : decode cX5_cutAllMoved 108 = .ok (.aload_n 0, 1) := by decide +kernel
theorem dX5_cutAllMoved_109 : decode cX5_cutAllMoved 109 = .ok (.getfield 15, 3) := by decide +kernel
theorem dX5_cutAllMoved_112 : decode cX5_cutAllMoved 112 = .ok (.iload 4, 2) := by decide +kernel
theorem dX5_cutAllMoved_114 : decode cX5_cutAllMoved 114 = .ok (.iaload, 1) := by decide +kernel
theorem dX5_cutAllMoved_115 : decode cX5_cutAllMoved 115 = .ok (.invokevirtual 67, 3) := by decide +kernel
theorem dX5_cutAllMoved_118 : decode cX5_cutAllMoved 118 = .ok (.iinc 4 (-1), 3) := by decide +kernel
theorem dX5_cutAllMoved_121 : decode cX5_cutAllMoved 121 = .ok (.goto (-59), 3) := by decide +kernel
theorem dX5_cutAllMoved_124 : decode cX5_cutAllMoved 124 = .ok (.return_, 1) := by decide +kernel
theorem dX5_start_0 : decode cX5_start 0 = .ok (.aload_n 0, 1) := by decide +kernel
theorem dX5_start_1 : decode cX5_start 1 = .ok (.aload_n 1, 1) := by decide +kernel
theorem dX5_start_2 : decode cX5_start 2 = .ok (.getfield 71, 3) := by decide +kernel
theorem dX5_start_5 : decode cX5_start 5 = .ok (.putfield 58, 3) := by decide +kernel
theorem dX5_start_8 : decode cX5_start 8 = .ok (.aload_n 0, 1) := by decide +kernel
theorem dX5_start_9 : decode cX5_start 9 = .ok (.aload_n 1, 1) := by decide +kernel
theorem dX5_start_10 : decode cX5_start 10 = .ok (.getfield 72, 3) := by decide +kernel
theorem dX5_start_13 : decode cX5_start 13 = .ok (.putfield 61, 3) := by decide +kernel
theorem dX5_start_16 : decode cX5_start 16 = .ok (.aload_n 0, 1) := by decide +kernel
theorem dX5_start_17 : decode cX5_start 17 = .ok (.aload_n 1, 1) := by decide +kernel
theorem dX5_start_18 : decode cX5_start 18 = .ok (.getfield 73, 3) := by decide +kernel
theorem dX5_start_21 : decode cX5_start 21 = .ok (.putfield 76, 3) := by decide +kernel
theorem dX5_start_24 : decode cX5_start 24 = .ok (.aload_n 0, 1) := by decide +kernel
theorem dX5_start_25 : decode cX5_start 25 = .ok (.iconst 0, 1) := by decide +kernel
theorem dX5_start_26 : decode cX5_start 26 = .ok (.putfield 77, 3) := by decide +kernel
theorem dX5_start_29 : decode cX5_start 29 = .ok (.aload_n 0, 1) := by decide +kernel
theorem dX5_start_30 : decode cX5_start 30 = .ok (.iconst 0, 1) := by decide +kernel
theorem dX5_start_31 : decode cX5_start 31 = .ok (.putfield 80, 3) := by decide +kernel
theorem dX5_start_34 : decode cX5_start 34 = .ok (.aload_n 0, 1) := by decide +kernel
theorem dX5_start_35 : decode cX5_start 35 = .ok (.iconst 0, 1) := by decide +kernel
theorem dX5_start_36 : decode cX5_start 36 = .ok (.putfield 83, 3) := by decide +kernel
theorem dX5_start_39 : decode cX5_start 39 = .ok (.aload_n 0, 1) := by decide +kernel
theorem dX5_start_40 : decode cX5_start 40 = .ok (.iconst 0, 1) := by decide +kernel
theorem dX5_start_41 : decode cX5_start 41 = .ok (.putfield 64, 3) := by decide +kernel
theorem dX5_start_44 : decode cX5_start 44 = .ok (.aload_n 0, 1) := by decide +kernel
theorem dX5_start_45 : decode cX5_start 45 = .ok (.iconst 0, 1) := by decide +kernel
theorem dX5_start_46 : decode cX5_start 46 = .ok (.putfield 86, 3) := by decide +kernel
theorem dX5_start_49 : decode cX5_start 49 = .ok (.aload_n 0, 1) := by decide +kernel
theorem dX5_start_50 : decode cX5_start 50 = .ok (.getfield 15, 3) := by decide +kernel
theorem dX5_start_53 : decode cX5_start 53 = .ok (.iconst 0, 1) := by decide +kernel
theorem dX5_start_54 : decode cX5_start 54 = .ok (.invokestatic 89, 3) := by decide +kernel
theorem dX5_start_57 : decode cX5_start 57 = .ok (.return_, 1) := by decide +kernel
theorem dX5_gather_0 : decode cX5_gather 0 = .ok (.iconst 0, 1) := by decide +kernel
theorem dX5_gather_1 : decode cX5_gather 1 = .ok (.istore_n 3, 1) := by decide +kernel
theorem dX5_gather_2 : decode cX5_gather 2 = .ok (.iload_n 3, 1) := by decide +kernel
theorem dX5_gather_3 : decode cX5_gather 3 = .ok (.aload_n 1, 1) := by decide +kernel
theorem dX5_gather_4 : decode cX5_gather 4 = .ok (.getfield 95, 3) := by decide +kernel
theorem dX5_gather_7 : decode cX5_gather 7 = .ok (.if_icmp .ge 75, 3) := by decide +kernel
theorem dX5_gather_10 : decode cX5_gather 10 = .ok (.aload_n 0, 1) := by decide +kernel
theorem dX5_gather_11 : decode cX5_gather 11 = .ok (.getfield 77, 3) := by decide +kernel
theorem dX5_gather_14 : decode cX5_gather 14 = .ok (.sipush 160, 3) := by decide +kernel
theorem dX5_gather_17 : decode cX5_gather 17 = .ok (.if_icmp .ge 65, 3) := by decide +kernel
theorem dX5_gather_20 : decode cX5_gather 20 = .ok (.aload_n 1, 1) := by decide +kernel
theorem dX5_gather_21 : decode cX5_gather 21 = .ok (.iload_n 3, 1) := by decide +kernel
theorem dX5_gather_22 : decode cX5_gather 22 = .ok (.iload_n 2, 1) := by decide +kernel
theorem dX5_gather_23 : decode cX5_gather 23 = .ok (.iadd, 1) := by decide +kernel
theorem dX5_gather_24 : decode cX5_gather 24 = .ok (.invokevirtual 96, 3) := by decide +kernel
theorem dX5_gather_27 : decode cX5_gather 27 = .ok (.istore 4, 2) := by decide +kernel
theorem dX5_gather_29 : decode cX5_gather 29 = .ok (.iload 4, 2) := by decide +kernel
theorem dX5_gather_31 : decode cX5_gather 31 = .ok (.ifCond .lt 24, 3) := by decide +kernel
theorem dX5_gather_34 : decode cX5_gather 34 = .ok (.iload 4, 2) := by decide +kernel
theorem dX5_gather_36 : decode cX5_gather 36 = .ok (.aload_n 0, 1) := by decide +kernel
theorem dX5_gather_37 : decode cX5_gather 37 = .ok (.getfield 15, 3) := by decide +kernel
theorem dX5_gather_40 : decode cX5_gather 40 = .ok (.arraylength, 1) := by decide +kernel
theorem dX5_gather_41 : decode cX5_gather 41 = .ok (.if_icmp .ge 14, 3) := by decide +kernel
theorem dX5_gather_44 : decode cX5_gather 44 = .ok (.aload_n 0, 1) := by decide +kernel
theorem dX5_gather_45 : decode cX5_gather 45 = .ok (.getfield 15, 3) := by decide +kernel
theorem dX5_gather_48 : decode cX5_gather 48 = .ok (.iload 4, 2) := by decide +kernel
theorem dX5_gather_50 : decode cX5_gather 50 = .ok (.dup2, 1) := by decide +kernel
theorem dX5_gather_51 : decode cX5_gather 51 = .ok (.iaload, 1) := by decide +kernel
theorem dX5_gather_52 : decode cX5_gather 52 = .ok (.iconst 1, 1) := by decide +kernel
theorem dX5_gather_53 : decode cX5_gather 53 = .ok (.iadd, 1) := by decide +kernel
theorem dX5_gather_54 : decode cX5_gather 54 = .ok (.iastore, 1) := by decide +kernel
theorem dX5_gather_55 : decode cX5_gather 55 = .ok (.aload_n 0, 1) := by decide +kernel
theorem dX5_gather_56 : decode cX5_gather 56 = .ok (.getfield 9, 3) := by decide +kernel
theorem dX5_gather_59 : decode cX5_gather 59 = .ok (.aload_n 0, 1) := by decide +kernel
theorem dX5_gather_60 : decode cX5_gather 60 = .ok (.getfield 77, 3) := by decide +kernel
theorem dX5_gather_63 : decode cX5_gather 63 = .ok (.iload 4, 2) := by decide +kernel
theorem dX5_gather_65 : decode cX5_gather 65 = .ok (.iastore, 1) := by decide +kernel
theorem dX5_gather_66 : decode cX5_gather 66 = .ok (.aload_n 0, 1) := by decide +kernel
theorem dX5_gather_67 : decode cX5_gather 67 = .ok (.dup, 1) := by decide +kernel
theorem dX5_gather_68 : decode cX5_gather 68 = .ok (.getfield 77, 3) := by decide +kernel
theorem dX5_gather_71 : decode cX5_gather 71 = .ok (.iconst 1, 1) := by decide +kernel
theorem dX5_gather_72 : decode cX5_gather 72 = .ok (.iadd, 1) := by decide +kernel
theorem dX5_gather_73 : decode cX5_gather 73 = .ok (.putfield 77, 3) := by decide +kernel
theorem dX5_gather_76 : decode cX5_gather 76 = .ok (.iinc 3 1, 3) := by decide +kernel
theorem dX5_gather_79 : decode cX5_gather 79 = .ok (.goto (-77), 3) := by decide +kernel
theorem dX5_gather_82 : decode cX5_gather 82 = .ok (.return_, 1) := by decide +kernel
theorem dX5_cutAlike_0 : decode cX5_cutAlike 0 = .ok (.iconst 0, 1) := by decide +kernel
theorem dX5_cutAlike_1 : decode cX5_cutAlike 1 = .ok (.istore_n 3, 1) := by decide +kernel
theorem dX5_cutAlike_2 : decode cX5_cutAlike 2 = .ok (.iconst 0, 1) := by decide +kernel
theorem dX5_cutAlike_3 : decode cX5_cutAlike 3 = .ok (.istore 4, 2) := by decide +kernel
theorem dX5_cutAlike_5 : decode cX5_cutAlike 5 = .ok (.iload 4, 2) := by decide +kernel
theorem dX5_cutAlike_7 : decode cX5_cutAlike 7 = .ok (.iload_n 2, 1) := by decide +kernel
theorem dX5_cutAlike_8 : decode cX5_cutAlike 8 = .ok (.if_icmp .ge 38, 3) := by decide +kernel
theorem dX5_cutAlike_11 : decode cX5_cutAlike 11 = .ok (.iload_n 3, 1) := by decide +kernel
theorem dX5_cutAlike_12 : decode cX5_cutAlike 12 = .ok (.aload_n 0, 1) := by decide +kernel
theorem dX5_cutAlike_13 : decode cX5_cutAlike 13 = .ok (.getfield 80, 3) := by decide +kernel
theorem dX5_cutAlike_16 : decode cX5_cutAlike 16 = .ok (.if_icmp .ge 18, 3) := by decide +kernel
theorem dX5_cutAlike_19 : decode cX5_cutAlike 19 = .ok (.aload_n 0, 1) := by decide +kernel
theorem dX5_cutAlike_20 : decode cX5_cutAlike 20 = .ok (.iload_n 3, 1) := by decide +kernel
theorem dX5_cutAlike_21 : decode cX5_cutAlike 21 = .ok (.iload_n 1, 1) := by decide +kernel
theorem dX5_cutAlike_22 : decode cX5_cutAlike 22 = .ok (.invokevirtual 100, 3) := by decide +kernel
theorem dX5_cutAlike_25 : decode cX5_cutAlike 25 = .ok (.ifCond .ne 9, 3) := by decide +kernel
theorem dX5_cutAlike_28 : decode cX5_cutAlike 28 = .ok (.iinc 3 1, 3) := by decide +kernel
theorem dX5_cutAlike_31 : decode cX5_cutAlike 31 = .ok (.goto (-20), 3) := by decide +kernel
theorem dX5_cutAlike_34 : decode cX5_cutAlike 34 = .ok (.aload_n 0, 1) := by decide +kernel
theorem dX5_cutAlike_35 : decode cX5_cutAlike 35 = .ok (.iload_n 3, 1) := by decide +kernel
theorem dX5_cutAlike_36 : decode cX5_cutAlike 36 = .ok (.iload_n 1, 1) := by decide +kernel
theorem dX5_cutAlike_37 : decode cX5_cutAlike 37 = .ok (.invokevirtual 104, 3) := by decide +kernel
theorem dX5_cutAlike_40 : decode cX5_cutAlike 40 = .ok (.iinc 4 1, 3) := by decide +kernel
theorem dX5_cutAlike_43 : decode cX5_cutAlike 43 = .ok (.goto (-38), 3) := by decide +kernel
theorem dX5_cutAlike_46 : decode cX5_cutAlike 46 = .ok (.return_, 1) := by decide +kernel
theorem dX5_hasRoom_0 : decode cX5_hasRoom 0 = .ok (.iload_n 1, 1) := by decide +kernel
theorem dX5_hasRoom_1 : decode cX5_hasRoom 1 = .ok (.sipush 160, 3) := by decide +kernel
theorem dX5_hasRoom_4 : decode cX5_hasRoom 4 = .ok (.if_icmp .ge 34, 3) := by decide +kernel
theorem dX5_hasRoom_7 : decode cX5_hasRoom 7 = .ok (.aload_n 0, 1) := by decide +kernel
theorem dX5_hasRoom_8 : decode cX5_hasRoom 8 = .ok (.getfield 21, 3) := by decide +kernel
theorem dX5_hasRoom_11 : decode cX5_hasRoom 11 = .ok (.iload_n 1, 1) := by decide +kernel
theorem dX5_hasRoom_12 : decode cX5_hasRoom 12 = .ok (.iaload, 1) := by decide +kernel
theorem dX5_hasRoom_13 : decode cX5_hasRoom 13 = .ok (.iload_n 2, 1) := by decide +kernel
theorem dX5_hasRoom_14 : decode cX5_hasRoom 14 = .ok (.iadd, 1) := by decide +kernel
theorem dX5_hasRoom_15 : decode cX5_hasRoom 15 = .ok (.aload_n 0, 1) := by decide +kernel
theorem dX5_hasRoom_16 : decode cX5_hasRoom 16 = .ok (.getfield 24, 3) := by decide +kernel
theorem dX5_hasRoom_19 : decode cX5_hasRoom 19 = .ok (.iload_n 1, 1) := by decide +kernel
theorem dX5_hasRoom_20 : decode cX5_hasRoom 20 = .ok (.iaload, 1) := by decide +kernel
theorem dX5_hasRoom_21 : decode cX5_hasRoom 21 = .ok (.aload_n 0, 1) := by decide +kernel
theorem dX5_hasRoom_22 : decode cX5_hasRoom 22 = .ok (.getfield 76, 3) := by decide +kernel
theorem dX5_hasRoom_25 : decode cX5_hasRoom 25 = .ok (.imul, 1) := by decide +kernel
theorem dX5_hasRoom_26 : decode cX5_hasRoom 26 = .ok (.iadd, 1) := by decide +kernel
theorem dX5_hasRoom_27 : decode cX5_hasRoom 27 = .ok (.aload_n 0, 1) := by decide +kernel
theorem dX5_hasRoom_28 : decode cX5_hasRoom 28 = .ok (.getfield 61, 3) := by decide +kernel
theorem dX5_hasRoom_31 : decode cX5_hasRoom 31 = .ok (.if_icmp .gt 7, 3) := by decide +kernel
theorem dX5_hasRoom_34 : decode cX5_hasRoom 34 = .ok (.iconst 1, 1) := by decide +kernel
theorem dX5_hasRoom_35 : decode cX5_hasRoom 35 = .ok (.goto 4, 3) := by decide +kernel
theorem dX5_hasRoom_38 : decode cX5_hasRoom 38 = .ok (.iconst 0, 1) := by decide +kernel
theorem dX5_hasRoom_39 : decode cX5_hasRoom 39 = .ok (.ireturn, 1) := by decide +kernel
theorem dX5_cutFrom_0 : decode cX5_cutFrom 0 = .ok (.iload_n 1, 1) := by decide +kernel
theorem dX5_cutFrom_1 : decode cX5_cutFrom 1 = .ok (.ifCond .lt 20, 3) := by decide +kernel
theorem dX5_cutFrom_4 : decode cX5_cutFrom 4 = .ok (.iload_n 1, 1) := by decide +kernel
theorem dX5_cutFrom_5 : decode cX5_cutFrom 5 = .ok (.sipush 160, 3) := by decide +kernel
theorem dX5_cutFrom_8 : decode cX5_cutFrom 8 = .ok (.if_icmp .ge 13, 3) := by decide +kernel
theorem dX5_cutFrom_11 : decode cX5_cutFrom 11 = .ok (.aload_n 0, 1) := by decide +kernel
theorem dX5_cutFrom_12 : decode cX5_cutFrom 12 = .ok (.getfield 83, 3) := by decide +kernel
theorem dX5_cutFrom_15 : decode cX5_cutFrom 15 = .ok (.sipush 160, 3) := by decide +kernel
theorem dX5_cutFrom_18 : decode cX5_cutFrom 18 = .ok (.if_icmp .lt 4, 3) := by decide +kernel
theorem dX5_cutFrom_21 : decode cX5_cutFrom 21 = .ok (.return_, 1) := by decide +kernel
theorem dX5_cutFrom_22 : decode cX5_cutFrom 22 = .ok (.iload_n 1, 1) := by decide +kernel
theorem dX5_cutFrom_23 : decode cX5_cutFrom 23 = .ok (.aload_n 0, 1) := by decide +kernel
theorem dX5_cutFrom_24 : decode cX5_cutFrom 24 = .ok (.getfield 80, 3) := by decide +kernel
theorem dX5_cutFrom_27 : decode cX5_cutFrom 27 = .ok (.if_icmp .ne 34, 3) := by decide +kernel
theorem dX5_cutFrom_30 : decode cX5_cutFrom 30 = .ok (.aload_n 0, 1) := by decide +kernel
theorem dX5_cutFrom_31 : decode cX5_cutFrom 31 = .ok (.dup, 1) := by decide +kernel
theorem dX5_cutFrom_32 : decode cX5_cutFrom 32 = .ok (.getfield 80, 3) := by decide +kernel
theorem dX5_cutFrom_35 : decode cX5_cutFrom 35 = .ok (.iconst 1, 1) := by decide +kernel
theorem dX5_cutFrom_36 : decode cX5_cutFrom 36 = .ok (.iadd, 1) := by decide +kernel
theorem dX5_cutFrom_37 : decode cX5_cutFrom 37 = .ok (.putfield 80, 3) := by decide +kernel
theorem dX5_cutFrom_40 : decode cX5_cutFrom 40 = .ok (.aload_n 0, 1) := by decide +kernel
theorem dX5_cutFrom_41 : decode cX5_cutFrom 41 = .ok (.getfield 21, 3) := by decide +kernel
theorem dX5_cutFrom_44 : decode cX5_cutFrom 44 = .ok (.iload_n 1, 1) := by decide +kernel
theorem dX5_cutFrom_45 : decode cX5_cutFrom 45 = .ok (.iconst 0, 1) := by decide +kernel
theorem dX5_cutFrom_46 : decode cX5_cutFrom 46 = .ok (.iastore, 1) := by decide +kernel
theorem dX5_cutFrom_47 : decode cX5_cutFrom 47 = .ok (.aload_n 0, 1) := by decide +kernel
theorem dX5_cutFrom_48 : decode cX5_cutFrom 48 = .ok (.getfield 24, 3) := by decide +kernel
theorem dX5_cutFrom_51 : decode cX5_cutFrom 51 = .ok (.iload_n 1, 1) := by decide +kernel
theorem dX5_cutFrom_52 : decode cX5_cutFrom 52 = .ok (.iconst 0, 1) := by decide +kernel
theorem dX5_cutFrom_53 : decode cX5_cutFrom 53 = .ok (.iastore, 1) := by decide +kernel
theorem dX5_cutFrom_54 : decode cX5_cutFrom 54 = .ok (.aload_n 0, 1) := by decide +kernel
theorem dX5_cutFrom_55 : decode cX5_cutFrom 55 = .ok (.getfield 27, 3) := by decide +kernel
theorem dX5_cutFrom_58 : decode cX5_cutFrom 58 = .ok (.iload_n 1, 1) := by decide +kernel
theorem dX5_cutFrom_59 : decode cX5_cutFrom 59 = .ok (.iload_n 2, 1) := by decide +kernel
theorem dX5_cutFrom_60 : decode cX5_cutFrom 60 = .ok (.iastore, 1) := by decide +kernel
theorem dX5_cutFrom_61 : decode cX5_cutFrom 61 = .ok (.aload_n 0, 1) := by decide +kernel
theorem dX5_cutFrom_62 : decode cX5_cutFrom 62 = .ok (.getfield 21, 3) := by decide +kernel
theorem dX5_cutFrom_65 : decode cX5_cutFrom 65 = .ok (.iload_n 1, 1) := by decide +kernel
theorem dX5_cutFrom_66 : decode cX5_cutFrom 66 = .ok (.dup2, 1) := by decide +kernel
theorem dX5_cutFrom_67 : decode cX5_cutFrom 67 = .ok (.iaload, 1) := by decide +kernel
theorem dX5_cutFrom_68 : decode cX5_cutFrom 68 = .ok (.iload_n 2, 1) := by decide +kernel
theorem dX5_cutFrom_69 : decode cX5_cutFrom 69 = .ok (.iadd, 1) := by decide +kernel
theorem dX5_cutFrom_70 : decode cX5_cutFrom 70 = .ok (.iastore, 1) := by decide +kernel
theorem dX5_cutFrom_71 : decode cX5_cutFrom 71 = .ok (.aload_n 0, 1) := by decide +kernel
theorem dX5_cutFrom_72 : decode cX5_cutFrom 72 = .ok (.getfield 24, 3) := by decide +kernel
theorem dX5_cutFrom_75 : decode cX5_cutFrom 75 = .ok (.iload_n 1, 1) := by decide +kernel
theorem dX5_cutFrom_76 : decode cX5_cutFrom 76 = .ok (.dup2, 1) := by decide +kernel
theorem dX5_cutFrom_77 : decode cX5_cutFrom 77 = .ok (.iaload, 1) := by decide +kernel
theorem dX5_cutFrom_78 : decode cX5_cutFrom 78 = .ok (.iconst 1, 1) := by decide +kernel
theorem dX5_cutFrom_79 : decode cX5_cutFrom 79 = .ok (.iadd, 1) := by decide +kernel
theorem dX5_cutFrom_80 : decode cX5_cutFrom 80 = .ok (.iastore, 1) := by decide +kernel
theorem dX5_cutFrom_81 : decode cX5_cutFrom 81 = .ok (.aload_n 0, 1) := by decide +kernel
theorem dX5_cutFrom_82 : decode cX5_cutFrom 82 = .ok (.getfield 18, 3) := by decide +kernel
theorem dX5_cutFrom_85 : decode cX5_cutFrom 85 = .ok (.aload_n 0, 1) := by decide +kernel
theorem dX5_cutFrom_86 : decode cX5_cutFrom 86 = .ok (.getfield 83, 3) := by decide +kernel
theorem dX5_cutFrom_89 : decode cX5_cutFrom 89 = .ok (.iload_n 1, 1) := by decide +kernel
theorem dX5_cutFrom_90 : decode cX5_cutFrom 90 = .ok (.iastore, 1) := by decide +kernel
theorem dX5_cutFrom_91 : decode cX5_cutFrom 91 = .ok (.aload_n 0, 1) := by decide +kernel
theorem dX5_cutFrom_92 : decode cX5_cutFrom 92 = .ok (.dup, 1) := by decide +kernel
theorem dX5_cutFrom_93 : decode cX5_cutFrom 93 = .ok (.getfield 83, 3) := by decide +kernel
theorem dX5_cutFrom_96 : decode cX5_cutFrom 96 = .ok (.iconst 1, 1) := by decide +kernel
theorem dX5_cutFrom_97 : decode cX5_cutFrom 97 = .ok (.iadd, 1) := by decide +kernel
theorem dX5_cutFrom_98 : decode cX5_cutFrom 98 = .ok (.putfield 83, 3) := by decide +kernel
theorem dX5_cutFrom_101 : decode cX5_cutFrom 101 = .ok (.aload_n 0, 1) := by decide +kernel
theorem dX5_cutFrom_102 : decode cX5_cutFrom 102 = .ok (.dup, 1) := by decide +kernel
theorem dX5_cutFrom_103 : decode cX5_cutFrom 103 = .ok (.getfield 86, 3) := by decide +kernel
theorem dX5_cutFrom_106 : decode cX5_cutFrom 106 = .ok (.iload_n 2, 1) := by decide +kernel
theorem dX5_cutFrom_107 : decode cX5_cutFrom 107 = .ok (.iadd, 1) := by decide +kernel
theorem dX5_cutFrom_108 : decode cX5_cutFrom 108 = .ok (.putfield 86, 3) := by decide +kernel
theorem dX5_cutFrom_111 : decode cX5_cutFrom 111 = .ok (.return_, 1) := by decide +kernel
theorem dX5_leftOf_0 : decode cX5_leftOf 0 = .ok (.iload_n 1, 1) := by decide +kernel
theorem dX5_leftOf_1 : decode cX5_leftOf 1 = .ok (.ifCond .lt 18, 3) := by decide +kernel
theorem dX5_leftOf_4 : decode cX5_leftOf 4 = .ok (.iload_n 1, 1) := by decide +kernel
theorem dX5_leftOf_5 : decode cX5_leftOf 5 = .ok (.aload_n 0, 1) := by decide +kernel
theorem dX5_leftOf_6 : decode cX5_leftOf 6 = .ok (.getfield 80, 3) := by decide +kernel
theorem dX5_leftOf_9 : decode cX5_leftOf 9 = .ok (.if_icmp .ge 10, 3) := by decide +kernel
theorem dX5_leftOf_12 : decode cX5_leftOf 12 = .ok (.iload_n 1, 1) := by decide +kernel
theorem dX5_leftOf_13 : decode cX5_leftOf 13 = .ok (.sipush 160, 3) := by decide +kernel
theorem dX5_leftOf_16 : decode cX5_leftOf 16 = .ok (.if_icmp .lt 7, 3) := by decide +kernel
theorem dX5_leftOf_19 : decode cX5_leftOf 19 = .ok (.iconst 0, 1) := by decide +kernel
theorem dX5_leftOf_20 : decode cX5_leftOf 20 = .ok (.goto 14, 3) := by decide +kernel
theorem dX5_leftOf_23 : decode cX5_leftOf 23 = .ok (.aload_n 0, 1) := by decide +kernel
theorem dX5_leftOf_24 : decode cX5_leftOf 24 = .ok (.getfield 61, 3) := by decide +kernel
theorem dX5_leftOf_27 : decode cX5_leftOf 27 = .ok (.aload_n 0, 1) := by decide +kernel
theorem dX5_leftOf_28 : decode cX5_leftOf 28 = .ok (.getfield 21, 3) := by decide +kernel
theorem dX5_leftOf_31 : decode cX5_leftOf 31 = .ok (.iload_n 1, 1) := by decide +kernel
theorem dX5_leftOf_32 : decode cX5_leftOf 32 = .ok (.iaload, 1) := by decide +kernel
theorem dX5_leftOf_33 : decode cX5_leftOf 33 = .ok (.isub, 1) := by decide +kernel
theorem dX5_leftOf_34 : decode cX5_leftOf 34 = .ok (.ireturn, 1) := by decide +kernel
theorem dX5_leftOfLast_0 : decode cX5_leftOfLast 0 = .ok (.aload_n 0, 1) := by decide +kernel
theorem dX5_leftOfLast_1 : decode cX5_leftOfLast 1 = .ok (.aload_n 0, 1) := by decide +kernel
theorem dX5_leftOfLast_2 : decode cX5_leftOfLast 2 = .ok (.getfield 80, 3) := by decide +kernel
theorem dX5_leftOfLast_5 : decode cX5_leftOfLast 5 = .ok (.iconst 1, 1) := by decide +kernel
theorem dX5_leftOfLast_6 : decode cX5_leftOfLast 6 = .ok (.isub, 1) := by decide +kernel
theorem dX5_leftOfLast_7 : decode cX5_leftOfLast 7 = .ok (.invokevirtual 107, 3) := by decide +kernel
theorem dX5_leftOfLast_10 : decode cX5_leftOfLast 10 = .ok (.ireturn, 1) := by decide +kernel
theorem dX5_isBetterThan_0 : decode cX5_isBetterThan 0 = .ok (.aload_n 0, 1) := by decide +kernel
theorem dX5_isBetterThan_1 : decode cX5_isBetterThan 1 = .ok (.getfield 64, 3) := by decide +kernel
theorem dX5_isBetterThan_4 : decode cX5_isBetterThan 4 = .ok (.iload_n 1, 1) := by decide +kernel
theorem dX5_isBetterThan_5 : decode cX5_isBetterThan 5 = .ok (.if_icmp .eq 17, 3) := by decide +kernel
theorem dX5_isBetterThan_8 : decode cX5_isBetterThan 8 = .ok (.aload_n 0, 1) := by decide +kernel
theorem dX5_isBetterThan_9 : decode cX5_isBetterThan 9 = .ok (.getfield 64, 3) := by decide +kernel
theorem dX5_isBetterThan_12 : decode cX5_isBetterThan 12 = .ok (.iload_n 1, 1) := by decide +kernel
theorem dX5_isBetterThan_13 : decode cX5_isBetterThan 13 = .ok (.if_icmp .ge 7, 3) := by decide +kernel
theorem dX5_isBetterThan_16 : decode cX5_isBetterThan 16 = .ok (.iconst 1, 1) := by decide +kernel
theorem dX5_isBetterThan_17 : decode cX5_isBetterThan 17 = .ok (.goto 4, 3) := by decide +kernel
theorem dX5_isBetterThan_20 : decode cX5_isBetterThan 20 = .ok (.iconst 0, 1) := by decide +kernel
theorem dX5_isBetterThan_21 : decode cX5_isBetterThan 21 = .ok (.ireturn, 1) := by decide +kernel
theorem dX5_isBetterThan_22 : decode cX5_isBetterThan 22 = .ok (.aload_n 0, 1) := by decide +kernel
theorem dX5_isBetterThan_23 : decode cX5_isBetterThan 23 = .ok (.getfield 80, 3) := by decide +kernel
theorem dX5_isBetterThan_26 : decode cX5_isBetterThan 26 = .ok (.iload_n 2, 1) := by decide +kernel
theorem dX5_isBetterThan_27 : decode cX5_isBetterThan 27 = .ok (.if_icmp .eq 17, 3) := by decide +kernel
theorem dX5_isBetterThan_30 : decode cX5_isBetterThan 30 = .ok (.aload_n 0, 1) := by decide +kernel
theorem dX5_isBetterThan_31 : decode cX5_isBetterThan 31 = .ok (.getfield 80, 3) := by decide +kernel
theorem dX5_isBetterThan_34 : decode cX5_isBetterThan 34 = .ok (.iload_n 2, 1) := by decide +kernel
theorem dX5_isBetterThan_35 : decode cX5_isBetterThan 35 = .ok (.if_icmp .ge 7, 3) := by decide +kernel
theorem dX5_isBetterThan_38 : decode cX5_isBetterThan 38 = .ok (.iconst 1, 1) := by decide +kernel
theorem dX5_isBetterThan_39 : decode cX5_isBetterThan 39 = .ok (.goto 4, 3) := by decide +kernel
theorem dX5_isBetterThan_42 : decode cX5_isBetterThan 42 = .ok (.iconst 0, 1) := by decide +kernel
theorem dX5_isBetterThan_43 : decode cX5_isBetterThan 43 = .ok (.ireturn, 1) := by decide +kernel
theorem dX5_isBetterThan_44 : decode cX5_isBetterThan 44 = .ok (.aload_n 0, 1) := by decide +kernel
theorem dX5_isBetterThan_45 : decode cX5_isBetterThan 45 = .ok (.invokevirtual 110, 3) := by decide +kernel
theorem dX5_isBetterThan_48 : decode cX5_isBetterThan 48 = .ok (.iload_n 3, 1) := by decide +kernel
theorem dX5_isBetterThan_49 : decode cX5_isBetterThan 49 = .ok (.if_icmp .le 7, 3) := by decide +kernel
theorem dX5_isBetterThan_52 : decode cX5_isBetterThan 52 = .ok (.iconst 1, 1) := by decide +kernel
theorem dX5_isBetterThan_53 : decode cX5_isBetterThan 53 = .ok (.goto 4, 3) := by decide +kernel
theorem dX5_isBetterThan_56 : decode cX5_isBetterThan 56 = .ok (.iconst 0, 1) := by decide +kernel
theorem dX5_isBetterThan_57 : decode cX5_isBetterThan 57 = .ok (.ireturn, 1) := by decide +kernel
theorem dX5_boardOfWell_0 : decode cX5_boardOfWell 0 = .ok (.iload_n 1, 1) := by decide +kernel
theorem dX5_boardOfWell_1 : decode cX5_boardOfWell 1 = .ok (.ifCond .lt 18, 3) := by decide +kernel
theorem dX5_boardOfWell_4 : decode cX5_boardOfWell 4 = .ok (.iload_n 1, 1) := by decide +kernel
theorem dX5_boardOfWell_5 : decode cX5_boardOfWell 5 = .ok (.aload_n 0, 1) := by decide +kernel
theorem dX5_boardOfWell_6 : decode cX5_boardOfWell 6 = .ok (.getfield 77, 3) := by decide +kernel
theorem dX5_boardOfWell_9 : decode cX5_boardOfWell 9 = .ok (.if_icmp .ge 10, 3) := by decide +kernel
theorem dX5_boardOfWell_12 : decode cX5_boardOfWell 12 = .ok (.iload_n 1, 1) := by decide +kernel
theorem dX5_boardOfWell_13 : decode cX5_boardOfWell 13 = .ok (.sipush 160, 3) := by decide +kernel
theorem dX5_boardOfWell_16 : decode cX5_boardOfWell 16 = .ok (.if_icmp .lt 6, 3) := by decide +kernel
theorem dX5_boardOfWell_19 : decode cX5_boardOfWell 19 = .ok (.bipush (-4), 2) := by decide +kernel
theorem dX5_boardOfWell_21 : decode cX5_boardOfWell 21 = .ok (.ireturn, 1) := by decide +kernel
theorem dX5_boardOfWell_22 : decode cX5_boardOfWell 22 = .ok (.aload_n 0, 1) := by decide +kernel
theorem dX5_boardOfWell_23 : decode cX5_boardOfWell 23 = .ok (.getfield 9, 3) := by decide +kernel
theorem dX5_boardOfWell_26 : decode cX5_boardOfWell 26 = .ok (.iload_n 1, 1) := by decide +kernel
theorem dX5_boardOfWell_27 : decode cX5_boardOfWell 27 = .ok (.iaload, 1) := by decide +kernel
theorem dX5_boardOfWell_28 : decode cX5_boardOfWell 28 = .ok (.istore_n 2, 1) := by decide +kernel
theorem dX5_boardOfWell_29 : decode cX5_boardOfWell 29 = .ok (.iload_n 2, 1) := by decide +kernel
theorem dX5_boardOfWell_30 : decode cX5_boardOfWell 30 = .ok (.iconst 1, 1) := by decide +kernel
theorem dX5_boardOfWell_31 : decode cX5_boardOfWell 31 = .ok (.if_icmp .lt 16, 3) := by decide +kernel
theorem dX5_boardOfWell_34 : decode cX5_boardOfWell 34 = .ok (.iload_n 2, 1) := by decide +kernel
theorem dX5_boardOfWell_35 : decode cX5_boardOfWell 35 = .ok (.aload_n 0, 1) := by decide +kernel
theorem dX5_boardOfWell_36 : decode cX5_boardOfWell 36 = .ok (.getfield 58, 3) := by decide +kernel
theorem dX5_boardOfWell_39 : decode cX5_boardOfWell 39 = .ok (.imul, 1) := by decide +kernel
theorem dX5_boardOfWell_40 : decode cX5_boardOfWell 40 = .ok (.aload_n 0, 1) := by decide +kernel
theorem dX5_boardOfWell_41 : decode cX5_boardOfWell 41 = .ok (.getfield 61, 3) := by decide +kernel
theorem dX5_boardOfWell_44 : decode cX5_boardOfWell 44 = .ok (.if_icmp .le 6, 3) := by decide +kernel
theorem dX5_boardOfWell_47 : decode cX5_boardOfWell 47 = .ok (.bipush (-4), 2) := by decide +kernel
theorem dX5_boardOfWell_49 : decode cX5_boardOfWell 49 = .ok (.ireturn, 1) := by decide +kernel
theorem dX5_boardOfWell_50 : decode cX5_boardOfWell 50 = .ok (.iconst 0, 1) := by decide +kernel
theorem dX5_boardOfWell_51 : decode cX5_boardOfWell 51 = .ok (.istore_n 3, 1) := by decide +kernel
theorem dX5_boardOfWell_52 : decode cX5_boardOfWell 52 = .ok (.iconst 0, 1) := by decide +kernel
theorem dX5_boardOfWell_53 : decode cX5_boardOfWell 53 = .ok (.istore 4, 2) := by decide +kernel
theorem dX5_boardOfWell_55 : decode cX5_boardOfWell 55 = .ok (.iload 4, 2) := by decide +kernel
theorem dX5_boardOfWell_57 : decode cX5_boardOfWell 57 = .ok (.aload_n 0, 1) := by decide +kernel
theorem dX5_boardOfWell_58 : decode cX5_boardOfWell 58 = .ok (.getfield 77, 3) := by decide +kernel
theorem dX5_boardOfWell_61 : decode cX5_boardOfWell 61 = .ok (.if_icmp .ge 79, 3) := by decide +kernel
theorem dX5_boardOfWell_64 : decode cX5_boardOfWell 64 = .ok (.iload 4, 2) := by decide +kernel
theorem dX5_boardOfWell_66 : decode cX5_boardOfWell 66 = .ok (.sipush 160, 3) := by decide +kernel
theorem dX5_boardOfWell_69 : decode cX5_boardOfWell 69 = .ok (.if_icmp .ge 71, 3) := by decide +kernel
theorem dX5_boardOfWell_72 : decode cX5_boardOfWell 72 = .ok (.aload_n 0, 1) := by decide +kernel
theorem dX5_boardOfWell_73 : decode cX5_boardOfWell 73 = .ok (.getfield 9, 3) := by decide +kernel
theorem dX5_boardOfWell_76 : decode cX5_boardOfWell 76 = .ok (.iload 4, 2) := by decide +kernel
theorem dX5_boardOfWell_78 : decode cX5_boardOfWell 78 = .ok (.iaload, 1) := by decide +kernel
theorem dX5_boardOfWell_79 : decode cX5_boardOfWell 79 = .ok (.iload_n 2, 1) := by decide +kernel
theorem dX5_boardOfWell_80 : decode cX5_boardOfWell 80 = .ok (.if_icmp .le 26, 3) := by decide +kernel
theorem dX5_boardOfWell_83 : decode cX5_boardOfWell 83 = .ok (.aload_n 0, 1) := by decide +kernel
theorem dX5_boardOfWell_84 : decode cX5_boardOfWell 84 = .ok (.getfield 9, 3) := by decide +kernel
theorem dX5_boardOfWell_87 : decode cX5_boardOfWell 87 = .ok (.iload 4, 2) := by decide +kernel
theorem dX5_boardOfWell_89 : decode cX5_boardOfWell 89 = .ok (.iaload, 1) := by decide +kernel
theorem dX5_boardOfWell_90 : decode cX5_boardOfWell 90 = .ok (.aload_n 0, 1) := by decide +kernel
theorem dX5_boardOfWell_91 : decode cX5_boardOfWell 91 = .ok (.getfield 58, 3) := by decide +kernel
theorem dX5_boardOfWell_94 : decode cX5_boardOfWell 94 = .ok (.imul, 1) := by decide +kernel
theorem dX5_boardOfWell_95 : decode cX5_boardOfWell 95 = .ok (.aload_n 0, 1) := by decide +kernel
theorem dX5_boardOfWell_96 : decode cX5_boardOfWell 96 = .ok (.getfield 61, 3) := by decide +kernel
theorem dX5_boardOfWell_99 : decode cX5_boardOfWell 99 = .ok (.if_icmp .gt 7, 3) := by decide +kernel
theorem dX5_boardOfWell_102 : decode cX5_boardOfWell 102 = .ok (.iconst 1, 1) := by decide +kernel
theorem dX5_boardOfWell_103 : decode cX5_boardOfWell 103 = .ok (.goto 4, 3) := by decide +kernel
theorem dX5_boardOfWell_106 : decode cX5_boardOfWell 106 = .ok (.iconst 0, 1) := by decide +kernel
theorem dX5_boardOfWell_107 : decode cX5_boardOfWell 107 = .ok (.istore 5, 2) := by decide +kernel
theorem dX5_boardOfWell_109 : decode cX5_boardOfWell 109 = .ok (.iload 5, 2) := by decide +kernel
theorem dX5_boardOfWell_111 : decode cX5_boardOfWell 111 = .ok (.ifCond .ne 20, 3) := by decide +kernel
theorem dX5_boardOfWell_114 : decode cX5_boardOfWell 114 = .ok (.aload_n 0, 1) := by decide +kernel
theorem dX5_boardOfWell_115 : decode cX5_boardOfWell 115 = .ok (.getfield 9, 3) := by decide +kernel
theorem dX5_boardOfWell_118 : decode cX5_boardOfWell 118 = .ok (.iload 4, 2) := by decide +kernel
theorem dX5_boardOfWell_120 : decode cX5_boardOfWell 120 = .ok (.iaload, 1) := by decide +kernel
theorem dX5_boardOfWell_121 : decode cX5_boardOfWell 121 = .ok (.iload_n 2, 1) := by decide +kernel
theorem dX5_boardOfWell_122 : decode cX5_boardOfWell 122 = .ok (.if_icmp .ne 12, 3) := by decide +kernel
theorem dX5_boardOfWell_125 : decode cX5_boardOfWell 125 = .ok (.iload 4, 2) := by decide +kernel
theorem dX5_boardOfWell_127 : decode cX5_boardOfWell 127 = .ok (.iload_n 1, 1) := by decide +kernel
theorem dX5_boardOfWell_128 : decode cX5_boardOfWell 128 = .ok (.if_icmp .ge 6, 3) := by decide +kernel
theorem dX5_boardOfWell_131 : decode cX5_boardOfWell 131 = .ok (.iinc 3 1, 3) := by decide +kernel
theorem dX5_boardOfWell_134 : decode cX5_boardOfWell 134 = .ok (.iinc 4 1, 3) := by decide +kernel
theorem dX5_boardOfWell_137 : decode cX5_boardOfWell 137 = .ok (.goto (-82), 3) := by decide +kernel
theorem dX5_boardOfWell_140 : decode cX5_boardOfWell 140 = .ok (.iload_n 3, 1) := by decide +kernel
theorem dX5_boardOfWell_141 : decode cX5_boardOfWell 141 = .ok (.aload_n 0, 1) := by decide +kernel
theorem dX5_boardOfWell_142 : decode cX5_boardOfWell 142 = .ok (.getfield 83, 3) := by decide +kernel
theorem dX5_boardOfWell_145 : decode cX5_boardOfWell 145 = .ok (.if_icmp .ge 12, 3) := by decide +kernel
theorem dX5_boardOfWell_148 : decode cX5_boardOfWell 148 = .ok (.aload_n 0, 1) := by decide +kernel
theorem dX5_boardOfWell_149 : decode cX5_boardOfWell 149 = .ok (.getfield 18, 3) := by decide +kernel
theorem dX5_boardOfWell_152 : decode cX5_boardOfWell 152 = .ok (.iload_n 3, 1) := by decide +kernel
theorem dX5_boardOfWell_153 : decode cX5_boardOfWell 153 = .ok (.iaload, 1) := by decide +kernel
theorem dX5_boardOfWell_154 : decode cX5_boardOfWell 154 = .ok (.goto 5, 3) := by decide +kernel
theorem dX5_boardOfWell_157 : decode cX5_boardOfWell 157 = .ok (.bipush (-4), 2) := by decide +kernel
theorem dX5_boardOfWell_159 : decode cX5_boardOfWell 159 = .ok (.ireturn, 1) := by decide +kernel
theorem dX6_init_0 : decode cX6_init 0 = .ok (.aload_n 0, 1) := by decide +kernel
theorem dX6_init_1 : decode cX6_init 1 = .ok (.invokespecial 1, 3) := by decide +kernel
theorem dX6_init_4 : decode cX6_init 4 = .ok (.aload_n 0, 1) := by decide +kernel
theorem dX6_init_5 : decode cX6_init 5 = .ok (.sipush 200, 3) := by decide +kernel
theorem dX6_init_8 : decode cX6_init 8 = .ok (.newarray .char, 2) := by decide +kernel
theorem dX6_init_10 : decode cX6_init 10 = .ok (.putfield 9, 3) := by decide +kernel
theorem dX6_init_13 : decode cX6_init 13 = .ok (.aload_n 0, 1) := by decide +kernel
theorem dX6_init_14 : decode cX6_init 14 = .ok (.new 13, 3) := by decide +kernel
theorem dX6_init_17 : decode cX6_init 17 = .ok (.dup, 1) := by decide +kernel
theorem dX6_init_18 : decode cX6_init 18 = .ok (.invokespecial 15, 3) := by decide +kernel
theorem dX6_init_21 : decode cX6_init 21 = .ok (.putfield 16, 3) := by decide +kernel
theorem dX6_init_24 : decode cX6_init 24 = .ok (.aload_n 0, 1) := by decide +kernel
theorem dX6_init_25 : decode cX6_init 25 = .ok (.new 20, 3) := by decide +kernel
theorem dX6_init_28 : decode cX6_init 28 = .ok (.dup, 1) := by decide +kernel
theorem dX6_init_29 : decode cX6_init 29 = .ok (.invokespecial 22, 3) := by decide +kernel
theorem dX6_init_32 : decode cX6_init 32 = .ok (.putfield 23, 3) := by decide +kernel
theorem dX6_init_35 : decode cX6_init 35 = .ok (.aload_n 0, 1) := by decide +kernel
theorem dX6_init_36 : decode cX6_init 36 = .ok (.new 27, 3) := by decide +kernel
theorem dX6_init_39 : decode cX6_init 39 = .ok (.dup, 1) := by decide +kernel
theorem dX6_init_40 : decode cX6_init 40 = .ok (.invokespecial 29, 3) := by decide +kernel
theorem dX6_init_43 : decode cX6_init 43 = .ok (.putfield 30, 3) := by decide +kernel
theorem dX6_init_46 : decode cX6_init 46 = .ok (.iconst 3, 1) := by decide +kernel
theorem dX6_init_47 : decode cX6_init 47 = .ok (.anewarray 34, 3) := by decide +kernel
theorem dX6_init_50 : decode cX6_init 50 = .ok (.astore_n 1, 1) := by decide +kernel
theorem dX6_init_51 : decode cX6_init 51 = .ok (.aload_n 1, 1) := by decide +kernel
theorem dX6_init_52 : decode cX6_init 52 = .ok (.iconst 0, 1) := by decide +kernel
theorem dX6_init_53 : decode cX6_init 53 = .ok (.new 34, 3) := by decide +kernel
theorem dX6_init_56 : decode cX6_init 56 = .ok (.dup, 1) := by decide +kernel
theorem dX6_init_57 : decode cX6_init 57 = .ok (.iconst 0, 1) := by decide +kernel
theorem dX6_init_58 : decode cX6_init 58 = .ok (.bipush 7, 2) := by decide +kernel
theorem dX6_init_60 : decode cX6_init 60 = .ok (.iconst 1, 1) := by decide +kernel
theorem dX6_init_61 : decode cX6_init 61 = .ok (.iconst 0, 1) := by decide +kernel
theorem dX6_init_62 : decode cX6_init 62 = .ok (.bipush 14, 2) := by decide +kernel
theorem dX6_init_64 : decode cX6_init 64 = .ok (.invokespecial 36, 3) := by decide +kernel
theorem dX6_init_67 : decode cX6_init 67 = .ok (.aastore, 1) := by decide +kernel
theorem dX6_init_68 : decode cX6_init 68 = .ok (.aload_n 1, 1) := by decide +kernel
theorem dX6_init_69 : decode cX6_init 69 = .ok (.iconst 1, 1) := by decide +kernel
theorem dX6_init_70 : decode cX6_init 70 = .ok (.new 34, 3) := by decide +kernel
theorem dX6_init_73 : decode cX6_init 73 = .ok (.dup, 1) := by decide +kernel
theorem dX6_init_74 : decode cX6_init 74 = .ok (.iconst 1, 1) := by decide +kernel
theorem dX6_init_75 : decode cX6_init 75 = .ok (.bipush 11, 2) := by decide +kernel
theorem dX6_init_77 : decode cX6_init 77 = .ok (.iconst 2, 1) := by decide +kernel
theorem dX6_init_78 : decode cX6_init 78 = .ok (.iconst 3, 1) := by decide +kernel
theorem dX6_init_79 : decode cX6_init 79 = .ok (.bipush 10, 2) := by decide +kernel
theorem dX6_init_81 : decode cX6_init 81 = .ok (.invokespecial 36, 3) := by decide +kernel
theorem dX6_init_84 : decode cX6_init 84 = .ok (.aastore, 1) := by decide +kernel
theorem dX6_init_85 : decode cX6_init 85 = .ok (.aload_n 1, 1) := by decide +kernel
theorem dX6_init_86 : decode cX6_init 86 = .ok (.iconst 2, 1) := by decide +kernel
theorem dX6_init_87 : decode cX6_init 87 = .ok (.new 34, 3) := by decide +kernel
theorem dX6_init_90 : decode cX6_init 90 = .ok (.dup, 1) := by decide +kernel
theorem dX6_init_91 : decode cX6_init 91 = .ok (.iconst 2, 1) := by decide +kernel
theorem dX6_init_92 : decode cX6_init 92 = .ok (.bipush 13, 2) := by decide +kernel
theorem dX6_init_94 : decode cX6_init 94 = .ok (.iconst 4, 1) := by decide +kernel
theorem dX6_init_95 : decode cX6_init 95 = .ok (.iconst 0, 1) := by decide +kernel
theorem dX6_init_96 : decode cX6_init 96 = .ok (.bipush 13, 2) := by decide +kernel
theorem dX6_init_98 : decode cX6_init 98 = .ok (.invokespecial 36, 3) := by decide +kernel
theorem dX6_init_101 : decode cX6_init 101 = .ok (.aastore, 1) := by decide +kernel
theorem dX6_init_102 : decode cX6_init 102 = .ok (.aload_n 0, 1) := by decide +kernel
theorem dX6_init_103 : decode cX6_init 103 = .ok (.new 39, 3) := by decide +kernel
theorem dX6_init_106 : decode cX6_init 106 = .ok (.dup, 1) := by decide +kernel
theorem dX6_init_107 : decode cX6_init 107 = .ok (.aload_n 1, 1) := by decide +kernel
theorem dX6_init_108 : decode cX6_init 108 = .ok (.iconst 3, 1) := by decide +kernel
theorem dX6_init_109 : decode cX6_init 109 = .ok (.bipush 40, 2) := by decide +kernel
theorem dX6_init_111 : decode cX6_init 111 = .ok (.iconst 1, 1) := by decide +kernel
theorem dX6_init_112 : decode cX6_init 112 = .ok (.invokespecial 41, 3) := by decide +kernel
theorem dX6_init_115 : decode cX6_init 115 = .ok (.putfield 44, 3) := by decide +kernel
theorem dX6_init_118 : decode cX6_init 118 = .ok (.aload_n 0, 1) := by decide +kernel
theorem dX6_init_119 : decode cX6_init 119 = .ok (.iconst 0, 1) := by decide +kernel
theorem dX6_init_120 : decode cX6_init 120 = .ok (.putfield 48, 3) := by decide +kernel
theorem dX6_init_123 : decode cX6_init 123 = .ok (.return_, 1) := by decide +kernel
theorem dX6_write_0 : decode cX6_write 0 = .ok (.iload_n 1, 1) := by decide +kernel
theorem dX6_write_1 : decode cX6_write 1 = .ok (.bipush 32, 2) := by decide +kernel
theorem dX6_write_3 : decode cX6_write 3 = .ok (.if_icmp .lt 9, 3) := by decide +kernel
theorem dX6_write_6 : decode cX6_write 6 = .ok (.iload_n 1, 1) := by decide +kernel
theorem dX6_write_7 : decode cX6_write 7 = .ok (.bipush 126, 2) := by decide +kernel
theorem dX6_write_9 : decode cX6_write 9 = .ok (.if_icmp .le 5, 3) := by decide +kernel
theorem dX6_write_12 : decode cX6_write 12 = .ok (.iconst (-1), 1) := by decide +kernel
theorem dX6_write_13 : decode cX6_write 13 = .ok (.ireturn, 1) := by decide +kernel
theorem dX6_write_14 : decode cX6_write 14 = .ok (.aload_n 0, 1) := by decide +kernel
theorem dX6_write_15 : decode cX6_write 15 = .ok (.getfield 48, 3) := by decide +kernel
theorem dX6_write_18 : decode cX6_write 18 = .ok (.ifCond .lt 15, 3) := by decide +kernel
theorem dX6_write_21 : decode cX6_write 21 = .ok (.aload_n 0, 1) := by decide +kernel
theorem dX6_write_22 : decode cX6_write 22 = .ok (.getfield 48, 3) := by decide +kernel
theorem dX6_write_25 : decode cX6_write 25 = .ok (.aload_n 0, 1) := by decide +kernel
theorem dX6_write_26 : decode cX6_write 26 = .ok (.getfield 9, 3) := by decide +kernel
theorem dX6_write_29 : decode cX6_write 29 = .ok (.arraylength, 1) := by decide +kernel
theorem dX6_write_30 : decode cX6_write 30 = .ok (.if_icmp .lt 6, 3) := by decide +kernel
theorem dX6_write_33 : decode cX6_write 33 = .ok (.bipush (-3), 2) := by decide +kernel
theorem dX6_write_35 : decode cX6_write 35 = .ok (.ireturn, 1) := by decide +kernel
theorem dX6_write_36 : decode cX6_write 36 = .ok (.aload_n 0, 1) := by decide +kernel
theorem dX6_write_37 : decode cX6_write 37 = .ok (.getfield 9, 3) := by decide +kernel
theorem dX6_write_40 : decode cX6_write 40 = .ok (.aload_n 0, 1) := by decide +kernel
theorem dX6_write_41 : decode cX6_write 41 = .ok (.getfield 48, 3) := by decide +kernel
theorem dX6_write_44 : decode cX6_write 44 = .ok (.iload_n 1, 1) := by decide +kernel
theorem dX6_write_45 : decode cX6_write 45 = .ok (.i2c, 1) := by decide +kernel
theorem dX6_write_46 : decode cX6_write 46 = .ok (.castore, 1) := by decide +kernel
theorem dX6_write_47 : decode cX6_write 47 = .ok (.aload_n 0, 1) := by decide +kernel
theorem dX6_write_48 : decode cX6_write 48 = .ok (.dup, 1) := by decide +kernel
theorem dX6_write_49 : decode cX6_write 49 = .ok (.getfield 48, 3) := by decide +kernel
theorem dX6_write_52 : decode cX6_write 52 = .ok (.iconst 1, 1) := by decide +kernel
theorem dX6_write_53 : decode cX6_write 53 = .ok (.iadd, 1) := by decide +kernel
theorem dX6_write_54 : decode cX6_write 54 = .ok (.putfield 48, 3) := by decide +kernel
theorem dX6_write_57 : decode cX6_write 57 = .ok (.aload_n 0, 1) := by decide +kernel
theorem dX6_write_58 : decode cX6_write 58 = .ok (.getfield 48, 3) := by decide +kernel
theorem dX6_write_61 : decode cX6_write 61 = .ok (.ireturn, 1) := by decide +kernel
theorem dX6_wipe_0 : decode cX6_wipe 0 = .ok (.aload_n 0, 1) := by decide +kernel
theorem dX6_wipe_1 : decode cX6_wipe 1 = .ok (.getfield 48, 3) := by decide +kernel
theorem dX6_wipe_4 : decode cX6_wipe 4 = .ok (.istore_n 1, 1) := by decide +kernel
theorem dX6_wipe_5 : decode cX6_wipe 5 = .ok (.aload_n 0, 1) := by decide +kernel
theorem dX6_wipe_6 : decode cX6_wipe 6 = .ok (.iconst 0, 1) := by decide +kernel
theorem dX6_wipe_7 : decode cX6_wipe 7 = .ok (.putfield 48, 3) := by decide +kernel
theorem dX6_wipe_10 : decode cX6_wipe 10 = .ok (.iload_n 1, 1) := by decide +kernel
theorem dX6_wipe_11 : decode cX6_wipe 11 = .ok (.ireturn, 1) := by decide +kernel
theorem dX6_fault_0 : decode cX6_fault 0 = .ok (.aload_n 0, 1) := by decide +kernel
theorem dX6_fault_1 : decode cX6_fault 1 = .ok (.getfield 16, 3) := by decide +kernel
theorem dX6_fault_4 : decode cX6_fault 4 = .ok (.aload_n 0, 1) := by decide +kernel
theorem dX6_fault_5 : decode cX6_fault 5 = .ok (.getfield 9, 3) := by decide +kernel
theorem dX6_fault_8 : decode cX6_fault 8 = .ok (.aload_n 0, 1) := by decide +kernel
theorem dX6_fault_9 : decode cX6_fault 9 = .ok (.getfield 48, 3) := by decide +kernel
theorem dX6_fault_12 : decode cX6_fault 12 = .ok (.invokevirtual 52, 3) := by decide +kernel
theorem dX6_fault_15 : decode cX6_fault 15 = .ok (.ireturn, 1) := by decide +kernel
theorem dX6_lay_0 : decode cX6_lay 0 = .ok (.aload_n 0, 1) := by decide +kernel
theorem dX6_lay_1 : decode cX6_lay 1 = .ok (.getfield 16, 3) := by decide +kernel
theorem dX6_lay_4 : decode cX6_lay 4 = .ok (.aload_n 0, 1) := by decide +kernel
theorem dX6_lay_5 : decode cX6_lay 5 = .ok (.getfield 9, 3) := by decide +kernel
theorem dX6_lay_8 : decode cX6_lay 8 = .ok (.aload_n 0, 1) := by decide +kernel
theorem dX6_lay_9 : decode cX6_lay 9 = .ok (.getfield 48, 3) := by decide +kernel
theorem dX6_lay_12 : decode cX6_lay 12 = .ok (.invokevirtual 52, 3) := by decide +kernel
theorem dX6_lay_15 : decode cX6_lay 15 = .ok (.bipush (-4), 2) := by decide +kernel
theorem dX6_lay_17 : decode cX6_lay 17 = .ok (.if_icmp .eq 6, 3) := by decide +kernel
theorem dX6_lay_20 : decode cX6_lay 20 = .ok (.bipush (-2), 2) := by decide +kernel
theorem dX6_lay_22 : decode cX6_lay 22 = .ok (.ireturn, 1) := by decide +kernel
theorem dX6_lay_23 : decode cX6_lay 23 = .ok (.aload_n 0, 1) := by decide +kernel
theorem dX6_lay_24 : decode cX6_lay 24 = .ok (.aload_n 0, 1) := by decide +kernel
theorem dX6_lay_25 : decode cX6_lay 25 = .ok (.getfield 16, 3) := by decide +kernel
theorem dX6_lay_28 : decode cX6_lay 28 = .ok (.invokevirtual 56, 3) := by decide +kernel
theorem dX6_lay_31 : decode cX6_lay 31 = .ok (.putfield 44, 3) := by decide +kernel
theorem dX6_lay_34 : decode cX6_lay 34 = .ok (.aload_n 0, 1) := by decide +kernel
theorem dX6_lay_35 : decode cX6_lay 35 = .ok (.getfield 23, 3) := by decide +kernel
theorem dX6_lay_38 : decode cX6_lay 38 = .ok (.invokevirtual 60, 3) := by decide +kernel
theorem dX6_lay_41 : decode cX6_lay 41 = .ok (.aload_n 0, 1) := by decide +kernel
theorem dX6_lay_42 : decode cX6_lay 42 = .ok (.getfield 44, 3) := by decide +kernel
theorem dX6_lay_45 : decode cX6_lay 45 = .ok (.getfield 63, 3) := by decide +kernel
theorem dX6_lay_48 : decode cX6_lay 48 = .ok (.arraylength, 1) := by decide +kernel
theorem dX6_lay_49 : decode cX6_lay 49 = .ok (.ireturn, 1) := by decide +kernel
theorem dX6_set_0 : decode cX6_set 0 = .ok (.aload_n 0, 1) := by decide +kernel
theorem dX6_set_1 : decode cX6_set 1 = .ok (.getfield 44, 3) := by decide +kernel
theorem dX6_set_4 : decode cX6_set 4 = .ok (.iload_n 1, 1) := by decide +kernel
theorem dX6_set_5 : decode cX6_set 5 = .ok (.invokevirtual 67, 3) := by decide +kernel
theorem dX6_set_8 : decode cX6_set 8 = .ok (.astore 4, 2) := by decide +kernel
theorem dX6_set_10 : decode cX6_set 10 = .ok (.aload 4, 2) := by decide +kernel
theorem dX6_set_12 : decode cX6_set 12 = .ok (.ifnull 13, 3) := by decide +kernel
theorem dX6_set_15 : decode cX6_set 15 = .ok (.aload 4, 2) := by decide +kernel
theorem dX6_set_17 : decode cX6_set 17 = .ok (.iload_n 2, 1) := by decide +kernel
theorem dX6_set_18 : decode cX6_set 18 = .ok (.iload_n 3, 1) := by decide +kernel
theorem dX6_set_19 : decode cX6_set 19 = .ok (.invokevirtual 71, 3) := by decide +kernel
theorem dX6_set_22 : decode cX6_set 22 = .ok (.ifCond .ne 5, 3) := by decide +kernel
theorem dX6_set_25 : decode cX6_set 25 = .ok (.iconst (-1), 1) := by decide +kernel
theorem dX6_set_26 : decode cX6_set 26 = .ok (.ireturn, 1) := by decide +kernel
theorem dX6_set_27 : decode cX6_set 27 = .ok (.aload 4, 2) := by decide +kernel
theorem dX6_set_29 : decode cX6_set 29 = .ok (.iload_n 2, 1) := by decide +kernel
theorem dX6_set_30 : decode cX6_set 30 = .ok (.invokevirtual 75, 3) := by decide +kernel
theorem dX6_set_33 : decode cX6_set 33 = .ok (.istore 5, 2) := by decide +kernel
theorem dX6_set_35 : decode cX6_set 35 = .ok (.iload 5, 2) := by decide +kernel
theorem dX6_set_37 : decode cX6_set 37 = .ok (.iload_n 3, 1) := by decide +kernel
theorem dX6_set_38 : decode cX6_set 38 = .ok (.if_icmp .ne 6, 3) := by decide +kernel
theorem dX6_set_41 : decode cX6_set 41 = .ok (.bipush (-2), 2) := by decide +kernel
theorem dX6_set_43 : decode cX6_set 43 = .ok (.ireturn, 1) := by decide +kernel
theorem dX6_set_44 : decode cX6_set 44 = .ok (.aload_n 0, 1) := by decide +kernel
theorem dX6_set_45 : decode cX6_set 45 = .ok (.aload_n 0, 1) := by decide +kernel
theorem dX6_set_46 : decode cX6_set 46 = .ok (.getfield 44, 3) := by decide +kernel
theorem dX6_set_49 : decode cX6_set 49 = .ok (.iload_n 1, 1) := by decide +kernel
theorem dX6_set_50 : decode cX6_set 50 = .ok (.aload 4, 2) := by decide +kernel
theorem dX6_set_52 : decode cX6_set 52 = .ok (.iload_n 2, 1) := by decide +kernel
theorem dX6_set_53 : decode cX6_set 53 = .ok (.iload_n 3, 1) := by decide +kernel
theorem dX6_set_54 : decode cX6_set 54 = .ok (.invokevirtual 79, 3) := by decide +kernel
theorem dX6_set_57 : decode cX6_set 57 = .ok (.invokevirtual 83, 3) := by decide +kernel
theorem dX6_set_60 : decode cX6_set 60 = .ok (.invokevirtual 87, 3) := by decide +kernel
theorem dX6_set_63 : decode cX6_set 63 = .ok (.iload 5, 2) := by decide +kernel
theorem dX6_set_65 : decode cX6_set 65 = .ok (.ireturn, 1) := by decide +kernel
theorem dX6_tell_0 : decode cX6_tell 0 = .ok (.iload_n 1, 1) := by decide +kernel
theorem dX6_tell_1 : decode cX6_tell 1 = .ok (.iload_n 2, 1) := by decide +kernel
theorem dX6_tell_2 : decode cX6_tell 2 = .ok (.invokestatic 91, 3) := by decide +kernel
theorem dX6_tell_5 : decode cX6_tell 5 = .ok (.ifCond .ne 5, 3) := by decide +kernel
theorem dX6_tell_8 : decode cX6_tell 8 = .ok (.iconst (-1), 1) := by decide +kernel
theorem dX6_tell_9 : decode cX6_tell 9 = .ok (.ireturn, 1) := by decide +kernel
theorem dX6_tell_10 : decode cX6_tell 10 = .ok (.aload_n 0, 1) := by decide +kernel
theorem dX6_tell_11 : decode cX6_tell 11 = .ok (.getfield 44, 3) := by decide +kernel
theorem dX6_tell_14 : decode cX6_tell 14 = .ok (.iload_n 1, 1) := by decide +kernel
theorem dX6_tell_15 : decode cX6_tell 15 = .ok (.invokevirtual 92, 3) := by decide +kernel
theorem dX6_tell_18 : decode cX6_tell 18 = .ok (.istore_n 3, 1) := by decide +kernel
theorem dX6_tell_19 : decode cX6_tell 19 = .ok (.iload_n 3, 1) := by decide +kernel
theorem dX6_tell_20 : decode cX6_tell 20 = .ok (.iload_n 2, 1) := by decide +kernel
theorem dX6_tell_21 : decode cX6_tell 21 = .ok (.if_icmp .ne 6, 3) := by decide +kernel
theorem dX6_tell_24 : decode cX6_tell 24 = .ok (.bipush (-2), 2) := by decide +kernel
theorem dX6_tell_26 : decode cX6_tell 26 = .ok (.ireturn, 1) := by decide +kernel
theorem dX6_tell_27 : decode cX6_tell 27 = .ok (.aload_n 0, 1) := by decide +kernel
theorem dX6_tell_28 : decode cX6_tell 28 = .ok (.aload_n 0, 1) := by decide +kernel
theorem dX6_tell_29 : decode cX6_tell 29 = .ok (.getfield 44, 3) := by decide +kernel
theorem dX6_tell_32 : decode cX6_tell 32 = .ok (.iload_n 1, 1) := by decide +kernel
theorem dX6_tell_33 : decode cX6_tell 33 = .ok (.iload_n 2, 1) := by decide +kernel
theorem dX6_tell_34 : decode cX6_tell 34 = .ok (.invokevirtual 93, 3) := by decide +kernel
theorem dX6_tell_37 : decode cX6_tell 37 = .ok (.invokevirtual 87, 3) := by decide +kernel
theorem dX6_tell_40 : decode cX6_tell 40 = .ok (.iload_n 3, 1) := by decide +kernel
theorem dX6_tell_41 : decode cX6_tell 41 = .ok (.ireturn, 1) := by decide +kernel
theorem dX6_take_0 : decode cX6_take 0 = .ok (.aload_n 0, 1) := by decide +kernel
theorem dX6_take_1 : decode cX6_take 1 = .ok (.getfield 44, 3) := by decide +kernel
theorem dX6_take_4 : decode cX6_take 4 = .ok (.iload_n 1, 1) := by decide +kernel
theorem dX6_take_5 : decode cX6_take 5 = .ok (.invokevirtual 67, 3) := by decide +kernel
theorem dX6_take_8 : decode cX6_take 8 = .ok (.ifnonnull 5, 3) := by decide +kernel
theorem dX6_take_11 : decode cX6_take 11 = .ok (.iconst (-1), 1) := by decide +kernel
theorem dX6_take_12 : decode cX6_take 12 = .ok (.ireturn, 1) := by decide +kernel
theorem dX6_take_13 : decode cX6_take 13 = .ok (.aload_n 0, 1) := by decide +kernel
theorem dX6_take_14 : decode cX6_take 14 = .ok (.aload_n 0, 1) := by decide +kernel
theorem dX6_take_15 : decode cX6_take 15 = .ok (.getfield 44, 3) := by decide +kernel
theorem dX6_take_18 : decode cX6_take 18 = .ok (.iload_n 1, 1) := by decide +kernel
theorem dX6_take_19 : decode cX6_take 19 = .ok (.invokevirtual 96, 3) := by decide +kernel
theorem dX6_take_22 : decode cX6_take 22 = .ok (.invokevirtual 87, 3) := by decide +kernel
theorem dX6_take_25 : decode cX6_take 25 = .ok (.aload_n 0, 1) := by decide +kernel
theorem dX6_take_26 : decode cX6_take 26 = .ok (.getfield 44, 3) := by decide +kernel
theorem dX6_take_29 : decode cX6_take 29 = .ok (.getfield 63, 3) := by decide +kernel
theorem dX6_take_32 : decode cX6_take 32 = .ok (.arraylength, 1) := by decide +kernel
theorem dX6_take_33 : decode cX6_take 33 = .ok (.ireturn, 1) := by decide +kernel
theorem dX6_undo_0 : decode cX6_undo 0 = .ok (.aload_n 0, 1) := by decide +kernel
theorem dX6_undo_1 : decode cX6_undo 1 = .ok (.getfield 23, 3) := by decide +kernel
theorem dX6_undo_4 : decode cX6_undo 4 = .ok (.invokevirtual 100, 3) := by decide +kernel
theorem dX6_undo_7 : decode cX6_undo 7 = .ok (.astore_n 1, 1) := by decide +kernel
theorem dX6_undo_8 : decode cX6_undo 8 = .ok (.aload_n 1, 1) := by decide +kernel
theorem dX6_undo_9 : decode cX6_undo 9 = .ok (.ifnonnull 6, 3) := by decide +kernel
theorem dX6_undo_12 : decode cX6_undo 12 = .ok (.bipush (-2), 2) := by decide +kernel
theorem dX6_undo_14 : decode cX6_undo 14 = .ok (.ireturn, 1) := by decide +kernel
theorem dX6_undo_15 : decode cX6_undo 15 = .ok (.aload_n 0, 1) := by decide +kernel
theorem dX6_undo_16 : decode cX6_undo 16 = .ok (.aload_n 1, 1) := by decide +kernel
theorem dX6_undo_17 : decode cX6_undo 17 = .ok (.putfield 44, 3) := by decide +kernel
theorem dX6_undo_20 : decode cX6_undo 20 = .ok (.aload_n 0, 1) := by decide +kernel
theorem dX6_undo_21 : decode cX6_undo 21 = .ok (.getfield 23, 3) := by decide +kernel
theorem dX6_undo_24 : decode cX6_undo 24 = .ok (.getfield 103, 3) := by decide +kernel
theorem dX6_undo_27 : decode cX6_undo 27 = .ok (.ireturn, 1) := by decide +kernel
theorem dX6_change_0 : decode cX6_change 0 = .ok (.aload_n 0, 1) := by decide +kernel
theorem dX6_change_1 : decode cX6_change 1 = .ok (.getfield 23, 3) := by decide +kernel
theorem dX6_change_4 : decode cX6_change 4 = .ok (.aload_n 0, 1) := by decide +kernel
theorem dX6_change_5 : decode cX6_change 5 = .ok (.getfield 44, 3) := by decide +kernel
theorem dX6_change_8 : decode cX6_change 8 = .ok (.invokevirtual 106, 3) := by decide +kernel
theorem dX6_change_11 : decode cX6_change 11 = .ok (.aload_n 0, 1) := by decide +kernel
theorem dX6_change_12 : decode cX6_change 12 = .ok (.aload_n 1, 1) := by decide +kernel
theorem dX6_change_13 : decode cX6_change 13 = .ok (.putfield 44, 3) := by decide +kernel
theorem dX6_change_16 : decode cX6_change 16 = .ok (.return_, 1) := by decide +kernel
theorem dX6_squares_0 : decode cX6_squares 0 = .ok (.iload_n 1, 1) := by decide +kernel
theorem dX6_squares_1 : decode cX6_squares 1 = .ok (.invokestatic 109, 3) := by decide +kernel
theorem dX6_squares_4 : decode cX6_squares 4 = .ok (.ifCond .eq 10, 3) := by decide +kernel
theorem dX6_squares_7 : decode cX6_squares 7 = .ok (.iload_n 1, 1) := by decide +kernel
theorem dX6_squares_8 : decode cX6_squares 8 = .ok (.invokestatic 115, 3) := by decide +kernel
theorem dX6_squares_11 : decode cX6_squares 11 = .ok (.goto 4, 3) := by decide +kernel
theorem dX6_squares_14 : decode cX6_squares 14 = .ok (.iconst (-1), 1) := by decide +kernel
theorem dX6_squares_15 : decode cX6_squares 15 = .ok (.ireturn, 1) := by decide +kernel
theorem dX6_sign_0 : decode cX6_sign 0 = .ok (.iload_n 1, 1) := by decide +kernel
theorem dX6_sign_1 : decode cX6_sign 1 = .ok (.ifCond .lt 17, 3) := by decide +kernel
theorem dX6_sign_4 : decode cX6_sign 4 = .ok (.iload_n 1, 1) := by decide +kernel
theorem dX6_sign_5 : decode cX6_sign 5 = .ok (.sipush 999, 3) := by decide +kernel
theorem dX6_sign_8 : decode cX6_sign 8 = .ok (.if_icmp .gt 10, 3) := by decide +kernel
theorem dX6_sign_11 : decode cX6_sign 11 = .ok (.iload_n 2, 1) := by decide +kernel
theorem dX6_sign_12 : decode cX6_sign 12 = .ok (.invokestatic 109, 3) := by decide +kernel
theorem dX6_sign_15 : decode cX6_sign 15 = .ok (.ifCond .ne 5, 3) := by decide +kernel
theorem dX6_sign_18 : decode cX6_sign 18 = .ok (.iconst (-1), 1) := by decide +kernel
theorem dX6_sign_19 : decode cX6_sign 19 = .ok (.ireturn, 1) := by decide +kernel
theorem dX6_sign_20 : decode cX6_sign 20 = .ok (.iload_n 1, 1) := by decide +kernel
theorem dX6_sign_21 : decode cX6_sign 21 = .ok (.iload_n 2, 1) := by decide +kernel
theorem dX6_sign_22 : decode cX6_sign 22 = .ok (.invokestatic 118, 3) := by decide +kernel
theorem dX6_sign_25 : decode cX6_sign 25 = .ok (.iconst 1, 1) := by decide +kernel
theorem dX6_sign_26 : decode cX6_sign 26 = .ok (.iadd, 1) := by decide +kernel
theorem dX6_sign_27 : decode cX6_sign 27 = .ok (.ireturn, 1) := by decide +kernel
theorem dX6_root_0 : decode cX6_root 0 = .ok (.iload_n 1, 1) := by decide +kernel
theorem dX6_root_1 : decode cX6_root 1 = .ok (.invokestatic 109, 3) := by decide +kernel
theorem dX6_root_4 : decode cX6_root 4 = .ok (.ifCond .ne 5, 3) := by decide +kernel
theorem dX6_root_7 : decode cX6_root 7 = .ok (.iconst (-1), 1) := by decide +kernel
theorem dX6_root_8 : decode cX6_root 8 = .ok (.ireturn, 1) := by decide +kernel
theorem dX6_root_9 : decode cX6_root 9 = .ok (.iload_n 2, 1) := by decide +kernel
theorem dX6_root_10 : decode cX6_root 10 = .ok (.lookupswitch 36 #[(0, 26), (1, 31)], 26) := by decide +kernel
theorem dX6_root_36 : decode cX6_root 36 = .ok (.iload_n 1, 1) := by decide +kernel
theorem dX6_root_37 : decode cX6_root 37 = .ok (.invokestatic 122, 3) := by decide +kernel
theorem dX6_root_40 : decode cX6_root 40 = .ok (.ireturn, 1) := by decide +kernel
theorem dX6_root_41 : decode cX6_root 41 = .ok (.iload_n 1, 1) := by decide +kernel
theorem dX6_root_42 : decode cX6_root 42 = .ok (.invokestatic 125, 3) := by decide +kernel
theorem dX6_root_45 : decode cX6_root 45 = .ok (.ireturn, 1) := by decide +kernel
theorem dX6_root_46 : decode cX6_root 46 = .ok (.iconst (-1), 1) := by decide +kernel
theorem dX6_root_47 : decode cX6_root 47 = .ok (.ireturn, 1) := by decide +kernel
theorem dX6_law_0 : decode cX6_law 0 = .ok (.iload_n 1, 1) := by decide +kernel
theorem dX6_law_1 : decode cX6_law 1 = .ok (.invokestatic 109, 3) := by decide +kernel
theorem dX6_law_4 : decode cX6_law 4 = .ok (.ifCond .eq 15, 3) := by decide +kernel
theorem dX6_law_7 : decode cX6_law 7 = .ok (.iload_n 2, 1) := by decide +kernel
theorem dX6_law_8 : decode cX6_law 8 = .ok (.invokestatic 109, 3) := by decide +kernel
theorem dX6_law_11 : decode cX6_law 11 = .ok (.ifCond .eq 8, 3) := by decide +kernel
theorem dX6_law_14 : decode cX6_law 14 = .ok (.iload_n 1, 1) := by decide +kernel
theorem dX6_law_15 : decode cX6_law 15 = .ok (.iload_n 2, 1) := by decide +kernel
theorem dX6_law_16 : decode cX6_law 16 = .ok (.if_icmp .ne 5, 3) := by decide +kernel
theorem dX6_law_19 : decode cX6_law 19 = .ok (.iconst (-1), 1) := by decide +kernel
theorem dX6_law_20 : decode cX6_law 20 = .ok (.ireturn, 1) := by decide +kernel
theorem dX6_law_21 : decode cX6_law 21 = .ok (.iload_n 1, 1) := by decide +kernel
theorem dX6_law_22 : decode cX6_law 22 = .ok (.iload_n 2, 1) := by decide +kernel
theorem dX6_law_23 : decode cX6_law 23 = .ok (.invokestatic 118, 3) := by decide +kernel
theorem dX6_law_26 : decode cX6_law 26 = .ok (.iload_n 2, 1) := by decide +kernel
theorem dX6_law_27 : decode cX6_law 27 = .ok (.iload_n 1, 1) := by decide +kernel
theorem dX6_law_28 : decode cX6_law 28 = .ok (.invokestatic 118, 3) := by decide +kernel
theorem dX6_law_31 : decode cX6_law 31 = .ok (.imul, 1) := by decide +kernel
theorem dX6_law_32 : decode cX6_law 32 = .ok (.iconst 1, 1) := by decide +kernel
theorem dX6_law_33 : decode cX6_law 33 = .ok (.iadd, 1) := by decide +kernel
theorem dX6_law_34 : decode cX6_law 34 = .ok (.ireturn, 1) := by decide +kernel
theorem dX6_panel_0 : decode cX6_panel 0 = .ok (.aload_n 0, 1) := by decide +kernel
theorem dX6_panel_1 : decode cX6_panel 1 = .ok (.getfield 44, 3) := by decide +kernel
theorem dX6_panel_4 : decode cX6_panel 4 = .ok (.iload_n 1, 1) := by decide +kernel
theorem dX6_panel_5 : decode cX6_panel 5 = .ok (.invokevirtual 67, 3) := by decide +kernel
theorem dX6_panel_8 : decode cX6_panel 8 = .ok (.astore_n 3, 1) := by decide +kernel
theorem dX6_panel_9 : decode cX6_panel 9 = .ok (.aload_n 3, 1) := by decide +kernel
theorem dX6_panel_10 : decode cX6_panel 10 = .ok (.ifnonnull 5, 3) := by decide +kernel
theorem dX6_panel_13 : decode cX6_panel 13 = .ok (.iconst (-1), 1) := by decide +kernel
theorem dX6_panel_14 : decode cX6_panel 14 = .ok (.ireturn, 1) := by decide +kernel
theorem dX6_panel_15 : decode cX6_panel 15 = .ok (.iload_n 2, 1) := by decide +kernel
theorem dX6_panel_16 : decode cX6_panel 16 = .ok (.tableswitch 123 0 10 #[60, 65, 70, 75, 80, 85, 90, 95, 100, 105, 118], 60) := by decide +kernel
theorem dX6_panel_76 : decode cX6_panel 76 = .ok (.aload_n 3, 1) := by decide +kernel
theorem dX6_panel_77 : decode cX6_panel 77 = .ok (.getfield 128, 3) := by decide +kernel
theorem dX6_panel_80 : decode cX6_panel 80 = .ok (.ireturn, 1) := by decide +kernel
theorem dX6_panel_81 : decode cX6_panel 81 = .ok (.aload_n 3, 1) := by decide +kernel
theorem dX6_panel_82 : decode cX6_panel 82 = .ok (.getfield 131, 3) := by decide +kernel
theorem dX6_panel_85 : decode cX6_panel 85 = .ok (.ireturn, 1) := by decide +kernel
theorem dX6_panel_86 : decode cX6_panel 86 = .ok (.aload_n 3, 1) := by decide +kernel
theorem dX6_panel_87 : decode cX6_panel 87 = .ok (.getfield 134, 3) := by decide +kernel
theorem dX6_panel_90 : decode cX6_panel 90 = .ok (.ireturn, 1) := by decide +kernel
theorem dX6_panel_91 : decode cX6_panel 91 = .ok (.aload_n 3, 1) := by decide +kernel
theorem dX6_panel_92 : decode cX6_panel 92 = .ok (.getfield 137, 3) := by decide +kernel
theorem dX6_panel_95 : decode cX6_panel 95 = .ok (.ireturn, 1) := by decide +kernel
theorem dX6_panel_96 : decode cX6_panel 96 = .ok (.aload_n 3, 1) := by decide +kernel
theorem dX6_panel_97 : decode cX6_panel 97 = .ok (.getfield 140, 3) := by decide +kernel
theorem dX6_panel_100 : decode cX6_panel 100 = .ok (.ireturn, 1) := by decide +kernel
theorem dX6_panel_101 : decode cX6_panel 101 = .ok (.aload_n 3, 1) := by decide +kernel
theorem dX6_panel_102 : decode cX6_panel 102 = .ok (.getfield 143, 3) := by decide +kernel
theorem dX6_panel_105 : decode cX6_panel 105 = .ok (.ireturn, 1) := by decide +kernel
theorem dX6_panel_106 : decode cX6_panel 106 = .ok (.aload_n 3, 1) := by decide +kernel
theorem dX6_panel_107 : decode cX6_panel 107 = .ok (.invokevirtual 146, 3) := by decide +kernel
theorem dX6_panel_110 : decode cX6_panel 110 = .ok (.ireturn, 1) := by decide +kernel
theorem dX6_panel_111 : decode cX6_panel 111 = .ok (.aload_n 3, 1) := by decide +kernel
theorem dX6_panel_112 : decode cX6_panel 112 = .ok (.invokevirtual 150, 3) := by decide +kernel
theorem dX6_panel_115 : decode cX6_panel 115 = .ok (.ireturn, 1) := by decide +kernel
theorem dX6_panel_116 : decode cX6_panel 116 = .ok (.aload_n 3, 1) := by decide +kernel
theorem dX6_panel_117 : decode cX6_panel 117 = .ok (.invokevirtual 153, 3) := by decide +kernel
theorem dX6_panel_120 : decode cX6_panel 120 = .ok (.ireturn, 1) := by decide +kernel
theorem dX6_panel_121 : decode cX6_panel 121 = .ok (.aload_n 3, 1) := by decide +kernel
theorem dX6_panel_122 : decode cX6_panel 122 = .ok (.invokevirtual 156, 3) := by decide +kernel
theorem dX6_panel_125 : decode cX6_panel 125 = .ok (.ifCond .eq 7, 3) := by decide +kernel
theorem dX6_panel_128 : decode cX6_panel 128 = .ok (.iconst 1, 1) := by decide +kernel
theorem dX6_panel_129 : decode cX6_panel 129 = .ok (.goto 4, 3) := by decide +kernel
theorem dX6_panel_132 : decode cX6_panel 132 = .ok (.iconst 0, 1) := by decide +kernel
theorem dX6_panel_133 : decode cX6_panel 133 = .ok (.ireturn, 1) := by decide +kernel
theorem dX6_panel_134 : decode cX6_panel 134 = .ok (.aload_n 3, 1) := by decide +kernel
theorem dX6_panel_135 : decode cX6_panel 135 = .ok (.invokevirtual 160, 3) := by decide +kernel
theorem dX6_panel_138 : decode cX6_panel 138 = .ok (.ireturn, 1) := by decide +kernel
theorem dX6_panel_139 : decode cX6_panel 139 = .ok (.iconst (-1), 1) := by decide +kernel
theorem dX6_panel_140 : decode cX6_panel 140 = .ok (.ireturn, 1) := by decide +kernel
theorem dX6_well_0 : decode cX6_well 0 = .ok (.aload_n 0, 1) := by decide +kernel
theorem dX6_well_1 : decode cX6_well 1 = .ok (.getfield 44, 3) := by decide +kernel
theorem dX6_well_4 : decode cX6_well 4 = .ok (.iload_n 1, 1) := by decide +kernel
theorem dX6_well_5 : decode cX6_well 5 = .ok (.invokevirtual 67, 3) := by decide +kernel
theorem dX6_well_8 : decode cX6_well 8 = .ok (.astore_n 3, 1) := by decide +kernel
theorem dX6_well_9 : decode cX6_well 9 = .ok (.aload_n 3, 1) := by decide +kernel
theorem dX6_well_10 : decode cX6_well 10 = .ok (.ifnull 11, 3) := by decide +kernel
theorem dX6_well_13 : decode cX6_well 13 = .ok (.aload_n 3, 1) := by decide +kernel
theorem dX6_well_14 : decode cX6_well 14 = .ok (.iload_n 2, 1) := by decide +kernel
theorem dX6_well_15 : decode cX6_well 15 = .ok (.invokevirtual 163, 3) := by decide +kernel
theorem dX6_well_18 : decode cX6_well 18 = .ok (.ifCond .ne 5, 3) := by decide +kernel
theorem dX6_well_21 : decode cX6_well 21 = .ok (.iconst (-1), 1) := by decide +kernel
theorem dX6_well_22 : decode cX6_well 22 = .ok (.ireturn, 1) := by decide +kernel
theorem dX6_well_23 : decode cX6_well 23 = .ok (.aload_n 3, 1) := by decide +kernel
theorem dX6_well_24 : decode cX6_well 24 = .ok (.iload_n 2, 1) := by decide +kernel
theorem dX6_well_25 : decode cX6_well 25 = .ok (.invokevirtual 166, 3) := by decide +kernel
theorem dX6_well_28 : decode cX6_well 28 = .ok (.ireturn, 1) := by decide +kernel
theorem dX6_counts_0 : decode cX6_counts 0 = .ok (.aload_n 0, 1) := by decide +kernel
theorem dX6_counts_1 : decode cX6_counts 1 = .ok (.getfield 44, 3) := by decide +kernel
theorem dX6_counts_4 : decode cX6_counts 4 = .ok (.iload_n 1, 1) := by decide +kernel
theorem dX6_counts_5 : decode cX6_counts 5 = .ok (.invokevirtual 67, 3) := by decide +kernel
theorem dX6_counts_8 : decode cX6_counts 8 = .ok (.astore 4, 2) := by decide +kernel
theorem dX6_counts_10 : decode cX6_counts 10 = .ok (.aload 4, 2) := by decide +kernel
theorem dX6_counts_12 : decode cX6_counts 12 = .ok (.ifnull 25, 3) := by decide +kernel
theorem dX6_counts_15 : decode cX6_counts 15 = .ok (.iload_n 2, 1) := by decide +kernel
theorem dX6_counts_16 : decode cX6_counts 16 = .ok (.ifCond .lt 21, 3) := by decide +kernel
theorem dX6_counts_19 : decode cX6_counts 19 = .ok (.iload_n 2, 1) := by decide +kernel
theorem dX6_counts_20 : decode cX6_counts 20 = .ok (.aload 4, 2) := by decide +kernel
theorem dX6_counts_22 : decode cX6_counts 22 = .ok (.getfield 143, 3) := by decide +kernel
theorem dX6_counts_25 : decode cX6_counts 25 = .ok (.if_icmp .ge 12, 3) := by decide +kernel
theorem dX6_counts_28 : decode cX6_counts 28 = .ok (.aload 4, 2) := by decide +kernel
theorem dX6_counts_30 : decode cX6_counts 30 = .ok (.iload_n 3, 1) := by decide +kernel
theorem dX6_counts_31 : decode cX6_counts 31 = .ok (.invokevirtual 169, 3) := by decide +kernel
theorem dX6_counts_34 : decode cX6_counts 34 = .ok (.ifCond .ne 5, 3) := by decide +kernel
theorem dX6_counts_37 : decode cX6_counts 37 = .ok (.iconst (-1), 1) := by decide +kernel
theorem dX6_counts_38 : decode cX6_counts 38 = .ok (.ireturn, 1) := by decide +kernel
theorem dX6_counts_39 : decode cX6_counts 39 = .ok (.aload 4, 2) := by decide +kernel
theorem dX6_counts_41 : decode cX6_counts 41 = .ok (.iload_n 2, 1) := by decide +kernel
theorem dX6_counts_42 : decode cX6_counts 42 = .ok (.iload_n 3, 1) := by decide +kernel
theorem dX6_counts_43 : decode cX6_counts 43 = .ok (.invokevirtual 172, 3) := by decide +kernel
theorem dX6_counts_46 : decode cX6_counts 46 = .ok (.ireturn, 1) := by decide +kernel
theorem dX6_plane_0 : decode cX6_plane 0 = .ok (.aload_n 0, 1) := by decide +kernel
theorem dX6_plane_1 : decode cX6_plane 1 = .ok (.getfield 44, 3) := by decide +kernel
theorem dX6_plane_4 : decode cX6_plane 4 = .ok (.iload_n 1, 1) := by decide +kernel
theorem dX6_plane_5 : decode cX6_plane 5 = .ok (.invokevirtual 67, 3) := by decide +kernel
theorem dX6_plane_8 : decode cX6_plane 8 = .ok (.astore 4, 2) := by decide +kernel
theorem dX6_plane_10 : decode cX6_plane 10 = .ok (.aload 4, 2) := by decide +kernel
theorem dX6_plane_12 : decode cX6_plane 12 = .ok (.ifnull 21, 3) := by decide +kernel
theorem dX6_plane_15 : decode cX6_plane 15 = .ok (.aload 4, 2) := by decide +kernel
theorem dX6_plane_17 : decode cX6_plane 17 = .ok (.iload_n 2, 1) := by decide +kernel
theorem dX6_plane_18 : decode cX6_plane 18 = .ok (.invokevirtual 169, 3) := by decide +kernel
theorem dX6_plane_21 : decode cX6_plane 21 = .ok (.ifCond .eq 12, 3) := by decide +kernel
theorem dX6_plane_24 : decode cX6_plane 24 = .ok (.aload 4, 2) := by decide +kernel
theorem dX6_plane_26 : decode cX6_plane 26 = .ok (.iload_n 3, 1) := by decide +kernel
theorem dX6_plane_27 : decode cX6_plane 27 = .ok (.invokevirtual 169, 3) := by decide +kernel
theorem dX6_plane_30 : decode cX6_plane 30 = .ok (.ifCond .ne 5, 3) := by decide +kernel
theorem dX6_plane_33 : decode cX6_plane 33 = .ok (.iconst (-1), 1) := by decide +kernel
theorem dX6_plane_34 : decode cX6_plane 34 = .ok (.ireturn, 1) := by decide +kernel
theorem dX6_plane_35 : decode cX6_plane 35 = .ok (.aload 4, 2) := by decide +kernel
theorem dX6_plane_37 : decode cX6_plane 37 = .ok (.iload_n 2, 1) := by decide +kernel
theorem dX6_plane_38 : decode cX6_plane 38 = .ok (.iload_n 3, 1) := by decide +kernel
theorem dX6_plane_39 : decode cX6_plane 39 = .ok (.invokevirtual 175, 3) := by decide +kernel
theorem dX6_plane_42 : decode cX6_plane 42 = .ok (.ireturn, 1) := by decide +kernel
theorem dX6_planes_0 : decode cX6_planes 0 = .ok (.aload_n 0, 1) := by decide +kernel
theorem dX6_planes_1 : decode cX6_planes 1 = .ok (.getfield 44, 3) := by decide +kernel
theorem dX6_planes_4 : decode cX6_planes 4 = .ok (.iload_n 1, 1) := by decide +kernel
theorem dX6_planes_5 : decode cX6_planes 5 = .ok (.invokevirtual 67, 3) := by decide +kernel
theorem dX6_planes_8 : decode cX6_planes 8 = .ok (.astore_n 3, 1) := by decide +kernel
theorem dX6_planes_9 : decode cX6_planes 9 = .ok (.aload_n 3, 1) := by decide +kernel
theorem dX6_planes_10 : decode cX6_planes 10 = .ok (.ifnull 11, 3) := by decide +kernel
theorem dX6_planes_13 : decode cX6_planes 13 = .ok (.aload_n 3, 1) := by decide +kernel
theorem dX6_planes_14 : decode cX6_planes 14 = .ok (.iload_n 2, 1) := by decide +kernel
theorem dX6_planes_15 : decode cX6_planes 15 = .ok (.invokevirtual 169, 3) := by decide +kernel
theorem dX6_planes_18 : decode cX6_planes 18 = .ok (.ifCond .ne 5, 3) := by decide +kernel
theorem dX6_planes_21 : decode cX6_planes 21 = .ok (.iconst (-1), 1) := by decide +kernel
theorem dX6_planes_22 : decode cX6_planes 22 = .ok (.ireturn, 1) := by decide +kernel
theorem dX6_planes_23 : decode cX6_planes 23 = .ok (.aload_n 3, 1) := by decide +kernel
theorem dX6_planes_24 : decode cX6_planes 24 = .ok (.iload_n 2, 1) := by decide +kernel
theorem dX6_planes_25 : decode cX6_planes 25 = .ok (.invokevirtual 178, 3) := by decide +kernel
theorem dX6_planes_28 : decode cX6_planes 28 = .ok (.ireturn, 1) := by decide +kernel
theorem dX6_cut_0 : decode cX6_cut 0 = .ok (.iload_n 1, 1) := by decide +kernel
theorem dX6_cut_1 : decode cX6_cut 1 = .ok (.ifCond .lt 8, 3) := by decide +kernel
theorem dX6_cut_4 : decode cX6_cut 4 = .ok (.iload_n 1, 1) := by decide +kernel
theorem dX6_cut_5 : decode cX6_cut 5 = .ok (.iconst 4, 1) := by decide +kernel
theorem dX6_cut_6 : decode cX6_cut 6 = .ok (.if_icmp .le 5, 3) := by decide +kernel
theorem dX6_cut_9 : decode cX6_cut 9 = .ok (.iconst (-1), 1) := by decide +kernel
theorem dX6_cut_10 : decode cX6_cut 10 = .ok (.ireturn, 1) := by decide +kernel
theorem dX6_cut_11 : decode cX6_cut 11 = .ok (.aload_n 0, 1) := by decide +kernel
theorem dX6_cut_12 : decode cX6_cut 12 = .ok (.getfield 30, 3) := by decide +kernel
theorem dX6_cut_15 : decode cX6_cut 15 = .ok (.aload_n 0, 1) := by decide +kernel
theorem dX6_cut_16 : decode cX6_cut 16 = .ok (.getfield 44, 3) := by decide +kernel
theorem dX6_cut_19 : decode cX6_cut 19 = .ok (.invokevirtual 181, 3) := by decide +kernel
theorem dX6_cut_22 : decode cX6_cut 22 = .ok (.iload_n 1, 1) := by decide +kernel
theorem dX6_cut_23 : decode cX6_cut 23 = .ok (.tableswitch 71 0 3 #[29, 37, 45, 53], 29) := by decide +kernel
theorem dX6_cut_52 : decode cX6_cut 52 = .ok (.aload_n 0, 1) := by decide +kernel
theorem dX6_cut_53 : decode cX6_cut 53 = .ok (.getfield 30, 3) := by decide +kernel
theorem dX6_cut_56 : decode cX6_cut 56 = .ok (.getfield 184, 3) := by decide +kernel
theorem dX6_cut_59 : decode cX6_cut 59 = .ok (.ireturn, 1) := by decide +kernel
theorem dX6_cut_60 : decode cX6_cut 60 = .ok (.aload_n 0, 1) := by decide +kernel
theorem dX6_cut_61 : decode cX6_cut 61 = .ok (.getfield 30, 3) := by decide +kernel
theorem dX6_cut_64 : decode cX6_cut 64 = .ok (.getfield 187, 3) := by decide +kernel
theorem dX6_cut_67 : decode cX6_cut 67 = .ok (.ireturn, 1) := by decide +kernel
theorem dX6_cut_68 : decode cX6_cut 68 = .ok (.aload_n 0, 1) := by decide +kernel
theorem dX6_cut_69 : decode cX6_cut 69 = .ok (.getfield 30, 3) := by decide +kernel
theorem dX6_cut_72 : decode cX6_cut 72 = .ok (.getfield 190, 3) := by decide +kernel
theorem dX6_cut_75 : decode cX6_cut 75 = .ok (.ireturn, 1) := by decide +kernel
theorem dX6_cut_76 : decode cX6_cut 76 = .ok (.aload_n 0, 1) := by decide +kernel
theorem dX6_cut_77 : decode cX6_cut 77 = .ok (.getfield 30, 3) := by decide +kernel
theorem dX6_cut_80 : decode cX6_cut 80 = .ok (.getfield 193, 3) := by decide +kernel
theorem dX6_cut_83 : decode cX6_cut 83 = .ok (.aload_n 0, 1) := by decide +kernel
theorem dX6_cut_84 : decode cX6_cut 84 = .ok (.getfield 44, 3) := by decide +kernel
theorem dX6_cut_87 : decode cX6_cut 87 = .ok (.getfield 196, 3) := by decide +kernel
theorem dX6_cut_90 : decode cX6_cut 90 = .ok (.invokestatic 199, 3) := by decide +kernel
theorem dX6_cut_93 : decode cX6_cut 93 = .ok (.ireturn, 1) := by decide +kernel
theorem dX6_cut_94 : decode cX6_cut 94 = .ok (.aload_n 0, 1) := by decide +kernel
theorem dX6_cut_95 : decode cX6_cut 95 = .ok (.getfield 30, 3) := by decide +kernel
theorem dX6_cut_98 : decode cX6_cut 98 = .ok (.getfield 184, 3) := by decide +kernel
theorem dX6_cut_101 : decode cX6_cut 101 = .ok (.aload_n 0, 1) := by decide +kernel
theorem dX6_cut_102 : decode cX6_cut 102 = .ok (.getfield 44, 3) := by decide +kernel
theorem dX6_cut_105 : decode cX6_cut 105 = .ok (.getfield 196, 3) := by decide +kernel
theorem dX6_cut_108 : decode cX6_cut 108 = .ok (.imul, 1) := by decide +kernel
theorem dX6_cut_109 : decode cX6_cut 109 = .ok (.aload_n 0, 1) := by decide +kernel
theorem dX6_cut_110 : decode cX6_cut 110 = .ok (.getfield 30, 3) := by decide +kernel
theorem dX6_cut_113 : decode cX6_cut 113 = .ok (.getfield 193, 3) := by decide +kernel
theorem dX6_cut_116 : decode cX6_cut 116 = .ok (.isub, 1) := by decide +kernel
theorem dX6_cut_117 : decode cX6_cut 117 = .ok (.ireturn, 1) := by decide +kernel
theorem dX6_board_0 : decode cX6_board 0 = .ok (.iload_n 1, 1) := by decide +kernel
theorem dX6_board_1 : decode cX6_board 1 = .ok (.ifCond .lt 12, 3) := by decide +kernel
theorem dX6_board_4 : decode cX6_board 4 = .ok (.iload_n 2, 1) := by decide +kernel
theorem dX6_board_5 : decode cX6_board 5 = .ok (.ifCond .lt 8, 3) := by decide +kernel
theorem dX6_board_8 : decode cX6_board 8 = .ok (.iload_n 2, 1) := by decide +kernel
theorem dX6_board_9 : decode cX6_board 9 = .ok (.iconst 2, 1) := by decide +kernel
theorem dX6_board_10 : decode cX6_board 10 = .ok (.if_icmp .le 5, 3) := by decide +kernel
theorem dX6_board_13 : decode cX6_board 13 = .ok (.iconst (-1), 1) := by decide +kernel
theorem dX6_board_14 : decode cX6_board 14 = .ok (.ireturn, 1) := by decide +kernel
theorem dX6_board_15 : decode cX6_board 15 = .ok (.aload_n 0, 1) := by decide +kernel
theorem dX6_board_16 : decode cX6_board 16 = .ok (.getfield 30, 3) := by decide +kernel
theorem dX6_board_19 : decode cX6_board 19 = .ok (.aload_n 0, 1) := by decide +kernel
theorem dX6_board_20 : decode cX6_board 20 = .ok (.getfield 44, 3) := by decide +kernel
theorem dX6_board_23 : decode cX6_board 23 = .ok (.invokevirtual 181, 3) := by decide +kernel
theorem dX6_board_26 : decode cX6_board 26 = .ok (.iload_n 1, 1) := by decide +kernel
theorem dX6_board_27 : decode cX6_board 27 = .ok (.aload_n 0, 1) := by decide +kernel
theorem dX6_board_28 : decode cX6_board 28 = .ok (.getfield 30, 3) := by decide +kernel
theorem dX6_board_31 : decode cX6_board 31 = .ok (.getfield 184, 3) := by decide +kernel
theorem dX6_board_34 : decode cX6_board 34 = .ok (.if_icmp .ge 10, 3) := by decide +kernel
theorem dX6_board_37 : decode cX6_board 37 = .ok (.iload_n 1, 1) := by decide +kernel
theorem dX6_board_38 : decode cX6_board 38 = .ok (.sipush 160, 3) := by decide +kernel
theorem dX6_board_41 : decode cX6_board 41 = .ok (.if_icmp .lt 5, 3) := by decide +kernel
theorem dX6_board_44 : decode cX6_board 44 = .ok (.iconst (-1), 1) := by decide +kernel
theorem dX6_board_45 : decode cX6_board 45 = .ok (.ireturn, 1) := by decide +kernel
theorem dX6_board_46 : decode cX6_board 46 = .ok (.iload_n 2, 1) := by decide +kernel
theorem dX6_board_47 : decode cX6_board 47 = .ok (.lookupswitch 44 #[(0, 25), (1, 35)], 25) := by decide +kernel
theorem dX6_board_72 : decode cX6_board 72 = .ok (.aload_n 0, 1) := by decide +kernel
theorem dX6_board_73 : decode cX6_board 73 = .ok (.getfield 30, 3) := by decide +kernel
theorem dX6_board_76 : decode cX6_board 76 = .ok (.getfield 202, 3) := by decide +kernel
theorem dX6_board_79 : decode cX6_board 79 = .ok (.iload_n 1, 1) := by decide +kernel
theorem dX6_board_80 : decode cX6_board 80 = .ok (.iaload, 1) := by decide +kernel
theorem dX6_board_81 : decode cX6_board 81 = .ok (.ireturn, 1) := by decide +kernel
theorem dX6_board_82 : decode cX6_board 82 = .ok (.aload_n 0, 1) := by decide +kernel
theorem dX6_board_83 : decode cX6_board 83 = .ok (.getfield 30, 3) := by decide +kernel
theorem dX6_board_86 : decode cX6_board 86 = .ok (.iload_n 1, 1) := by decide +kernel
theorem dX6_board_87 : decode cX6_board 87 = .ok (.invokevirtual 206, 3) := by decide +kernel
theorem dX6_board_90 : decode cX6_board 90 = .ok (.ireturn, 1) := by decide +kernel
theorem dX6_board_91 : decode cX6_board 91 = .ok (.aload_n 0, 1) := by decide +kernel
theorem dX6_board_92 : decode cX6_board 92 = .ok (.getfield 30, 3) := by decide +kernel
theorem dX6_board_95 : decode cX6_board 95 = .ok (.getfield 209, 3) := by decide +kernel
theorem dX6_board_98 : decode cX6_board 98 = .ok (.iload_n 1, 1) := by decide +kernel
theorem dX6_board_99 : decode cX6_board 99 = .ok (.iaload, 1) := by decide +kernel
theorem dX6_board_100 : decode cX6_board 100 = .ok (.ireturn, 1) := by decide +kernel
theorem dX6_where_0 : decode cX6_where 0 = .ok (.aload_n 0, 1) := by decide +kernel
theorem dX6_where_1 : decode cX6_where 1 = .ok (.getfield 44, 3) := by decide +kernel
theorem dX6_where_4 : decode cX6_where 4 = .ok (.iload_n 1, 1) := by decide +kernel
theorem dX6_where_5 : decode cX6_where 5 = .ok (.invokevirtual 67, 3) := by decide +kernel
theorem dX6_where_8 : decode cX6_where 8 = .ok (.astore_n 3, 1) := by decide +kernel
theorem dX6_where_9 : decode cX6_where 9 = .ok (.aload_n 3, 1) := by decide +kernel
theorem dX6_where_10 : decode cX6_where 10 = .ok (.ifnull 11, 3) := by decide +kernel
theorem dX6_where_13 : decode cX6_where 13 = .ok (.aload_n 3, 1) := by decide +kernel
theorem dX6_where_14 : decode cX6_where 14 = .ok (.iload_n 2, 1) := by decide +kernel
theorem dX6_where_15 : decode cX6_where 15 = .ok (.invokevirtual 163, 3) := by decide +kernel
theorem dX6_where_18 : decode cX6_where 18 = .ok (.ifCond .ne 5, 3) := by decide +kernel
theorem dX6_where_21 : decode cX6_where 21 = .ok (.iconst (-1), 1) := by decide +kernel
theorem dX6_where_22 : decode cX6_where 22 = .ok (.ireturn, 1) := by decide +kernel
theorem dX6_where_23 : decode cX6_where 23 = .ok (.aload_n 0, 1) := by decide +kernel
theorem dX6_where_24 : decode cX6_where 24 = .ok (.getfield 30, 3) := by decide +kernel
theorem dX6_where_27 : decode cX6_where 27 = .ok (.aload_n 0, 1) := by decide +kernel
theorem dX6_where_28 : decode cX6_where 28 = .ok (.getfield 44, 3) := by decide +kernel
theorem dX6_where_31 : decode cX6_where 31 = .ok (.invokevirtual 181, 3) := by decide +kernel
theorem dX6_where_34 : decode cX6_where 34 = .ok (.aload_n 0, 1) := by decide +kernel
theorem dX6_where_35 : decode cX6_where 35 = .ok (.getfield 30, 3) := by decide +kernel
theorem dX6_where_38 : decode cX6_where 38 = .ok (.aload_n 0, 1) := by decide +kernel
theorem dX6_where_39 : decode cX6_where 39 = .ok (.getfield 44, 3) := by decide +kernel
theorem dX6_where_42 : decode cX6_where 42 = .ok (.iload_n 1, 1) := by decide +kernel
theorem dX6_where_43 : decode cX6_where 43 = .ok (.invokevirtual 212, 3) := by decide +kernel
theorem dX6_where_46 : decode cX6_where 46 = .ok (.iload_n 2, 1) := by decide +kernel
theorem dX6_where_47 : decode cX6_where 47 = .ok (.iadd, 1) := by decide +kernel
theorem dX6_where_48 : decode cX6_where 48 = .ok (.invokevirtual 215, 3) := by decide +kernel
theorem dX6_where_51 : decode cX6_where 51 = .ok (.ireturn, 1) := by decide +kernel
theorem dX6_best_0 : decode cX6_best 0 = .ok (.aload_n 0, 1) := by decide +kernel
theorem dX6_best_1 : decode cX6_best 1 = .ok (.getfield 44, 3) := by decide +kernel
theorem dX6_best_4 : decode cX6_best 4 = .ok (.iload_n 1, 1) := by decide +kernel
theorem dX6_best_5 : decode cX6_best 5 = .ok (.invokevirtual 67, 3) := by decide +kernel
theorem dX6_best_8 : decode cX6_best 8 = .ok (.astore_n 3, 1) := by decide +kernel
theorem dX6_best_9 : decode cX6_best 9 = .ok (.aload_n 3, 1) := by decide +kernel
theorem dX6_best_10 : decode cX6_best 10 = .ok (.ifnull 12, 3) := by decide +kernel
theorem dX6_best_13 : decode cX6_best 13 = .ok (.iload_n 2, 1) := by decide +kernel
theorem dX6_best_14 : decode cX6_best 14 = .ok (.ifCond .lt 8, 3) := by decide +kernel
theorem dX6_best_17 : decode cX6_best 17 = .ok (.iload_n 2, 1) := by decide +kernel
theorem dX6_best_18 : decode cX6_best 18 = .ok (.iconst 1, 1) := by decide +kernel
theorem dX6_best_19 : decode cX6_best 19 = .ok (.if_icmp .le 5, 3) := by decide +kernel
theorem dX6_best_22 : decode cX6_best 22 = .ok (.iconst (-1), 1) := by decide +kernel
theorem dX6_best_23 : decode cX6_best 23 = .ok (.ireturn, 1) := by decide +kernel
theorem dX6_best_24 : decode cX6_best 24 = .ok (.iconst 0, 1) := by decide +kernel
theorem dX6_best_25 : decode cX6_best 25 = .ok (.istore 4, 2) := by decide +kernel
theorem dX6_best_27 : decode cX6_best 27 = .ok (.iconst 0, 1) := by decide +kernel
theorem dX6_best_28 : decode cX6_best 28 = .ok (.istore 5, 2) := by decide +kernel
theorem dX6_best_30 : decode cX6_best 30 = .ok (.iconst 0, 1) := by decide +kernel
theorem dX6_best_31 : decode cX6_best 31 = .ok (.istore 6, 2) := by decide +kernel
theorem dX6_best_33 : decode cX6_best 33 = .ok (.iconst 0, 1) := by decide +kernel
theorem dX6_best_34 : decode cX6_best 34 = .ok (.istore 7, 2) := by decide +kernel
theorem dX6_best_36 : decode cX6_best 36 = .ok (.iconst 0, 1) := by decide +kernel
theorem dX6_best_37 : decode cX6_best 37 = .ok (.istore 8, 2) := by decide +kernel
theorem dX6_best_39 : decode cX6_best 39 = .ok (.iload 8, 2) := by decide +kernel
theorem dX6_best_41 : decode cX6_best 41 = .ok (.aload_n 3, 1) := by decide +kernel
theorem dX6_best_42 : decode cX6_best 42 = .ok (.getfield 131, 3) := by decide +kernel
theorem dX6_best_45 : decode cX6_best 45 = .ok (.if_icmp .ge 75, 3) := by decide +kernel
theorem dX6_best_48 : decode cX6_best 48 = .ok (.aload_n 0, 1) := by decide +kernel
theorem dX6_best_49 : decode cX6_best 49 = .ok (.getfield 30, 3) := by decide +kernel
theorem dX6_best_52 : decode cX6_best 52 = .ok (.aload_n 0, 1) := by decide +kernel
theorem dX6_best_53 : decode cX6_best 53 = .ok (.getfield 44, 3) := by decide +kernel
theorem dX6_best_56 : decode cX6_best 56 = .ok (.iload_n 1, 1) := by decide +kernel
theorem dX6_best_57 : decode cX6_best 57 = .ok (.iload 8, 2) := by decide +kernel
theorem dX6_best_59 : decode cX6_best 59 = .ok (.invokevirtual 218, 3) := by decide +kernel
theorem dX6_best_62 : decode cX6_best 62 = .ok (.iload 8, 2) := by decide +kernel
theorem dX6_best_64 : decode cX6_best 64 = .ok (.ifCond .eq 19, 3) := by decide +kernel
theorem dX6_best_67 : decode cX6_best 67 = .ok (.aload_n 0, 1) := by decide +kernel
theorem dX6_best_68 : decode cX6_best 68 = .ok (.getfield 30, 3) := by decide +kernel
theorem dX6_best_71 : decode cX6_best 71 = .ok (.iload 5, 2) := by decide +kernel
theorem dX6_best_73 : decode cX6_best 73 = .ok (.iload 6, 2) := by decide +kernel
theorem dX6_best_75 : decode cX6_best 75 = .ok (.iload 7, 2) := by decide +kernel
theorem dX6_best_77 : decode cX6_best 77 = .ok (.invokevirtual 222, 3) := by decide +kernel
theorem dX6_best_80 : decode cX6_best 80 = .ok (.ifCond .eq 34, 3) := by decide +kernel
theorem dX6_best_83 : decode cX6_best 83 = .ok (.iload 8, 2) := by decide +kernel
theorem dX6_best_85 : decode cX6_best 85 = .ok (.istore 4, 2) := by decide +kernel
theorem dX6_best_87 : decode cX6_best 87 = .ok (.aload_n 0, 1) := by decide +kernel
theorem dX6_best_88 : decode cX6_best 88 = .ok (.getfield 30, 3) := by decide +kernel
theorem dX6_best_91 : decode cX6_best 91 = .ok (.getfield 190, 3) := by decide +kernel
theorem dX6_best_94 : decode cX6_best 94 = .ok (.istore 5, 2) := by decide +kernel
theorem dX6_best_96 : decode cX6_best 96 = .ok (.aload_n 0, 1) := by decide +kernel
theorem dX6_best_97 : decode cX6_best 97 = .ok (.getfield 30, 3) := by decide +kernel
theorem dX6_best_100 : decode cX6_best 100 = .ok (.getfield 184, 3) := by decide +kernel
theorem dX6_best_103 : decode cX6_best 103 = .ok (.istore 6, 2) := by decide +kernel
theorem dX6_best_105 : decode cX6_best 105 = .ok (.aload_n 0, 1) := by decide +kernel
theorem dX6_best_106 : decode cX6_best 106 = .ok (.getfield 30, 3) := by decide +kernel
theorem dX6_best_109 : decode cX6_best 109 = .ok (.invokevirtual 226, 3) := by decide +kernel
theorem dX6_best_112 : decode cX6_best 112 = .ok (.istore 7, 2) := by decide +kernel
theorem dX6_best_114 : decode cX6_best 114 = .ok (.iinc 8 1, 3) := by decide +kernel
theorem dX6_best_117 : decode cX6_best 117 = .ok (.goto (-78), 3) := by decide +kernel
theorem dX6_best_120 : decode cX6_best 120 = .ok (.iload_n 2, 1) := by decide +kernel
theorem dX6_best_121 : decode cX6_best 121 = .ok (.ifCond .ne 8, 3) := by decide +kernel
theorem dX6_best_124 : decode cX6_best 124 = .ok (.iload 4, 2) := by decide +kernel
theorem dX6_best_126 : decode cX6_best 126 = .ok (.goto 5, 3) := by decide +kernel
theorem dX6_best_129 : decode cX6_best 129 = .ok (.iload 6, 2) := by decide +kernel
theorem dX6_best_131 : decode cX6_best 131 = .ok (.ireturn, 1) := by decide +kernel
theorem dX6_count_0 : decode cX6_count 0 = .ok (.iload_n 1, 1) := by decide +kernel
theorem dX6_count_1 : decode cX6_count 1 = .ok (.tableswitch 98 0 6 #[43, 52, 60, 68, 76, 84, 89], 43) := by decide +kernel
theorem dX6_count_44 : decode cX6_count 44 = .ok (.aload_n 0, 1) := by decide +kernel
theorem dX6_count_45 : decode cX6_count 45 = .ok (.getfield 44, 3) := by decide +kernel
theorem dX6_count_48 : decode cX6_count 48 = .ok (.getfield 63, 3) := by decide +kernel
theorem dX6_count_51 : decode cX6_count 51 = .ok (.arraylength, 1) := by decide +kernel
theorem dX6_count_52 : decode cX6_count 52 = .ok (.ireturn, 1) := by decide +kernel
theorem dX6_count_53 : decode cX6_count 53 = .ok (.aload_n 0, 1) := by decide +kernel
theorem dX6_count_54 : decode cX6_count 54 = .ok (.getfield 44, 3) := by decide +kernel
theorem dX6_count_57 : decode cX6_count 57 = .ok (.getfield 229, 3) := by decide +kernel
theorem dX6_count_60 : decode cX6_count 60 = .ok (.ireturn, 1) := by decide +kernel
theorem dX6_count_61 : decode cX6_count 61 = .ok (.aload_n 0, 1) := by decide +kernel
theorem dX6_count_62 : decode cX6_count 62 = .ok (.getfield 44, 3) := by decide +kernel
theorem dX6_count_65 : decode cX6_count 65 = .ok (.getfield 196, 3) := by decide +kernel
theorem dX6_count_68 : decode cX6_count 68 = .ok (.ireturn, 1) := by decide +kernel
theorem dX6_count_69 : decode cX6_count 69 = .ok (.aload_n 0, 1) := by decide +kernel
theorem dX6_count_70 : decode cX6_count 70 = .ok (.getfield 44, 3) := by decide +kernel
theorem dX6_count_73 : decode cX6_count 73 = .ok (.getfield 232, 3) := by decide +kernel
theorem dX6_count_76 : decode cX6_count 76 = .ok (.ireturn, 1) := by decide +kernel
theorem dX6_count_77 : decode cX6_count 77 = .ok (.aload_n 0, 1) := by decide +kernel
theorem dX6_count_78 : decode cX6_count 78 = .ok (.getfield 23, 3) := by decide +kernel
theorem dX6_count_81 : decode cX6_count 81 = .ok (.getfield 103, 3) := by decide +kernel
theorem dX6_count_84 : decode cX6_count 84 = .ok (.ireturn, 1) := by decide +kernel
theorem dX6_count_85 : decode cX6_count 85 = .ok (.aload_n 0, 1) := by decide +kernel
theorem dX6_count_86 : decode cX6_count 86 = .ok (.getfield 48, 3) := by decide +kernel
theorem dX6_count_89 : decode cX6_count 89 = .ok (.ireturn, 1) := by decide +kernel
theorem dX6_count_90 : decode cX6_count 90 = .ok (.aload_n 0, 1) := by decide +kernel
theorem dX6_count_91 : decode cX6_count 91 = .ok (.getfield 44, 3) := by decide +kernel
theorem dX6_count_94 : decode cX6_count 94 = .ok (.iconst 4, 1) := by decide +kernel
theorem dX6_count_95 : decode cX6_count 95 = .ok (.invokevirtual 212, 3) := by decide +kernel
theorem dX6_count_98 : decode cX6_count 98 = .ok (.ireturn, 1) := by decide +kernel
theorem dX6_count_99 : decode cX6_count 99 = .ok (.iconst (-1), 1) := by decide +kernel
theorem dX6_count_100 : decode cX6_count 100 = .ok (.ireturn, 1) := by decide +kernel
end
section
theorem dX7_init_0 : decode cX7_init 0 = .ok (.aload_n 0, 1) := by decide +kernel
theorem dX7_init_1 : decode cX7_init 1 = .ok (.invokespecial 1, 3) := by decide +kernel
theorem dX7_init_4 : decode cX7_init 4 = .ok (.aload_n 0, 1) := by decide +kernel
theorem dX7_init_5 : decode cX7_init 5 = .ok (.sipush 200, 3) := by decide +kernel
theorem dX7_init_8 : decode cX7_init 8 = .ok (.newarray .int, 2) := by decide +kernel
theorem dX7_init_10 : decode cX7_init 10 = .ok (.putfield 7, 3) := by decide +kernel
theorem dX7_init_13 : decode cX7_init 13 = .ok (.aload_n 0, 1) := by decide +kernel
theorem dX7_init_14 : decode cX7_init 14 = .ok (.bipush 24, 2) := by decide +kernel
theorem dX7_init_16 : decode cX7_init 16 = .ok (.newarray .int, 2) := by decide +kernel
theorem dX7_init_18 : decode cX7_init 18 = .ok (.putfield 13, 3) := by decide +kernel
theorem dX7_init_21 : decode cX7_init 21 = .ok (.aload_n 0, 1) := by decide +kernel
theorem dX7_init_22 : decode cX7_init 22 = .ok (.bipush 24, 2) := by decide +kernel
theorem dX7_init_24 : decode cX7_init 24 = .ok (.newarray .int, 2) := by decide +kernel
theorem dX7_init_26 : decode cX7_init 26 = .ok (.putfield 16, 3) := by decide +kernel
theorem dX7_init_29 : decode cX7_init 29 = .ok (.aload_n 0, 1) := by decide +kernel
theorem dX7_init_30 : decode cX7_init 30 = .ok (.sipush 144, 3) := by decide +kernel
theorem dX7_init_33 : decode cX7_init 33 = .ok (.newarray .int, 2) := by decide +kernel
theorem dX7_init_35 : decode cX7_init 35 = .ok (.putfield 19, 3) := by decide +kernel
theorem dX7_init_38 : decode cX7_init 38 = .ok (.aload_n 0, 1) := by decide +kernel
theorem dX7_init_39 : decode cX7_init 39 = .ok (.sipush 160, 3) := by decide +kernel
theorem dX7_init_42 : decode cX7_init 42 = .ok (.newarray .int, 2) := by decide +kernel
theorem dX7_init_44 : decode cX7_init 44 = .ok (.putfield 22, 3) := by decide +kernel
theorem dX7_init_47 : decode cX7_init 47 = .ok (.aload_n 0, 1) := by decide +kernel
theorem dX7_init_48 : decode cX7_init 48 = .ok (.sipush 160, 3) := by decide +kernel
theorem dX7_init_51 : decode cX7_init 51 = .ok (.newarray .int, 2) := by decide +kernel
theorem dX7_init_53 : decode cX7_init 53 = .ok (.putfield 25, 3) := by decide +kernel
theorem dX7_init_56 : decode cX7_init 56 = .ok (.aload_n 0, 1) := by decide +kernel
theorem dX7_init_57 : decode cX7_init 57 = .ok (.sipush 160, 3) := by decide +kernel
theorem dX7_init_60 : decode cX7_init 60 = .ok (.newarray .int, 2) := by decide +kernel
theorem dX7_init_62 : decode cX7_init 62 = .ok (.putfield 28, 3) := by decide +kernel
theorem dX7_init_65 : decode cX7_init 65 = .ok (.aload_n 0, 1) := by decide +kernel
theorem dX7_init_66 : decode cX7_init 66 = .ok (.sipush 160, 3) := by decide +kernel
theorem dX7_init_69 : decode cX7_init 69 = .ok (.newarray .int, 2) := by decide +kernel
theorem dX7_init_71 : decode cX7_init 71 = .ok (.putfield 31, 3) := by decide +kernel
theorem dX7_init_74 : decode cX7_init 74 = .ok (.aload_n 0, 1) := by decide +kernel
theorem dX7_init_75 : decode cX7_init 75 = .ok (.sipush 160, 3) := by decide +kernel
theorem dX7_init_78 : decode cX7_init 78 = .ok (.newarray .int, 2) := by decide +kernel
theorem dX7_init_80 : decode cX7_init 80 = .ok (.putfield 34, 3) := by decide +kernel
theorem dX7_init_83 : decode cX7_init 83 = .ok (.aload_n 0, 1) := by decide +kernel
theorem dX7_init_84 : decode cX7_init 84 = .ok (.iconst 0, 1) := by decide +kernel
theorem dX7_init_85 : decode cX7_init 85 = .ok (.iconst 0, 1) := by decide +kernel
theorem dX7_init_86 : decode cX7_init 86 = .ok (.bipush 7, 2) := by decide +kernel
theorem dX7_init_88 : decode cX7_init 88 = .ok (.iconst 1, 1) := by decide +kernel
theorem dX7_init_89 : decode cX7_init 89 = .ok (.iconst 0, 1) := by decide +kernel
theorem dX7_init_90 : decode cX7_init 90 = .ok (.bipush 14, 2) := by decide +kernel
theorem dX7_init_92 : decode cX7_init 92 = .ok (.invokevirtual 37, 3) := by decide +kernel
theorem dX7_init_95 : decode cX7_init 95 = .ok (.aload_n 0, 1) := by decide +kernel
theorem dX7_init_96 : decode cX7_init 96 = .ok (.iconst 1, 1) := by decide +kernel
theorem dX7_init_97 : decode cX7_init 97 = .ok (.iconst 1, 1) := by decide +kernel
theorem dX7_init_98 : decode cX7_init 98 = .ok (.bipush 11, 2) := by decide +kernel
theorem dX7_init_100 : decode cX7_init 100 = .ok (.iconst 2, 1) := by decide +kernel
theorem dX7_init_101 : decode cX7_init 101 = .ok (.iconst 3, 1) := by decide +kernel
theorem dX7_init_102 : decode cX7_init 102 = .ok (.bipush 10, 2) := by decide +kernel
theorem dX7_init_104 : decode cX7_init 104 = .ok (.invokevirtual 37, 3) := by decide +kernel
theorem dX7_init_107 : decode cX7_init 107 = .ok (.aload_n 0, 1) := by decide +kernel
theorem dX7_init_108 : decode cX7_init 108 = .ok (.iconst 2, 1) := by decide +kernel
theorem dX7_init_109 : decode cX7_init 109 = .ok (.iconst 2, 1) := by decide +kernel
theorem dX7_init_110 : decode cX7_init 110 = .ok (.bipush 13, 2) := by decide +kernel
theorem dX7_init_112 : decode cX7_init 112 = .ok (.iconst 4, 1) := by decide +kernel
theorem dX7_init_113 : decode cX7_init 113 = .ok (.iconst 0, 1) := by decide +kernel
theorem dX7_init_114 : decode cX7_init 114 = .ok (.bipush 13, 2) := by decide +kernel
theorem dX7_init_116 : decode cX7_init 116 = .ok (.invokevirtual 37, 3) := by decide +kernel
theorem dX7_init_119 : decode cX7_init 119 = .ok (.aload_n 0, 1) := by decide +kernel
theorem dX7_init_120 : decode cX7_init 120 = .ok (.getfield 13, 3) := by decide +kernel
theorem dX7_init_123 : decode cX7_init 123 = .ok (.bipush 20, 2) := by decide +kernel
theorem dX7_init_125 : decode cX7_init 125 = .ok (.iconst 3, 1) := by decide +kernel
theorem dX7_init_126 : decode cX7_init 126 = .ok (.iastore, 1) := by decide +kernel
theorem dX7_init_127 : decode cX7_init 127 = .ok (.aload_n 0, 1) := by decide +kernel
theorem dX7_init_128 : decode cX7_init 128 = .ok (.getfield 13, 3) := by decide +kernel
theorem dX7_init_131 : decode cX7_init 131 = .ok (.bipush 21, 2) := by decide +kernel
theorem dX7_init_133 : decode cX7_init 133 = .ok (.iconst 3, 1) := by decide +kernel
theorem dX7_init_134 : decode cX7_init 134 = .ok (.iastore, 1) := by decide +kernel
theorem dX7_init_135 : decode cX7_init 135 = .ok (.aload_n 0, 1) := by decide +kernel
theorem dX7_init_136 : decode cX7_init 136 = .ok (.getfield 13, 3) := by decide +kernel
theorem dX7_init_139 : decode cX7_init 139 = .ok (.bipush 22, 2) := by decide +kernel
theorem dX7_init_141 : decode cX7_init 141 = .ok (.bipush 40, 2) := by decide +kernel
theorem dX7_init_143 : decode cX7_init 143 = .ok (.iastore, 1) := by decide +kernel
theorem dX7_init_144 : decode cX7_init 144 = .ok (.aload_n 0, 1) := by decide +kernel
theorem dX7_init_145 : decode cX7_init 145 = .ok (.getfield 13, 3) := by decide +kernel
theorem dX7_init_148 : decode cX7_init 148 = .ok (.bipush 23, 2) := by decide +kernel
theorem dX7_init_150 : decode cX7_init 150 = .ok (.iconst 1, 1) := by decide +kernel
theorem dX7_init_151 : decode cX7_init 151 = .ok (.iastore, 1) := by decide +kernel
theorem dX7_init_152 : decode cX7_init 152 = .ok (.return_, 1) := by decide +kernel
theorem dX7_tells_0 : decode cX7_tells 0 = .ok (.aload_n 0, 1) := by decide +kernel
theorem dX7_tells_1 : decode cX7_tells 1 = .ok (.getfield 13, 3) := by decide +kernel
theorem dX7_tells_4 : decode cX7_tells 4 = .ok (.iconst 5, 1) := by decide +kernel
theorem dX7_tells_5 : decode cX7_tells 5 = .ok (.iload_n 1, 1) := by decide +kernel
theorem dX7_tells_6 : decode cX7_tells 6 = .ok (.imul, 1) := by decide +kernel
theorem dX7_tells_7 : decode cX7_tells 7 = .ok (.iload_n 2, 1) := by decide +kernel
theorem dX7_tells_8 : decode cX7_tells 8 = .ok (.iastore, 1) := by decide +kernel
theorem dX7_tells_9 : decode cX7_tells 9 = .ok (.aload_n 0, 1) := by decide +kernel
theorem dX7_tells_10 : decode cX7_tells 10 = .ok (.getfield 13, 3) := by decide +kernel
theorem dX7_tells_13 : decode cX7_tells 13 = .ok (.iconst 5, 1) := by decide +kernel
theorem dX7_tells_14 : decode cX7_tells 14 = .ok (.iload_n 1, 1) := by decide +kernel
theorem dX7_tells_15 : decode cX7_tells 15 = .ok (.imul, 1) := by decide +kernel
theorem dX7_tells_16 : decode cX7_tells 16 = .ok (.iconst 1, 1) := by decide +kernel
theorem dX7_tells_17 : decode cX7_tells 17 = .ok (.iadd, 1) := by decide +kernel
theorem dX7_tells_18 : decode cX7_tells 18 = .ok (.iload_n 3, 1) := by decide +kernel
theorem dX7_tells_19 : decode cX7_tells 19 = .ok (.iastore, 1) := by decide +kernel
theorem dX7_tells_20 : decode cX7_tells 20 = .ok (.aload_n 0, 1) := by decide +kernel
theorem dX7_tells_21 : decode cX7_tells 21 = .ok (.getfield 13, 3) := by decide +kernel
theorem dX7_tells_24 : decode cX7_tells 24 = .ok (.iconst 5, 1) := by decide +kernel
theorem dX7_tells_25 : decode cX7_tells 25 = .ok (.iload_n 1, 1) := by decide +kernel
theorem dX7_tells_26 : decode cX7_tells 26 = .ok (.imul, 1) := by decide +kernel
theorem dX7_tells_27 : decode cX7_tells 27 = .ok (.iconst 2, 1) := by decide +kernel
theorem dX7_tells_28 : decode cX7_tells 28 = .ok (.iadd, 1) := by decide +kernel
theorem dX7_tells_29 : decode cX7_tells 29 = .ok (.iload 4, 2) := by decide +kernel
theorem dX7_tells_31 : decode cX7_tells 31 = .ok (.iastore, 1) := by decide +kernel
theorem dX7_tells_32 : decode cX7_tells 32 = .ok (.aload_n 0, 1) := by decide +kernel
theorem dX7_tells_33 : decode cX7_tells 33 = .ok (.getfield 13, 3) := by decide +kernel
theorem dX7_tells_36 : decode cX7_tells 36 = .ok (.iconst 5, 1) := by decide +kernel
theorem dX7_tells_37 : decode cX7_tells 37 = .ok (.iload_n 1, 1) := by decide +kernel
theorem dX7_tells_38 : decode cX7_tells 38 = .ok (.imul, 1) := by decide +kernel
theorem dX7_tells_39 : decode cX7_tells 39 = .ok (.iconst 3, 1) := by decide +kernel
theorem dX7_tells_40 : decode cX7_tells 40 = .ok (.iadd, 1) := by decide +kernel
theorem dX7_tells_41 : decode cX7_tells 41 = .ok (.iload 5, 2) := by decide +kernel
theorem dX7_tells_43 : decode cX7_tells 43 = .ok (.iastore, 1) := by decide +kernel
theorem dX7_tells_44 : decode cX7_tells 44 = .ok (.aload_n 0, 1) := by decide +kernel
theorem dX7_tells_45 : decode cX7_tells 45 = .ok (.getfield 13, 3) := by decide +kernel
theorem dX7_tells_48 : decode cX7_tells 48 = .ok (.iconst 5, 1) := by decide +kernel
theorem dX7_tells_49 : decode cX7_tells 49 = .ok (.iload_n 1, 1) := by decide +kernel
theorem dX7_tells_50 : decode cX7_tells 50 = .ok (.imul, 1) := by decide +kernel
theorem dX7_tells_51 : decode cX7_tells 51 = .ok (.iconst 4, 1) := by decide +kernel
theorem dX7_tells_52 : decode cX7_tells 52 = .ok (.iadd, 1) := by decide +kernel
theorem dX7_tells_53 : decode cX7_tells 53 = .ok (.iload 6, 2) := by decide +kernel
theorem dX7_tells_55 : decode cX7_tells 55 = .ok (.iastore, 1) := by decide +kernel
theorem dX7_tells_56 : decode cX7_tells 56 = .ok (.return_, 1) := by decide +kernel
theorem dX7_in_0 : decode cX7_in 0 = .ok (.lload_n 0, 1) := by decide +kernel
theorem dX7_in_1 : decode cX7_in 1 = .ok (.lload_n 2, 1) := by decide +kernel
theorem dX7_in_2 : decode cX7_in 2 = .ok (.lcmp, 1) := by decide +kernel
theorem dX7_in_3 : decode cX7_in 3 = .ok (.ifCond .lt 14, 3) := by decide +kernel
theorem dX7_in_6 : decode cX7_in 6 = .ok (.lload_n 0, 1) := by decide +kernel
theorem dX7_in_7 : decode cX7_in 7 = .ok (.lload 4, 2) := by decide +kernel
theorem dX7_in_9 : decode cX7_in 9 = .ok (.lcmp, 1) := by decide +kernel
theorem dX7_in_10 : decode cX7_in 10 = .ok (.ifCond .gt 7, 3) := by decide +kernel
theorem dX7_in_13 : decode cX7_in 13 = .ok (.iconst 1, 1) := by decide +kernel
theorem dX7_in_14 : decode cX7_in 14 = .ok (.goto 4, 3) := by decide +kernel
theorem dX7_in_17 : decode cX7_in 17 = .ok (.iconst 0, 1) := by decide +kernel
theorem dX7_in_18 : decode cX7_in 18 = .ok (.ireturn, 1) := by decide +kernel
theorem dX7_isPrime_0 : decode cX7_isPrime 0 = .ok (.iload_n 0, 1) := by decide +kernel
theorem dX7_isPrime_1 : decode cX7_isPrime 1 = .ok (.iconst 2, 1) := by decide +kernel
theorem dX7_isPrime_2 : decode cX7_isPrime 2 = .ok (.if_icmp .le 13, 3) := by decide +kernel
theorem dX7_isPrime_5 : decode cX7_isPrime 5 = .ok (.iload_n 0, 1) := by decide +kernel
theorem dX7_isPrime_6 : decode cX7_isPrime 6 = .ok (.bipush 32, 2) := by decide +kernel
theorem dX7_isPrime_8 : decode cX7_isPrime 8 = .ok (.if_icmp .ge 7, 3) := by decide +kernel
theorem dX7_isPrime_11 : decode cX7_isPrime 11 = .ok (.iconst 1, 1) := by decide +kernel
theorem dX7_isPrime_12 : decode cX7_isPrime 12 = .ok (.goto 4, 3) := by decide +kernel
theorem dX7_isPrime_15 : decode cX7_isPrime 15 = .ok (.iconst 0, 1) := by decide +kernel
theorem dX7_isPrime_16 : decode cX7_isPrime 16 = .ok (.istore_n 1, 1) := by decide +kernel
theorem dX7_isPrime_17 : decode cX7_isPrime 17 = .ok (.iconst 2, 1) := by decide +kernel
theorem dX7_isPrime_18 : decode cX7_isPrime 18 = .ok (.istore_n 2, 1) := by decide +kernel
theorem dX7_isPrime_19 : decode cX7_isPrime 19 = .ok (.iload_n 2, 1) := by decide +kernel
theorem dX7_isPrime_20 : decode cX7_isPrime 20 = .ok (.iload_n 2, 1) := by decide +kernel
theorem dX7_isPrime_21 : decode cX7_isPrime 21 = .ok (.imul, 1) := by decide +kernel
theorem dX7_isPrime_22 : decode cX7_isPrime 22 = .ok (.iload_n 0, 1) := by decide +kernel
theorem dX7_isPrime_23 : decode cX7_isPrime 23 = .ok (.if_icmp .gt 25, 3) := by decide +kernel
theorem dX7_isPrime_26 : decode cX7_isPrime 26 = .ok (.iload_n 1, 1) := by decide +kernel
theorem dX7_isPrime_27 : decode cX7_isPrime 27 = .ok (.ifCond .eq 21, 3) := by decide +kernel
theorem dX7_isPrime_30 : decode cX7_isPrime 30 = .ok (.iload_n 0, 1) := by decide +kernel
theorem dX7_isPrime_31 : decode cX7_isPrime 31 = .ok (.iload_n 2, 1) := by decide +kernel
theorem dX7_isPrime_32 : decode cX7_isPrime 32 = .ok (.irem, 1) := by decide +kernel
theorem dX7_isPrime_33 : decode cX7_isPrime 33 = .ok (.ifCond .eq 7, 3) := by decide +kernel
theorem dX7_isPrime_36 : decode cX7_isPrime 36 = .ok (.iconst 1, 1) := by decide +kernel
theorem dX7_isPrime_37 : decode cX7_isPrime 37 = .ok (.goto 4, 3) := by decide +kernel
theorem dX7_isPrime_40 : decode cX7_isPrime 40 = .ok (.iconst 0, 1) := by decide +kernel
theorem dX7_isPrime_41 : decode cX7_isPrime 41 = .ok (.istore_n 1, 1) := by decide +kernel
theorem dX7_isPrime_42 : decode cX7_isPrime 42 = .ok (.iinc 2 1, 3) := by decide +kernel
theorem dX7_isPrime_45 : decode cX7_isPrime 45 = .ok (.goto (-26), 3) := by decide +kernel
theorem dX7_isPrime_48 : decode cX7_isPrime 48 = .ok (.iload_n 1, 1) := by decide +kernel
theorem dX7_isPrime_49 : decode cX7_isPrime 49 = .ok (.ireturn, 1) := by decide +kernel
theorem dX7_signOf_0 : decode cX7_signOf 0 = .ok (.iload_n 0, 1) := by decide +kernel
theorem dX7_signOf_1 : decode cX7_signOf 1 = .ok (.iload_n 1, 1) := by decide +kernel
theorem dX7_signOf_2 : decode cX7_signOf 2 = .ok (.irem, 1) := by decide +kernel
theorem dX7_signOf_3 : decode cX7_signOf 3 = .ok (.istore_n 2, 1) := by decide +kernel
theorem dX7_signOf_4 : decode cX7_signOf 4 = .ok (.iconst 1, 1) := by decide +kernel
theorem dX7_signOf_5 : decode cX7_signOf 5 = .ok (.istore_n 3, 1) := by decide +kernel
theorem dX7_signOf_6 : decode cX7_signOf 6 = .ok (.iload_n 3, 1) := by decide +kernel
theorem dX7_signOf_7 : decode cX7_signOf 7 = .ok (.iload_n 1, 1) := by decide +kernel
theorem dX7_signOf_8 : decode cX7_signOf 8 = .ok (.if_icmp .ge 24, 3) := by decide +kernel
theorem dX7_signOf_11 : decode cX7_signOf 11 = .ok (.iload_n 2, 1) := by decide +kernel
theorem dX7_signOf_12 : decode cX7_signOf 12 = .ok (.ifCond .le 20, 3) := by decide +kernel
theorem dX7_signOf_15 : decode cX7_signOf 15 = .ok (.iload_n 3, 1) := by decide +kernel
theorem dX7_signOf_16 : decode cX7_signOf 16 = .ok (.iload_n 3, 1) := by decide +kernel
theorem dX7_signOf_17 : decode cX7_signOf 17 = .ok (.imul, 1) := by decide +kernel
theorem dX7_signOf_18 : decode cX7_signOf 18 = .ok (.iload_n 1, 1) := by decide +kernel
theorem dX7_signOf_19 : decode cX7_signOf 19 = .ok (.irem, 1) := by decide +kernel
theorem dX7_signOf_20 : decode cX7_signOf 20 = .ok (.iload_n 2, 1) := by decide +kernel
theorem dX7_signOf_21 : decode cX7_signOf 21 = .ok (.if_icmp .ne 5, 3) := by decide +kernel
theorem dX7_signOf_24 : decode cX7_signOf 24 = .ok (.iconst 1, 1) := by decide +kernel
theorem dX7_signOf_25 : decode cX7_signOf 25 = .ok (.ireturn, 1) := by decide +kernel
theorem dX7_signOf_26 : decode cX7_signOf 26 = .ok (.iinc 3 1, 3) := by decide +kernel
theorem dX7_signOf_29 : decode cX7_signOf 29 = .ok (.goto (-23), 3) := by decide +kernel
theorem dX7_signOf_32 : decode cX7_signOf 32 = .ok (.iload_n 2, 1) := by decide +kernel
theorem dX7_signOf_33 : decode cX7_signOf 33 = .ok (.ifCond .ne 7, 3) := by decide +kernel
theorem dX7_signOf_36 : decode cX7_signOf 36 = .ok (.iconst 0, 1) := by decide +kernel
theorem dX7_signOf_37 : decode cX7_signOf 37 = .ok (.goto 4, 3) := by decide +kernel
theorem dX7_signOf_40 : decode cX7_signOf 40 = .ok (.iconst (-1), 1) := by decide +kernel
theorem dX7_signOf_41 : decode cX7_signOf 41 = .ok (.ireturn, 1) := by decide +kernel
theorem dX7_isRoot_0 : decode cX7_isRoot 0 = .ok (.iload_n 0, 1) := by decide +kernel
theorem dX7_isRoot_1 : decode cX7_isRoot 1 = .ok (.i2l, 1) := by decide +kernel
theorem dX7_isRoot_2 : decode cX7_isRoot 2 = .ok (.ldc2_w 41, 3) := by decide +kernel
theorem dX7_isRoot_5 : decode cX7_isRoot 5 = .ok (.iload_n 1, 1) := by decide +kernel
theorem dX7_isRoot_6 : decode cX7_isRoot 6 = .ok (.iconst 1, 1) := by decide +kernel
theorem dX7_isRoot_7 : decode cX7_isRoot 7 = .ok (.isub, 1) := by decide +kernel
theorem dX7_isRoot_8 : decode cX7_isRoot 8 = .ok (.i2l, 1) := by decide +kernel
theorem dX7_isRoot_9 : decode cX7_isRoot 9 = .ok (.invokestatic 43, 3) := by decide +kernel
theorem dX7_isRoot_12 : decode cX7_isRoot 12 = .ok (.ifCond .ne 5, 3) := by decide +kernel
theorem dX7_isRoot_15 : decode cX7_isRoot 15 = .ok (.iconst 0, 1) := by decide +kernel
theorem dX7_isRoot_16 : decode cX7_isRoot 16 = .ok (.ireturn, 1) := by decide +kernel
theorem dX7_isRoot_17 : decode cX7_isRoot 17 = .ok (.iload_n 0, 1) := by decide +kernel
theorem dX7_isRoot_18 : decode cX7_isRoot 18 = .ok (.istore_n 2, 1) := by decide +kernel
theorem dX7_isRoot_19 : decode cX7_isRoot 19 = .ok (.iconst 1, 1) := by decide +kernel
theorem dX7_isRoot_20 : decode cX7_isRoot 20 = .ok (.istore_n 3, 1) := by decide +kernel
theorem dX7_isRoot_21 : decode cX7_isRoot 21 = .ok (.iload_n 2, 1) := by decide +kernel
theorem dX7_isRoot_22 : decode cX7_isRoot 22 = .ok (.iconst 1, 1) := by decide +kernel
theorem dX7_isRoot_23 : decode cX7_isRoot 23 = .ok (.if_icmp .eq 15, 3) := by decide +kernel
theorem dX7_isRoot_26 : decode cX7_isRoot 26 = .ok (.iload_n 2, 1) := by decide +kernel
theorem dX7_isRoot_27 : decode cX7_isRoot 27 = .ok (.iload_n 0, 1) := by decide +kernel
theorem dX7_isRoot_28 : decode cX7_isRoot 28 = .ok (.imul, 1) := by decide +kernel
theorem dX7_isRoot_29 : decode cX7_isRoot 29 = .ok (.iload_n 1, 1) := by decide +kernel
theorem dX7_isRoot_30 : decode cX7_isRoot 30 = .ok (.irem, 1) := by decide +kernel
theorem dX7_isRoot_31 : decode cX7_isRoot 31 = .ok (.istore_n 2, 1) := by decide +kernel
theorem dX7_isRoot_32 : decode cX7_isRoot 32 = .ok (.iinc 3 1, 3) := by decide +kernel
theorem dX7_isRoot_35 : decode cX7_isRoot 35 = .ok (.goto (-14), 3) := by decide +kernel
theorem dX7_isRoot_38 : decode cX7_isRoot 38 = .ok (.iload_n 3, 1) := by decide +kernel
theorem dX7_isRoot_39 : decode cX7_isRoot 39 = .ok (.iload_n 1, 1) := by decide +kernel
theorem dX7_isRoot_40 : decode cX7_isRoot 40 = .ok (.iconst 1, 1) := by decide +kernel
theorem dX7_isRoot_41 : decode cX7_isRoot 41 = .ok (.isub, 1) := by decide +kernel
theorem dX7_isRoot_42 : decode cX7_isRoot 42 = .ok (.if_icmp .ne 7, 3) := by decide +kernel
theorem dX7_isRoot_45 : decode cX7_isRoot 45 = .ok (.iconst 1, 1) := by decide +kernel
theorem dX7_isRoot_46 : decode cX7_isRoot 46 = .ok (.goto 4, 3) := by decide +kernel
theorem dX7_isRoot_49 : decode cX7_isRoot 49 = .ok (.iconst 0, 1) := by decide +kernel
theorem dX7_isRoot_50 : decode cX7_isRoot 50 = .ok (.ireturn, 1) := by decide +kernel
theorem dX7_squares_0 : decode cX7_squares 0 = .ok (.iload_n 1, 1) := by decide +kernel
theorem dX7_squares_1 : decode cX7_squares 1 = .ok (.invokestatic 47, 3) := by decide +kernel
theorem dX7_squares_4 : decode cX7_squares 4 = .ok (.ifCond .ne 5, 3) := by decide +kernel
theorem dX7_squares_7 : decode cX7_squares 7 = .ok (.iconst (-1), 1) := by decide +kernel
theorem dX7_squares_8 : decode cX7_squares 8 = .ok (.ireturn, 1) := by decide +kernel
theorem dX7_squares_9 : decode cX7_squares 9 = .ok (.iconst 0, 1) := by decide +kernel
theorem dX7_squares_10 : decode cX7_squares 10 = .ok (.istore_n 2, 1) := by decide +kernel
theorem dX7_squares_11 : decode cX7_squares 11 = .ok (.iconst 1, 1) := by decide +kernel
theorem dX7_squares_12 : decode cX7_squares 12 = .ok (.istore_n 3, 1) := by decide +kernel
theorem dX7_squares_13 : decode cX7_squares 13 = .ok (.iload_n 3, 1) := by decide +kernel
theorem dX7_squares_14 : decode cX7_squares 14 = .ok (.iload_n 1, 1) := by decide +kernel
theorem dX7_squares_15 : decode cX7_squares 15 = .ok (.if_icmp .ge 19, 3) := by decide +kernel
theorem dX7_squares_18 : decode cX7_squares 18 = .ok (.iload_n 2, 1) := by decide +kernel
theorem dX7_squares_19 : decode cX7_squares 19 = .ok (.iconst 1, 1) := by decide +kernel
theorem dX7_squares_20 : decode cX7_squares 20 = .ok (.iload_n 3, 1) := by decide +kernel
theorem dX7_squares_21 : decode cX7_squares 21 = .ok (.iload_n 3, 1) := by decide +kernel
theorem dX7_squares_22 : decode cX7_squares 22 = .ok (.imul, 1) := by decide +kernel
theorem dX7_squares_23 : decode cX7_squares 23 = .ok (.iload_n 1, 1) := by decide +kernel
theorem dX7_squares_24 : decode cX7_squares 24 = .ok (.irem, 1) := by decide +kernel
theorem dX7_squares_25 : decode cX7_squares 25 = .ok (.ishl, 1) := by decide +kernel
theorem dX7_squares_26 : decode cX7_squares 26 = .ok (.ior, 1) := by decide +kernel
theorem dX7_squares_27 : decode cX7_squares 27 = .ok (.istore_n 2, 1) := by decide +kernel
theorem dX7_squares_28 : decode cX7_squares 28 = .ok (.iinc 3 1, 3) := by decide +kernel
theorem dX7_squares_31 : decode cX7_squares 31 = .ok (.goto (-18), 3) := by decide +kernel
theorem dX7_squares_34 : decode cX7_squares 34 = .ok (.iload_n 2, 1) := by decide +kernel
theorem dX7_squares_35 : decode cX7_squares 35 = .ok (.ireturn, 1) := by decide +kernel
theorem dX7_sign_0 : decode cX7_sign 0 = .ok (.iload_n 1, 1) := by decide +kernel
theorem dX7_sign_1 : decode cX7_sign 1 = .ok (.i2l, 1) := by decide +kernel
theorem dX7_sign_2 : decode cX7_sign 2 = .ok (.lconst 0, 1) := by decide +kernel
theorem dX7_sign_3 : decode cX7_sign 3 = .ok (.ldc2_w 51, 3) := by decide +kernel
theorem dX7_sign_6 : decode cX7_sign 6 = .ok (.invokestatic 43, 3) := by decide +kernel
theorem dX7_sign_9 : decode cX7_sign 9 = .ok (.ifCond .eq 20, 3) := by decide +kernel
theorem dX7_sign_12 : decode cX7_sign 12 = .ok (.iload_n 2, 1) := by decide +kernel
theorem dX7_sign_13 : decode cX7_sign 13 = .ok (.invokestatic 47, 3) := by decide +kernel
theorem dX7_sign_16 : decode cX7_sign 16 = .ok (.ifCond .eq 13, 3) := by decide +kernel
theorem dX7_sign_19 : decode cX7_sign 19 = .ok (.iload_n 1, 1) := by decide +kernel
theorem dX7_sign_20 : decode cX7_sign 20 = .ok (.iload_n 2, 1) := by decide +kernel
theorem dX7_sign_21 : decode cX7_sign 21 = .ok (.invokestatic 53, 3) := by decide +kernel
theorem dX7_sign_24 : decode cX7_sign 24 = .ok (.iconst 1, 1) := by decide +kernel
theorem dX7_sign_25 : decode cX7_sign 25 = .ok (.iadd, 1) := by decide +kernel
theorem dX7_sign_26 : decode cX7_sign 26 = .ok (.goto 4, 3) := by decide +kernel
theorem dX7_sign_29 : decode cX7_sign 29 = .ok (.iconst (-1), 1) := by decide +kernel
theorem dX7_sign_30 : decode cX7_sign 30 = .ok (.ireturn, 1) := by decide +kernel
theorem dX7_root_0 : decode cX7_root 0 = .ok (.iload_n 1, 1) := by decide +kernel
theorem dX7_root_1 : decode cX7_root 1 = .ok (.invokestatic 47, 3) := by decide +kernel
theorem dX7_root_4 : decode cX7_root 4 = .ok (.ifCond .eq 13, 3) := by decide +kernel
theorem dX7_root_7 : decode cX7_root 7 = .ok (.iload_n 2, 1) := by decide +kernel
theorem dX7_root_8 : decode cX7_root 8 = .ok (.i2l, 1) := by decide +kernel
theorem dX7_root_9 : decode cX7_root 9 = .ok (.lconst 0, 1) := by decide +kernel
theorem dX7_root_10 : decode cX7_root 10 = .ok (.lconst 1, 1) := by decide +kernel
theorem dX7_root_11 : decode cX7_root 11 = .ok (.invokestatic 43, 3) := by decide +kernel
theorem dX7_root_14 : decode cX7_root 14 = .ok (.ifCond .ne 5, 3) := by decide +kernel
theorem dX7_root_17 : decode cX7_root 17 = .ok (.iconst (-1), 1) := by decide +kernel
theorem dX7_root_18 : decode cX7_root 18 = .ok (.ireturn, 1) := by decide +kernel
theorem dX7_root_19 : decode cX7_root 19 = .ok (.iconst 0, 1) := by decide +kernel
theorem dX7_root_20 : decode cX7_root 20 = .ok (.istore_n 3, 1) := by decide +kernel
theorem dX7_root_21 : decode cX7_root 21 = .ok (.iconst 0, 1) := by decide +kernel
theorem dX7_root_22 : decode cX7_root 22 = .ok (.istore 4, 2) := by decide +kernel
theorem dX7_root_24 : decode cX7_root 24 = .ok (.iload_n 1, 1) := by decide +kernel
theorem dX7_root_25 : decode cX7_root 25 = .ok (.iconst 1, 1) := by decide +kernel
theorem dX7_root_26 : decode cX7_root 26 = .ok (.isub, 1) := by decide +kernel
theorem dX7_root_27 : decode cX7_root 27 = .ok (.istore 5, 2) := by decide +kernel
theorem dX7_root_29 : decode cX7_root 29 = .ok (.iload 5, 2) := by decide +kernel
theorem dX7_root_31 : decode cX7_root 31 = .ok (.iconst 1, 1) := by decide +kernel
theorem dX7_root_32 : decode cX7_root 32 = .ok (.if_icmp .le 44, 3) := by decide +kernel
theorem dX7_root_35 : decode cX7_root 35 = .ok (.iload 5, 2) := by decide +kernel
theorem dX7_root_37 : decode cX7_root 37 = .ok (.iload_n 1, 1) := by decide +kernel
theorem dX7_root_38 : decode cX7_root 38 = .ok (.invokestatic 57, 3) := by decide +kernel
theorem dX7_root_41 : decode cX7_root 41 = .ok (.istore 6, 2) := by decide +kernel
theorem dX7_root_43 : decode cX7_root 43 = .ok (.iload_n 3, 1) := by decide +kernel
theorem dX7_root_44 : decode cX7_root 44 = .ok (.iload 6, 2) := by decide +kernel
theorem dX7_root_46 : decode cX7_root 46 = .ok (.ifCond .eq 7, 3) := by decide +kernel
theorem dX7_root_49 : decode cX7_root 49 = .ok (.iconst 1, 1) := by decide +kernel
theorem dX7_root_50 : decode cX7_root 50 = .ok (.goto 4, 3) := by decide +kernel
theorem dX7_root_53 : decode cX7_root 53 = .ok (.iconst 0, 1) := by decide +kernel
theorem dX7_root_54 : decode cX7_root 54 = .ok (.iadd, 1) := by decide +kernel
theorem dX7_root_55 : decode cX7_root 55 = .ok (.istore_n 3, 1) := by decide +kernel
theorem dX7_root_56 : decode cX7_root 56 = .ok (.iload 6, 2) := by decide +kernel
theorem dX7_root_58 : decode cX7_root 58 = .ok (.ifCond .eq 8, 3) := by decide +kernel
theorem dX7_root_61 : decode cX7_root 61 = .ok (.iload 5, 2) := by decide +kernel
theorem dX7_root_63 : decode cX7_root 63 = .ok (.goto 5, 3) := by decide +kernel
theorem dX7_root_66 : decode cX7_root 66 = .ok (.iload 4, 2) := by decide +kernel
theorem dX7_root_68 : decode cX7_root 68 = .ok (.istore 4, 2) := by decide +kernel
theorem dX7_root_70 : decode cX7_root 70 = .ok (.iinc 5 (-1), 3) := by decide +kernel
theorem dX7_root_73 : decode cX7_root 73 = .ok (.goto (-44), 3) := by decide +kernel
theorem dX7_root_76 : decode cX7_root 76 = .ok (.iload_n 2, 1) := by decide +kernel
theorem dX7_root_77 : decode cX7_root 77 = .ok (.ifCond .ne 8, 3) := by decide +kernel
theorem dX7_root_80 : decode cX7_root 80 = .ok (.iload 4, 2) := by decide +kernel
theorem dX7_root_82 : decode cX7_root 82 = .ok (.goto 4, 3) := by decide +kernel
theorem dX7_root_85 : decode cX7_root 85 = .ok (.iload_n 3, 1) := by decide +kernel
theorem dX7_root_86 : decode cX7_root 86 = .ok (.ireturn, 1) := by decide +kernel
theorem dX7_law_0 : decode cX7_law 0 = .ok (.iload_n 1, 1) := by decide +kernel
theorem dX7_law_1 : decode cX7_law 1 = .ok (.invokestatic 47, 3) := by decide +kernel
theorem dX7_law_4 : decode cX7_law 4 = .ok (.ifCond .eq 31, 3) := by decide +kernel
theorem dX7_law_7 : decode cX7_law 7 = .ok (.iload_n 2, 1) := by decide +kernel
theorem dX7_law_8 : decode cX7_law 8 = .ok (.invokestatic 47, 3) := by decide +kernel
theorem dX7_law_11 : decode cX7_law 11 = .ok (.ifCond .eq 24, 3) := by decide +kernel
theorem dX7_law_14 : decode cX7_law 14 = .ok (.iload_n 1, 1) := by decide +kernel
theorem dX7_law_15 : decode cX7_law 15 = .ok (.iload_n 2, 1) := by decide +kernel
theorem dX7_law_16 : decode cX7_law 16 = .ok (.if_icmp .eq 19, 3) := by decide +kernel
theorem dX7_law_19 : decode cX7_law 19 = .ok (.iload_n 1, 1) := by decide +kernel
theorem dX7_law_20 : decode cX7_law 20 = .ok (.iload_n 2, 1) := by decide +kernel
theorem dX7_law_21 : decode cX7_law 21 = .ok (.invokestatic 53, 3) := by decide +kernel
theorem dX7_law_24 : decode cX7_law 24 = .ok (.iload_n 2, 1) := by decide +kernel
theorem dX7_law_25 : decode cX7_law 25 = .ok (.iload_n 1, 1) := by decide +kernel
theorem dX7_law_26 : decode cX7_law 26 = .ok (.invokestatic 53, 3) := by decide +kernel
theorem dX7_law_29 : decode cX7_law 29 = .ok (.imul, 1) := by decide +kernel
theorem dX7_law_30 : decode cX7_law 30 = .ok (.iconst 1, 1) := by decide +kernel
theorem dX7_law_31 : decode cX7_law 31 = .ok (.iadd, 1) := by decide +kernel
theorem dX7_law_32 : decode cX7_law 32 = .ok (.goto 4, 3) := by decide +kernel
theorem dX7_law_35 : decode cX7_law 35 = .ok (.iconst (-1), 1) := by decide +kernel
theorem dX7_law_36 : decode cX7_law 36 = .ok (.ireturn, 1) := by decide +kernel
theorem dX7_write_0 : decode cX7_write 0 = .ok (.iload_n 1, 1) := by decide +kernel
theorem dX7_write_1 : decode cX7_write 1 = .ok (.i2l, 1) := by decide +kernel
theorem dX7_write_2 : decode cX7_write 2 = .ok (.ldc2_w 61, 3) := by decide +kernel
theorem dX7_write_5 : decode cX7_write 5 = .ok (.ldc2_w 63, 3) := by decide +kernel
theorem dX7_write_8 : decode cX7_write 8 = .ok (.invokestatic 43, 3) := by decide +kernel
theorem dX7_write_11 : decode cX7_write 11 = .ok (.ifCond .ne 5, 3) := by decide +kernel
theorem dX7_write_14 : decode cX7_write 14 = .ok (.iconst (-1), 1) := by decide +kernel
theorem dX7_write_15 : decode cX7_write 15 = .ok (.ireturn, 1) := by decide +kernel
theorem dX7_write_16 : decode cX7_write 16 = .ok (.aload_n 0, 1) := by decide +kernel
theorem dX7_write_17 : decode cX7_write 17 = .ok (.getfield 65, 3) := by decide +kernel
theorem dX7_write_20 : decode cX7_write 20 = .ok (.sipush 200, 3) := by decide +kernel
theorem dX7_write_23 : decode cX7_write 23 = .ok (.if_icmp .ne 6, 3) := by decide +kernel
theorem dX7_write_26 : decode cX7_write 26 = .ok (.bipush (-3), 2) := by decide +kernel
theorem dX7_write_28 : decode cX7_write 28 = .ok (.ireturn, 1) := by decide +kernel
theorem dX7_write_29 : decode cX7_write 29 = .ok (.aload_n 0, 1) := by decide +kernel
theorem dX7_write_30 : decode cX7_write 30 = .ok (.getfield 7, 3) := by decide +kernel
theorem dX7_write_33 : decode cX7_write 33 = .ok (.aload_n 0, 1) := by decide +kernel
theorem dX7_write_34 : decode cX7_write 34 = .ok (.getfield 65, 3) := by decide +kernel
theorem dX7_write_37 : decode cX7_write 37 = .ok (.iload_n 1, 1) := by decide +kernel
theorem dX7_write_38 : decode cX7_write 38 = .ok (.iastore, 1) := by decide +kernel
theorem dX7_write_39 : decode cX7_write 39 = .ok (.aload_n 0, 1) := by decide +kernel
theorem dX7_write_40 : decode cX7_write 40 = .ok (.dup, 1) := by decide +kernel
theorem dX7_write_41 : decode cX7_write 41 = .ok (.getfield 65, 3) := by decide +kernel
theorem dX7_write_44 : decode cX7_write 44 = .ok (.iconst 1, 1) := by decide +kernel
theorem dX7_write_45 : decode cX7_write 45 = .ok (.iadd, 1) := by decide +kernel
theorem dX7_write_46 : decode cX7_write 46 = .ok (.putfield 65, 3) := by decide +kernel
theorem dX7_write_49 : decode cX7_write 49 = .ok (.aload_n 0, 1) := by decide +kernel
theorem dX7_write_50 : decode cX7_write 50 = .ok (.getfield 65, 3) := by decide +kernel
theorem dX7_write_53 : decode cX7_write 53 = .ok (.ireturn, 1) := by decide +kernel
theorem dX7_wipe_0 : decode cX7_wipe 0 = .ok (.aload_n 0, 1) := by decide +kernel
theorem dX7_wipe_1 : decode cX7_wipe 1 = .ok (.getfield 65, 3) := by decide +kernel
theorem dX7_wipe_4 : decode cX7_wipe 4 = .ok (.istore_n 1, 1) := by decide +kernel
theorem dX7_wipe_5 : decode cX7_wipe 5 = .ok (.aload_n 0, 1) := by decide +kernel
theorem dX7_wipe_6 : decode cX7_wipe 6 = .ok (.iconst 0, 1) := by decide +kernel
theorem dX7_wipe_7 : decode cX7_wipe 7 = .ok (.putfield 65, 3) := by decide +kernel
theorem dX7_wipe_10 : decode cX7_wipe 10 = .ok (.iload_n 1, 1) := by decide +kernel
theorem dX7_wipe_11 : decode cX7_wipe 11 = .ok (.ireturn, 1) := by decide +kernel
theorem dX7_byteAt_0 : decode cX7_byteAt 0 = .ok (.iload_n 1, 1) := by decide +kernel
theorem dX7_byteAt_1 : decode cX7_byteAt 1 = .ok (.aload_n 0, 1) := by decide +kernel
theorem dX7_byteAt_2 : decode cX7_byteAt 2 = .ok (.getfield 65, 3) := by decide +kernel
theorem dX7_byteAt_5 : decode cX7_byteAt 5 = .ok (.if_icmp .ge 12, 3) := by decide +kernel
theorem dX7_byteAt_8 : decode cX7_byteAt 8 = .ok (.aload_n 0, 1) := by decide +kernel
theorem dX7_byteAt_9 : decode cX7_byteAt 9 = .ok (.getfield 7, 3) := by decide +kernel
theorem dX7_byteAt_12 : decode cX7_byteAt 12 = .ok (.iload_n 1, 1) := by decide +kernel
theorem dX7_byteAt_13 : decode cX7_byteAt 13 = .ok (.iaload, 1) := by decide +kernel
theorem dX7_byteAt_14 : decode cX7_byteAt 14 = .ok (.goto 4, 3) := by decide +kernel
theorem dX7_byteAt_17 : decode cX7_byteAt 17 = .ok (.iconst 0, 1) := by decide +kernel
theorem dX7_byteAt_18 : decode cX7_byteAt 18 = .ok (.ireturn, 1) := by decide +kernel
theorem dX7_number_0 : decode cX7_number 0 = .ok (.iconst 0, 1) := by decide +kernel
theorem dX7_number_1 : decode cX7_number 1 = .ok (.istore 5, 2) := by decide +kernel
theorem dX7_number_3 : decode cX7_number 3 = .ok (.iconst 0, 1) := by decide +kernel
theorem dX7_number_4 : decode cX7_number 4 = .ok (.istore 6, 2) := by decide +kernel
theorem dX7_number_6 : decode cX7_number 6 = .ok (.iload 6, 2) := by decide +kernel
theorem dX7_number_8 : decode cX7_number 8 = .ok (.iconst 3, 1) := by decide +kernel
theorem dX7_number_9 : decode cX7_number 9 = .ok (.if_icmp .ge 59, 3) := by decide +kernel
theorem dX7_number_12 : decode cX7_number 12 = .ok (.aload_n 0, 1) := by decide +kernel
theorem dX7_number_13 : decode cX7_number 13 = .ok (.aload_n 0, 1) := by decide +kernel
theorem dX7_number_14 : decode cX7_number 14 = .ok (.getfield 69, 3) := by decide +kernel
theorem dX7_number_17 : decode cX7_number 17 = .ok (.invokevirtual 72, 3) := by decide +kernel
theorem dX7_number_20 : decode cX7_number 20 = .ok (.i2l, 1) := by decide +kernel
theorem dX7_number_21 : decode cX7_number 21 = .ok (.ldc2_w 76, 3) := by decide +kernel
theorem dX7_number_24 : decode cX7_number 24 = .ok (.ldc2_w 78, 3) := by decide +kernel
theorem dX7_number_27 : decode cX7_number 27 = .ok (.invokestatic 43, 3) := by decide +kernel
theorem dX7_number_30 : decode cX7_number 30 = .ok (.ifCond .eq 38, 3) := by decide +kernel
theorem dX7_number_33 : decode cX7_number 33 = .ok (.bipush 10, 2) := by decide +kernel
theorem dX7_number_35 : decode cX7_number 35 = .ok (.iload 5, 2) := by decide +kernel
theorem dX7_number_37 : decode cX7_number 37 = .ok (.imul, 1) := by decide +kernel
theorem dX7_number_38 : decode cX7_number 38 = .ok (.aload_n 0, 1) := by decide +kernel
theorem dX7_number_39 : decode cX7_number 39 = .ok (.aload_n 0, 1) := by decide +kernel
theorem dX7_number_40 : decode cX7_number 40 = .ok (.getfield 69, 3) := by decide +kernel
theorem dX7_number_43 : decode cX7_number 43 = .ok (.invokevirtual 72, 3) := by decide +kernel
theorem dX7_number_46 : decode cX7_number 46 = .ok (.iadd, 1) := by decide +kernel
theorem dX7_number_47 : decode cX7_number 47 = .ok (.bipush 48, 2) := by decide +kernel
theorem dX7_number_49 : decode cX7_number 49 = .ok (.isub, 1) := by decide +kernel
theorem dX7_number_50 : decode cX7_number 50 = .ok (.istore 5, 2) := by decide +kernel
theorem dX7_number_52 : decode cX7_number 52 = .ok (.aload_n 0, 1) := by decide +kernel
theorem dX7_number_53 : decode cX7_number 53 = .ok (.dup, 1) := by decide +kernel
theorem dX7_number_54 : decode cX7_number 54 = .ok (.getfield 69, 3) := by decide +kernel
theorem dX7_number_57 : decode cX7_number 57 = .ok (.iconst 1, 1) := by decide +kernel
theorem dX7_number_58 : decode cX7_number 58 = .ok (.iadd, 1) := by decide +kernel
theorem dX7_number_59 : decode cX7_number 59 = .ok (.putfield 69, 3) := by decide +kernel
theorem dX7_number_62 : decode cX7_number 62 = .ok (.iinc 6 1, 3) := by decide +kernel
theorem dX7_number_65 : decode cX7_number 65 = .ok (.goto (-59), 3) := by decide +kernel
theorem dX7_number_68 : decode cX7_number 68 = .ok (.aload_n 0, 1) := by decide +kernel
theorem dX7_number_69 : decode cX7_number 69 = .ok (.getfield 16, 3) := by decide +kernel
theorem dX7_number_72 : decode cX7_number 72 = .ok (.iload_n 1, 1) := by decide +kernel
theorem dX7_number_73 : decode cX7_number 73 = .ok (.iload 5, 2) := by decide +kernel
theorem dX7_number_75 : decode cX7_number 75 = .ok (.iastore, 1) := by decide +kernel
theorem dX7_number_76 : decode cX7_number 76 = .ok (.iload 6, 2) := by decide +kernel
theorem dX7_number_78 : decode cX7_number 78 = .ok (.ifCond .le 33, 3) := by decide +kernel
theorem dX7_number_81 : decode cX7_number 81 = .ok (.iload 5, 2) := by decide +kernel
theorem dX7_number_83 : decode cX7_number 83 = .ok (.i2l, 1) := by decide +kernel
theorem dX7_number_84 : decode cX7_number 84 = .ok (.iload_n 2, 1) := by decide +kernel
theorem dX7_number_85 : decode cX7_number 85 = .ok (.i2l, 1) := by decide +kernel
theorem dX7_number_86 : decode cX7_number 86 = .ok (.iload_n 3, 1) := by decide +kernel
theorem dX7_number_87 : decode cX7_number 87 = .ok (.i2l, 1) := by decide +kernel
theorem dX7_number_88 : decode cX7_number 88 = .ok (.invokestatic 43, 3) := by decide +kernel
theorem dX7_number_91 : decode cX7_number 91 = .ok (.ifCond .eq 20, 3) := by decide +kernel
theorem dX7_number_94 : decode cX7_number 94 = .ok (.aload_n 0, 1) := by decide +kernel
theorem dX7_number_95 : decode cX7_number 95 = .ok (.aload_n 0, 1) := by decide +kernel
theorem dX7_number_96 : decode cX7_number 96 = .ok (.getfield 69, 3) := by decide +kernel
theorem dX7_number_99 : decode cX7_number 99 = .ok (.invokevirtual 72, 3) := by decide +kernel
theorem dX7_number_102 : decode cX7_number 102 = .ok (.iload 4, 2) := by decide +kernel
theorem dX7_number_104 : decode cX7_number 104 = .ok (.if_icmp .ne 7, 3) := by decide +kernel
theorem dX7_number_107 : decode cX7_number 107 = .ok (.iconst 1, 1) := by decide +kernel
theorem dX7_number_108 : decode cX7_number 108 = .ok (.goto 4, 3) := by decide +kernel
theorem dX7_number_111 : decode cX7_number 111 = .ok (.iconst 0, 1) := by decide +kernel
theorem dX7_number_112 : decode cX7_number 112 = .ok (.istore 7, 2) := by decide +kernel
theorem dX7_number_114 : decode cX7_number 114 = .ok (.aload_n 0, 1) := by decide +kernel
theorem dX7_number_115 : decode cX7_number 115 = .ok (.dup, 1) := by decide +kernel
theorem dX7_number_116 : decode cX7_number 116 = .ok (.getfield 69, 3) := by decide +kernel
theorem dX7_number_119 : decode cX7_number 119 = .ok (.iconst 1, 1) := by decide +kernel
theorem dX7_number_120 : decode cX7_number 120 = .ok (.iadd, 1) := by decide +kernel
theorem dX7_number_121 : decode cX7_number 121 = .ok (.putfield 69, 3) := by decide +kernel
theorem dX7_number_124 : decode cX7_number 124 = .ok (.iload 7, 2) := by decide +kernel
theorem dX7_number_126 : decode cX7_number 126 = .ok (.ireturn, 1) := by decide +kernel
theorem dX7_mayBe_0 : decode cX7_mayBe 0 = .ok (.iload_n 0, 1) := by decide +kernel
theorem dX7_mayBe_1 : decode cX7_mayBe 1 = .ok (.ifCond .ne 16, 3) := by decide +kernel
theorem dX7_mayBe_4 : decode cX7_mayBe 4 = .ok (.iload_n 2, 1) := by decide +kernel
theorem dX7_mayBe_5 : decode cX7_mayBe 5 = .ok (.i2l, 1) := by decide +kernel
theorem dX7_mayBe_6 : decode cX7_mayBe 6 = .ok (.lconst 1, 1) := by decide +kernel
theorem dX7_mayBe_7 : decode cX7_mayBe 7 = .ok (.iload_n 1, 1) := by decide +kernel
theorem dX7_mayBe_8 : decode cX7_mayBe 8 = .ok (.iconst 1, 1) := by decide +kernel
theorem dX7_mayBe_9 : decode cX7_mayBe 9 = .ok (.isub, 1) := by decide +kernel
theorem dX7_mayBe_10 : decode cX7_mayBe 10 = .ok (.i2l, 1) := by decide +kernel
theorem dX7_mayBe_11 : decode cX7_mayBe 11 = .ok (.invokestatic 43, 3) := by decide +kernel
theorem dX7_mayBe_14 : decode cX7_mayBe 14 = .ok (.goto 25, 3) := by decide +kernel
theorem dX7_mayBe_17 : decode cX7_mayBe 17 = .ok (.iload_n 0, 1) := by decide +kernel
theorem dX7_mayBe_18 : decode cX7_mayBe 18 = .ok (.iconst 1, 1) := by decide +kernel
theorem dX7_mayBe_19 : decode cX7_mayBe 19 = .ok (.if_icmp .ne 11, 3) := by decide +kernel
theorem dX7_mayBe_22 : decode cX7_mayBe 22 = .ok (.iload_n 2, 1) := by decide +kernel
theorem dX7_mayBe_23 : decode cX7_mayBe 23 = .ok (.iload_n 1, 1) := by decide +kernel
theorem dX7_mayBe_24 : decode cX7_mayBe 24 = .ok (.invokestatic 57, 3) := by decide +kernel
theorem dX7_mayBe_27 : decode cX7_mayBe 27 = .ok (.goto 12, 3) := by decide +kernel
theorem dX7_mayBe_30 : decode cX7_mayBe 30 = .ok (.iload_n 2, 1) := by decide +kernel
theorem dX7_mayBe_31 : decode cX7_mayBe 31 = .ok (.i2l, 1) := by decide +kernel
theorem dX7_mayBe_32 : decode cX7_mayBe 32 = .ok (.lconst 1, 1) := by decide +kernel
theorem dX7_mayBe_33 : decode cX7_mayBe 33 = .ok (.ldc2_w 80, 3) := by decide +kernel
theorem dX7_mayBe_36 : decode cX7_mayBe 36 = .ok (.invokestatic 43, 3) := by decide +kernel
theorem dX7_mayBe_39 : decode cX7_mayBe 39 = .ok (.ireturn, 1) := by decide +kernel
theorem dX7_panelItem_0 : decode cX7_panelItem 0 = .ok (.aload_n 0, 1) := by decide +kernel
theorem dX7_panelItem_1 : decode cX7_panelItem 1 = .ok (.getfield 16, 3) := by decide +kernel
theorem dX7_panelItem_4 : decode cX7_panelItem 4 = .ok (.bipush 20, 2) := by decide +kernel
theorem dX7_panelItem_6 : decode cX7_panelItem 6 = .ok (.iaload, 1) := by decide +kernel
theorem dX7_panelItem_7 : decode cX7_panelItem 7 = .ok (.istore_n 2, 1) := by decide +kernel
theorem dX7_panelItem_8 : decode cX7_panelItem 8 = .ok (.iload_n 2, 1) := by decide +kernel
theorem dX7_panelItem_9 : decode cX7_panelItem 9 = .ok (.iconst 4, 1) := by decide +kernel
theorem dX7_panelItem_10 : decode cX7_panelItem 10 = .ok (.if_icmp .ne 5, 3) := by decide +kernel
theorem dX7_panelItem_13 : decode cX7_panelItem 13 = .ok (.iconst 0, 1) := by decide +kernel
theorem dX7_panelItem_14 : decode cX7_panelItem 14 = .ok (.ireturn, 1) := by decide +kernel
theorem dX7_panelItem_15 : decode cX7_panelItem 15 = .ok (.aload_n 0, 1) := by decide +kernel
theorem dX7_panelItem_16 : decode cX7_panelItem 16 = .ok (.getfield 16, 3) := by decide +kernel
theorem dX7_panelItem_19 : decode cX7_panelItem 19 = .ok (.bipush 20, 2) := by decide +kernel
theorem dX7_panelItem_21 : decode cX7_panelItem 21 = .ok (.dup2, 1) := by decide +kernel
theorem dX7_panelItem_22 : decode cX7_panelItem 22 = .ok (.iaload, 1) := by decide +kernel
theorem dX7_panelItem_23 : decode cX7_panelItem 23 = .ok (.iconst 1, 1) := by decide +kernel
theorem dX7_panelItem_24 : decode cX7_panelItem 24 = .ok (.iadd, 1) := by decide +kernel
theorem dX7_panelItem_25 : decode cX7_panelItem 25 = .ok (.iastore, 1) := by decide +kernel
theorem dX7_panelItem_26 : decode cX7_panelItem 26 = .ok (.aload_n 0, 1) := by decide +kernel
theorem dX7_panelItem_27 : decode cX7_panelItem 27 = .ok (.getfield 16, 3) := by decide +kernel
theorem dX7_panelItem_30 : decode cX7_panelItem 30 = .ok (.iconst 5, 1) := by decide +kernel
theorem dX7_panelItem_31 : decode cX7_panelItem 31 = .ok (.iload_n 2, 1) := by decide +kernel
theorem dX7_panelItem_32 : decode cX7_panelItem 32 = .ok (.imul, 1) := by decide +kernel
theorem dX7_panelItem_33 : decode cX7_panelItem 33 = .ok (.iload_n 1, 1) := by decide +kernel
theorem dX7_panelItem_34 : decode cX7_panelItem 34 = .ok (.iastore, 1) := by decide +kernel
theorem dX7_panelItem_35 : decode cX7_panelItem 35 = .ok (.aload_n 0, 1) := by decide +kernel
theorem dX7_panelItem_36 : decode cX7_panelItem 36 = .ok (.iconst 5, 1) := by decide +kernel
theorem dX7_panelItem_37 : decode cX7_panelItem 37 = .ok (.iload_n 2, 1) := by decide +kernel
theorem dX7_panelItem_38 : decode cX7_panelItem 38 = .ok (.imul, 1) := by decide +kernel
theorem dX7_panelItem_39 : decode cX7_panelItem 39 = .ok (.iconst 1, 1) := by decide +kernel
theorem dX7_panelItem_40 : decode cX7_panelItem 40 = .ok (.iadd, 1) := by decide +kernel
theorem dX7_panelItem_41 : decode cX7_panelItem 41 = .ok (.iconst 3, 1) := by decide +kernel
theorem dX7_panelItem_42 : decode cX7_panelItem 42 = .ok (.bipush 31, 2) := by decide +kernel
theorem dX7_panelItem_44 : decode cX7_panelItem 44 = .ok (.bipush 44, 2) := by decide +kernel
theorem dX7_panelItem_46 : decode cX7_panelItem 46 = .ok (.invokevirtual 82, 3) := by decide +kernel
theorem dX7_panelItem_49 : decode cX7_panelItem 49 = .ok (.ifCond .eq 19, 3) := by decide +kernel
theorem dX7_panelItem_52 : decode cX7_panelItem 52 = .ok (.aload_n 0, 1) := by decide +kernel
theorem dX7_panelItem_53 : decode cX7_panelItem 53 = .ok (.getfield 16, 3) := by decide +kernel
theorem dX7_panelItem_56 : decode cX7_panelItem 56 = .ok (.iconst 5, 1) := by decide +kernel
theorem dX7_panelItem_57 : decode cX7_panelItem 57 = .ok (.iload_n 2, 1) := by decide +kernel
theorem dX7_panelItem_58 : decode cX7_panelItem 58 = .ok (.imul, 1) := by decide +kernel
theorem dX7_panelItem_59 : decode cX7_panelItem 59 = .ok (.iconst 1, 1) := by decide +kernel
theorem dX7_panelItem_60 : decode cX7_panelItem 60 = .ok (.iadd, 1) := by decide +kernel
theorem dX7_panelItem_61 : decode cX7_panelItem 61 = .ok (.iaload, 1) := by decide +kernel
theorem dX7_panelItem_62 : decode cX7_panelItem 62 = .ok (.invokestatic 47, 3) := by decide +kernel
theorem dX7_panelItem_65 : decode cX7_panelItem 65 = .ok (.ifCond .ne 5, 3) := by decide +kernel
theorem dX7_panelItem_68 : decode cX7_panelItem 68 = .ok (.iconst 0, 1) := by decide +kernel
theorem dX7_panelItem_69 : decode cX7_panelItem 69 = .ok (.ireturn, 1) := by decide +kernel
theorem dX7_panelItem_70 : decode cX7_panelItem 70 = .ok (.aload_n 0, 1) := by decide +kernel
theorem dX7_panelItem_71 : decode cX7_panelItem 71 = .ok (.getfield 16, 3) := by decide +kernel
theorem dX7_panelItem_74 : decode cX7_panelItem 74 = .ok (.iconst 5, 1) := by decide +kernel
theorem dX7_panelItem_75 : decode cX7_panelItem 75 = .ok (.iload_n 2, 1) := by decide +kernel
theorem dX7_panelItem_76 : decode cX7_panelItem 76 = .ok (.imul, 1) := by decide +kernel
theorem dX7_panelItem_77 : decode cX7_panelItem 77 = .ok (.iconst 1, 1) := by decide +kernel
theorem dX7_panelItem_78 : decode cX7_panelItem 78 = .ok (.iadd, 1) := by decide +kernel
theorem dX7_panelItem_79 : decode cX7_panelItem 79 = .ok (.iaload, 1) := by decide +kernel
theorem dX7_panelItem_80 : decode cX7_panelItem 80 = .ok (.istore_n 3, 1) := by decide +kernel
theorem dX7_panelItem_81 : decode cX7_panelItem 81 = .ok (.aload_n 0, 1) := by decide +kernel
theorem dX7_panelItem_82 : decode cX7_panelItem 82 = .ok (.iconst 5, 1) := by decide +kernel
theorem dX7_panelItem_83 : decode cX7_panelItem 83 = .ok (.iload_n 2, 1) := by decide +kernel
theorem dX7_panelItem_84 : decode cX7_panelItem 84 = .ok (.imul, 1) := by decide +kernel
theorem dX7_panelItem_85 : decode cX7_panelItem 85 = .ok (.iconst 2, 1) := by decide +kernel
theorem dX7_panelItem_86 : decode cX7_panelItem 86 = .ok (.iadd, 1) := by decide +kernel
theorem dX7_panelItem_87 : decode cX7_panelItem 87 = .ok (.iconst 1, 1) := by decide +kernel
theorem dX7_panelItem_88 : decode cX7_panelItem 88 = .ok (.sipush 999, 3) := by decide +kernel
theorem dX7_panelItem_91 : decode cX7_panelItem 91 = .ok (.bipush 44, 2) := by decide +kernel
theorem dX7_panelItem_93 : decode cX7_panelItem 93 = .ok (.invokevirtual 82, 3) := by decide +kernel
theorem dX7_panelItem_96 : decode cX7_panelItem 96 = .ok (.ifCond .eq 60, 3) := by decide +kernel
theorem dX7_panelItem_99 : decode cX7_panelItem 99 = .ok (.iload_n 1, 1) := by decide +kernel
theorem dX7_panelItem_100 : decode cX7_panelItem 100 = .ok (.iload_n 3, 1) := by decide +kernel
theorem dX7_panelItem_101 : decode cX7_panelItem 101 = .ok (.aload_n 0, 1) := by decide +kernel
theorem dX7_panelItem_102 : decode cX7_panelItem 102 = .ok (.getfield 16, 3) := by decide +kernel
theorem dX7_panelItem_105 : decode cX7_panelItem 105 = .ok (.iconst 5, 1) := by decide +kernel
theorem dX7_panelItem_106 : decode cX7_panelItem 106 = .ok (.iload_n 2, 1) := by decide +kernel
theorem dX7_panelItem_107 : decode cX7_panelItem 107 = .ok (.imul, 1) := by decide +kernel
theorem dX7_panelItem_108 : decode cX7_panelItem 108 = .ok (.iconst 2, 1) := by decide +kernel
theorem dX7_panelItem_109 : decode cX7_panelItem 109 = .ok (.iadd, 1) := by decide +kernel
theorem dX7_panelItem_110 : decode cX7_panelItem 110 = .ok (.iaload, 1) := by decide +kernel
theorem dX7_panelItem_111 : decode cX7_panelItem 111 = .ok (.invokestatic 86, 3) := by decide +kernel
theorem dX7_panelItem_114 : decode cX7_panelItem 114 = .ok (.ifCond .eq 42, 3) := by decide +kernel
theorem dX7_panelItem_117 : decode cX7_panelItem 117 = .ok (.aload_n 0, 1) := by decide +kernel
theorem dX7_panelItem_118 : decode cX7_panelItem 118 = .ok (.iconst 5, 1) := by decide +kernel
theorem dX7_panelItem_119 : decode cX7_panelItem 119 = .ok (.iload_n 2, 1) := by decide +kernel
theorem dX7_panelItem_120 : decode cX7_panelItem 120 = .ok (.imul, 1) := by decide +kernel
theorem dX7_panelItem_121 : decode cX7_panelItem 121 = .ok (.iconst 3, 1) := by decide +kernel
theorem dX7_panelItem_122 : decode cX7_panelItem 122 = .ok (.iadd, 1) := by decide +kernel
theorem dX7_panelItem_123 : decode cX7_panelItem 123 = .ok (.iconst 0, 1) := by decide +kernel
theorem dX7_panelItem_124 : decode cX7_panelItem 124 = .ok (.iload_n 3, 1) := by decide +kernel
theorem dX7_panelItem_125 : decode cX7_panelItem 125 = .ok (.iconst 1, 1) := by decide +kernel
theorem dX7_panelItem_126 : decode cX7_panelItem 126 = .ok (.isub, 1) := by decide +kernel
theorem dX7_panelItem_127 : decode cX7_panelItem 127 = .ok (.bipush 44, 2) := by decide +kernel
theorem dX7_panelItem_129 : decode cX7_panelItem 129 = .ok (.invokevirtual 82, 3) := by decide +kernel
theorem dX7_panelItem_132 : decode cX7_panelItem 132 = .ok (.ifCond .eq 24, 3) := by decide +kernel
theorem dX7_panelItem_135 : decode cX7_panelItem 135 = .ok (.aload_n 0, 1) := by decide +kernel
theorem dX7_panelItem_136 : decode cX7_panelItem 136 = .ok (.iconst 5, 1) := by decide +kernel
theorem dX7_panelItem_137 : decode cX7_panelItem 137 = .ok (.iload_n 2, 1) := by decide +kernel
theorem dX7_panelItem_138 : decode cX7_panelItem 138 = .ok (.imul, 1) := by decide +kernel
theorem dX7_panelItem_139 : decode cX7_panelItem 139 = .ok (.iconst 4, 1) := by decide +kernel
theorem dX7_panelItem_140 : decode cX7_panelItem 140 = .ok (.iadd, 1) := by decide +kernel
theorem dX7_panelItem_141 : decode cX7_panelItem 141 = .ok (.iconst 1, 1) := by decide +kernel
theorem dX7_panelItem_142 : decode cX7_panelItem 142 = .ok (.bipush 40, 2) := by decide +kernel
theorem dX7_panelItem_144 : decode cX7_panelItem 144 = .ok (.bipush 59, 2) := by decide +kernel
theorem dX7_panelItem_146 : decode cX7_panelItem 146 = .ok (.invokevirtual 82, 3) := by decide +kernel
theorem dX7_panelItem_149 : decode cX7_panelItem 149 = .ok (.ifCond .eq 7, 3) := by decide +kernel
theorem dX7_panelItem_152 : decode cX7_panelItem 152 = .ok (.iconst 1, 1) := by decide +kernel
theorem dX7_panelItem_153 : decode cX7_panelItem 153 = .ok (.goto 4, 3) := by decide +kernel
theorem dX7_panelItem_156 : decode cX7_panelItem 156 = .ok (.iconst 0, 1) := by decide +kernel
theorem dX7_panelItem_157 : decode cX7_panelItem 157 = .ok (.ireturn, 1) := by decide +kernel
theorem dX7_item_0 : decode cX7_item 0 = .ok (.iload_n 1, 1) := by decide +kernel
theorem dX7_item_1 : decode cX7_item 1 = .ok (.lookupswitch 116 #[(98, 81), (108, 63), (113, 51), (114, 57), (117, 69)], 51) := by decide +kernel
theorem dX7_item_52 : decode cX7_item 52 = .ok (.aload_n 0, 1) := by decide +kernel
theorem dX7_item_53 : decode cX7_item 53 = .ok (.iconst 0, 1) := by decide +kernel
theorem dX7_item_54 : decode cX7_item 54 = .ok (.invokevirtual 90, 3) := by decide +kernel
theorem dX7_item_57 : decode cX7_item 57 = .ok (.ireturn, 1) := by decide +kernel
theorem dX7_item_58 : decode cX7_item 58 = .ok (.aload_n 0, 1) := by decide +kernel
theorem dX7_item_59 : decode cX7_item 59 = .ok (.iconst 1, 1) := by decide +kernel
theorem dX7_item_60 : decode cX7_item 60 = .ok (.invokevirtual 90, 3) := by decide +kernel
theorem dX7_item_63 : decode cX7_item 63 = .ok (.ireturn, 1) := by decide +kernel
theorem dX7_item_64 : decode cX7_item 64 = .ok (.aload_n 0, 1) := by decide +kernel
theorem dX7_item_65 : decode cX7_item 65 = .ok (.iconst 2, 1) := by decide +kernel
theorem dX7_item_66 : decode cX7_item 66 = .ok (.invokevirtual 90, 3) := by decide +kernel
theorem dX7_item_69 : decode cX7_item 69 = .ok (.ireturn, 1) := by decide +kernel
theorem dX7_item_70 : decode cX7_item 70 = .ok (.aload_n 0, 1) := by decide +kernel
theorem dX7_item_71 : decode cX7_item 71 = .ok (.bipush 21, 2) := by decide +kernel
theorem dX7_item_73 : decode cX7_item 73 = .ok (.iconst 1, 1) := by decide +kernel
theorem dX7_item_74 : decode cX7_item 74 = .ok (.bipush 20, 2) := by decide +kernel
theorem dX7_item_76 : decode cX7_item 76 = .ok (.bipush 59, 2) := by decide +kernel
theorem dX7_item_78 : decode cX7_item 78 = .ok (.invokevirtual 82, 3) := by decide +kernel
theorem dX7_item_81 : decode cX7_item 81 = .ok (.ireturn, 1) := by decide +kernel
theorem dX7_item_82 : decode cX7_item 82 = .ok (.aload_n 0, 1) := by decide +kernel
theorem dX7_item_83 : decode cX7_item 83 = .ok (.bipush 22, 2) := by decide +kernel
theorem dX7_item_85 : decode cX7_item 85 = .ok (.bipush 20, 2) := by decide +kernel
theorem dX7_item_87 : decode cX7_item 87 = .ok (.sipush 400, 3) := by decide +kernel
theorem dX7_item_90 : decode cX7_item 90 = .ok (.bipush 44, 2) := by decide +kernel
theorem dX7_item_92 : decode cX7_item 92 = .ok (.invokevirtual 82, 3) := by decide +kernel
theorem dX7_item_95 : decode cX7_item 95 = .ok (.ifCond .eq 20, 3) := by decide +kernel
theorem dX7_item_98 : decode cX7_item 98 = .ok (.aload_n 0, 1) := by decide +kernel
theorem dX7_item_99 : decode cX7_item 99 = .ok (.bipush 23, 2) := by decide +kernel
theorem dX7_item_101 : decode cX7_item 101 = .ok (.iconst 0, 1) := by decide +kernel
theorem dX7_item_102 : decode cX7_item 102 = .ok (.iconst 5, 1) := by decide +kernel
theorem dX7_item_103 : decode cX7_item 103 = .ok (.bipush 59, 2) := by decide +kernel
theorem dX7_item_105 : decode cX7_item 105 = .ok (.invokevirtual 82, 3) := by decide +kernel
theorem dX7_item_108 : decode cX7_item 108 = .ok (.ifCond .eq 7, 3) := by decide +kernel
theorem dX7_item_111 : decode cX7_item 111 = .ok (.iconst 1, 1) := by decide +kernel
theorem dX7_item_112 : decode cX7_item 112 = .ok (.goto 4, 3) := by decide +kernel
theorem dX7_item_115 : decode cX7_item 115 = .ok (.iconst 0, 1) := by decide +kernel
theorem dX7_item_116 : decode cX7_item 116 = .ok (.ireturn, 1) := by decide +kernel
theorem dX7_item_117 : decode cX7_item 117 = .ok (.iconst 0, 1) := by decide +kernel
theorem dX7_item_118 : decode cX7_item 118 = .ok (.ireturn, 1) := by decide +kernel
theorem dX7_fault_0 : decode cX7_fault 0 = .ok (.iconst 0, 1) := by decide +kernel
theorem dX7_fault_1 : decode cX7_fault 1 = .ok (.istore_n 1, 1) := by decide +kernel
theorem dX7_fault_2 : decode cX7_fault 2 = .ok (.iload_n 1, 1) := by decide +kernel
theorem dX7_fault_3 : decode cX7_fault 3 = .ok (.bipush 24, 2) := by decide +kernel
theorem dX7_fault_5 : decode cX7_fault 5 = .ok (.if_icmp .ge 16, 3) := by decide +kernel
theorem dX7_fault_8 : decode cX7_fault 8 = .ok (.aload_n 0, 1) := by decide +kernel
theorem dX7_fault_9 : decode cX7_fault 9 = .ok (.getfield 16, 3) := by decide +kernel
theorem dX7_fault_12 : decode cX7_fault 12 = .ok (.iload_n 1, 1) := by decide +kernel
theorem dX7_fault_13 : decode cX7_fault 13 = .ok (.iconst 0, 1) := by decide +kernel
theorem dX7_fault_14 : decode cX7_fault 14 = .ok (.iastore, 1) := by decide +kernel
theorem dX7_fault_15 : decode cX7_fault 15 = .ok (.iinc 1 1, 3) := by decide +kernel
theorem dX7_fault_18 : decode cX7_fault 18 = .ok (.goto (-16), 3) := by decide +kernel
theorem dX7_fault_21 : decode cX7_fault 21 = .ok (.aload_n 0, 1) := by decide +kernel
theorem dX7_fault_22 : decode cX7_fault 22 = .ok (.getfield 16, 3) := by decide +kernel
theorem dX7_fault_25 : decode cX7_fault 25 = .ok (.bipush 21, 2) := by decide +kernel
theorem dX7_fault_27 : decode cX7_fault 27 = .ok (.iconst 3, 1) := by decide +kernel
theorem dX7_fault_28 : decode cX7_fault 28 = .ok (.iastore, 1) := by decide +kernel
theorem dX7_fault_29 : decode cX7_fault 29 = .ok (.aload_n 0, 1) := by decide +kernel
theorem dX7_fault_30 : decode cX7_fault 30 = .ok (.getfield 16, 3) := by decide +kernel
theorem dX7_fault_33 : decode cX7_fault 33 = .ok (.bipush 22, 2) := by decide +kernel
theorem dX7_fault_35 : decode cX7_fault 35 = .ok (.bipush 100, 2) := by decide +kernel
theorem dX7_fault_37 : decode cX7_fault 37 = .ok (.iastore, 1) := by decide +kernel
theorem dX7_fault_38 : decode cX7_fault 38 = .ok (.aload_n 0, 1) := by decide +kernel
theorem dX7_fault_39 : decode cX7_fault 39 = .ok (.getfield 16, 3) := by decide +kernel
theorem dX7_fault_42 : decode cX7_fault 42 = .ok (.bipush 23, 2) := by decide +kernel
theorem dX7_fault_44 : decode cX7_fault 44 = .ok (.iconst 1, 1) := by decide +kernel
theorem dX7_fault_45 : decode cX7_fault 45 = .ok (.iastore, 1) := by decide +kernel
theorem dX7_fault_46 : decode cX7_fault 46 = .ok (.aload_n 0, 1) := by decide +kernel
theorem dX7_fault_47 : decode cX7_fault 47 = .ok (.iconst 0, 1) := by decide +kernel
theorem dX7_fault_48 : decode cX7_fault 48 = .ok (.putfield 69, 3) := by decide +kernel
theorem dX7_fault_51 : decode cX7_fault 51 = .ok (.aload_n 0, 1) := by decide +kernel
theorem dX7_fault_52 : decode cX7_fault 52 = .ok (.getfield 69, 3) := by decide +kernel
theorem dX7_fault_55 : decode cX7_fault 55 = .ok (.aload_n 0, 1) := by decide +kernel
theorem dX7_fault_56 : decode cX7_fault 56 = .ok (.getfield 65, 3) := by decide +kernel
theorem dX7_fault_59 : decode cX7_fault 59 = .ok (.if_icmp .ge 36, 3) := by decide +kernel
theorem dX7_fault_62 : decode cX7_fault 62 = .ok (.aload_n 0, 1) := by decide +kernel
theorem dX7_fault_63 : decode cX7_fault 63 = .ok (.getfield 69, 3) := by decide +kernel
theorem dX7_fault_66 : decode cX7_fault 66 = .ok (.istore_n 1, 1) := by decide +kernel
theorem dX7_fault_67 : decode cX7_fault 67 = .ok (.aload_n 0, 1) := by decide +kernel
theorem dX7_fault_68 : decode cX7_fault 68 = .ok (.dup, 1) := by decide +kernel
theorem dX7_fault_69 : decode cX7_fault 69 = .ok (.getfield 69, 3) := by decide +kernel
theorem dX7_fault_72 : decode cX7_fault 72 = .ok (.iconst 1, 1) := by decide +kernel
theorem dX7_fault_73 : decode cX7_fault 73 = .ok (.iadd, 1) := by decide +kernel
theorem dX7_fault_74 : decode cX7_fault 74 = .ok (.putfield 69, 3) := by decide +kernel
theorem dX7_fault_77 : decode cX7_fault 77 = .ok (.aload_n 0, 1) := by decide +kernel
theorem dX7_fault_78 : decode cX7_fault 78 = .ok (.aload_n 0, 1) := by decide +kernel
theorem dX7_fault_79 : decode cX7_fault 79 = .ok (.getfield 7, 3) := by decide +kernel
theorem dX7_fault_82 : decode cX7_fault 82 = .ok (.iload_n 1, 1) := by decide +kernel
theorem dX7_fault_83 : decode cX7_fault 83 = .ok (.iaload, 1) := by decide +kernel
theorem dX7_fault_84 : decode cX7_fault 84 = .ok (.invokevirtual 93, 3) := by decide +kernel
theorem dX7_fault_87 : decode cX7_fault 87 = .ok (.ifCond .ne 5, 3) := by decide +kernel
theorem dX7_fault_90 : decode cX7_fault 90 = .ok (.iload_n 1, 1) := by decide +kernel
theorem dX7_fault_91 : decode cX7_fault 91 = .ok (.ireturn, 1) := by decide +kernel
theorem dX7_fault_92 : decode cX7_fault 92 = .ok (.goto (-41), 3) := by decide +kernel
theorem dX7_fault_95 : decode cX7_fault 95 = .ok (.bipush (-4), 2) := by decide +kernel
theorem dX7_fault_97 : decode cX7_fault 97 = .ok (.ireturn, 1) := by decide +kernel
theorem dX7_lay_0 : decode cX7_lay 0 = .ok (.aload_n 0, 1) := by decide +kernel
theorem dX7_lay_1 : decode cX7_lay 1 = .ok (.invokevirtual 96, 3) := by decide +kernel
theorem dX7_lay_4 : decode cX7_lay 4 = .ok (.bipush (-4), 2) := by decide +kernel
theorem dX7_lay_6 : decode cX7_lay 6 = .ok (.if_icmp .eq 6, 3) := by decide +kernel
theorem dX7_lay_9 : decode cX7_lay 9 = .ok (.bipush (-2), 2) := by decide +kernel
theorem dX7_lay_11 : decode cX7_lay 11 = .ok (.ireturn, 1) := by decide +kernel
theorem dX7_lay_12 : decode cX7_lay 12 = .ok (.iconst 0, 1) := by decide +kernel
theorem dX7_lay_13 : decode cX7_lay 13 = .ok (.istore_n 1, 1) := by decide +kernel
theorem dX7_lay_14 : decode cX7_lay 14 = .ok (.iload_n 1, 1) := by decide +kernel
theorem dX7_lay_15 : decode cX7_lay 15 = .ok (.bipush 24, 2) := by decide +kernel
theorem dX7_lay_17 : decode cX7_lay 17 = .ok (.if_icmp .ge 21, 3) := by decide +kernel
theorem dX7_lay_20 : decode cX7_lay 20 = .ok (.aload_n 0, 1) := by decide +kernel
theorem dX7_lay_21 : decode cX7_lay 21 = .ok (.getfield 13, 3) := by decide +kernel
theorem dX7_lay_24 : decode cX7_lay 24 = .ok (.iload_n 1, 1) := by decide +kernel
theorem dX7_lay_25 : decode cX7_lay 25 = .ok (.aload_n 0, 1) := by decide +kernel
theorem dX7_lay_26 : decode cX7_lay 26 = .ok (.getfield 16, 3) := by decide +kernel
theorem dX7_lay_29 : decode cX7_lay 29 = .ok (.iload_n 1, 1) := by decide +kernel
theorem dX7_lay_30 : decode cX7_lay 30 = .ok (.iaload, 1) := by decide +kernel
theorem dX7_lay_31 : decode cX7_lay 31 = .ok (.iastore, 1) := by decide +kernel
theorem dX7_lay_32 : decode cX7_lay 32 = .ok (.iinc 1 1, 3) := by decide +kernel
theorem dX7_lay_35 : decode cX7_lay 35 = .ok (.goto (-21), 3) := by decide +kernel
theorem dX7_lay_38 : decode cX7_lay 38 = .ok (.aload_n 0, 1) := by decide +kernel
theorem dX7_lay_39 : decode cX7_lay 39 = .ok (.iconst 0, 1) := by decide +kernel
theorem dX7_lay_40 : decode cX7_lay 40 = .ok (.putfield 100, 3) := by decide +kernel
theorem dX7_lay_43 : decode cX7_lay 43 = .ok (.aload_n 0, 1) := by decide +kernel
theorem dX7_lay_44 : decode cX7_lay 44 = .ok (.getfield 13, 3) := by decide +kernel
theorem dX7_lay_47 : decode cX7_lay 47 = .ok (.bipush 20, 2) := by decide +kernel
theorem dX7_lay_49 : decode cX7_lay 49 = .ok (.iaload, 1) := by decide +kernel
theorem dX7_lay_50 : decode cX7_lay 50 = .ok (.ireturn, 1) := by decide +kernel
theorem dX7_note_0 : decode cX7_note 0 = .ok (.aload_n 0, 1) := by decide +kernel
theorem dX7_note_1 : decode cX7_note 1 = .ok (.getfield 100, 3) := by decide +kernel
theorem dX7_note_4 : decode cX7_note 4 = .ok (.bipush 6, 2) := by decide +kernel
theorem dX7_note_6 : decode cX7_note 6 = .ok (.if_icmp .ne 42, 3) := by decide +kernel
theorem dX7_note_9 : decode cX7_note 9 = .ok (.iconst 0, 1) := by decide +kernel
theorem dX7_note_10 : decode cX7_note 10 = .ok (.istore_n 1, 1) := by decide +kernel
theorem dX7_note_11 : decode cX7_note 11 = .ok (.iload_n 1, 1) := by decide +kernel
theorem dX7_note_12 : decode cX7_note 12 = .ok (.bipush 120, 2) := by decide +kernel
theorem dX7_note_14 : decode cX7_note 14 = .ok (.if_icmp .ge 24, 3) := by decide +kernel
theorem dX7_note_17 : decode cX7_note 17 = .ok (.aload_n 0, 1) := by decide +kernel
theorem dX7_note_18 : decode cX7_note 18 = .ok (.getfield 19, 3) := by decide +kernel
theorem dX7_note_21 : decode cX7_note 21 = .ok (.iload_n 1, 1) := by decide +kernel
theorem dX7_note_22 : decode cX7_note 22 = .ok (.aload_n 0, 1) := by decide +kernel
theorem dX7_note_23 : decode cX7_note 23 = .ok (.getfield 19, 3) := by decide +kernel
theorem dX7_note_26 : decode cX7_note 26 = .ok (.bipush 24, 2) := by decide +kernel
theorem dX7_note_28 : decode cX7_note 28 = .ok (.iload_n 1, 1) := by decide +kernel
theorem dX7_note_29 : decode cX7_note 29 = .ok (.iadd, 1) := by decide +kernel
theorem dX7_note_30 : decode cX7_note 30 = .ok (.iaload, 1) := by decide +kernel
theorem dX7_note_31 : decode cX7_note 31 = .ok (.iastore, 1) := by decide +kernel
theorem dX7_note_32 : decode cX7_note 32 = .ok (.iinc 1 1, 3) := by decide +kernel
theorem dX7_note_35 : decode cX7_note 35 = .ok (.goto (-24), 3) := by decide +kernel
theorem dX7_note_38 : decode cX7_note 38 = .ok (.aload_n 0, 1) := by decide +kernel
theorem dX7_note_39 : decode cX7_note 39 = .ok (.dup, 1) := by decide +kernel
theorem dX7_note_40 : decode cX7_note 40 = .ok (.getfield 100, 3) := by decide +kernel
theorem dX7_note_43 : decode cX7_note 43 = .ok (.iconst 1, 1) := by decide +kernel
theorem dX7_note_44 : decode cX7_note 44 = .ok (.isub, 1) := by decide +kernel
theorem dX7_note_45 : decode cX7_note 45 = .ok (.putfield 100, 3) := by decide +kernel
theorem dX7_note_48 : decode cX7_note 48 = .ok (.iconst 0, 1) := by decide +kernel
theorem dX7_note_49 : decode cX7_note 49 = .ok (.istore_n 1, 1) := by decide +kernel
theorem dX7_note_50 : decode cX7_note 50 = .ok (.iload_n 1, 1) := by decide +kernel
theorem dX7_note_51 : decode cX7_note 51 = .ok (.bipush 24, 2) := by decide +kernel
theorem dX7_note_53 : decode cX7_note 53 = .ok (.if_icmp .ge 29, 3) := by decide +kernel
theorem dX7_note_56 : decode cX7_note 56 = .ok (.aload_n 0, 1) := by decide +kernel
theorem dX7_note_57 : decode cX7_note 57 = .ok (.getfield 19, 3) := by decide +kernel
theorem dX7_note_60 : decode cX7_note 60 = .ok (.bipush 24, 2) := by decide +kernel
theorem dX7_note_62 : decode cX7_note 62 = .ok (.aload_n 0, 1) := by decide +kernel
theorem dX7_note_63 : decode cX7_note 63 = .ok (.getfield 100, 3) := by decide +kernel
theorem dX7_note_66 : decode cX7_note 66 = .ok (.imul, 1) := by decide +kernel
theorem dX7_note_67 : decode cX7_note 67 = .ok (.iload_n 1, 1) := by decide +kernel
theorem dX7_note_68 : decode cX7_note 68 = .ok (.iadd, 1) := by decide +kernel
theorem dX7_note_69 : decode cX7_note 69 = .ok (.aload_n 0, 1) := by decide +kernel
theorem dX7_note_70 : decode cX7_note 70 = .ok (.getfield 13, 3) := by decide +kernel
theorem dX7_note_73 : decode cX7_note 73 = .ok (.iload_n 1, 1) := by decide +kernel
theorem dX7_note_74 : decode cX7_note 74 = .ok (.iaload, 1) := by decide +kernel
theorem dX7_note_75 : decode cX7_note 75 = .ok (.iastore, 1) := by decide +kernel
theorem dX7_note_76 : decode cX7_note 76 = .ok (.iinc 1 1, 3) := by decide +kernel
theorem dX7_note_79 : decode cX7_note 79 = .ok (.goto (-29), 3) := by decide +kernel
theorem dX7_note_82 : decode cX7_note 82 = .ok (.aload_n 0, 1) := by decide +kernel
theorem dX7_note_83 : decode cX7_note 83 = .ok (.dup, 1) := by decide +kernel
theorem dX7_note_84 : decode cX7_note 84 = .ok (.getfield 100, 3) := by decide +kernel
theorem dX7_note_87 : decode cX7_note 87 = .ok (.iconst 1, 1) := by decide +kernel
theorem dX7_note_88 : decode cX7_note 88 = .ok (.iadd, 1) := by decide +kernel
theorem dX7_note_89 : decode cX7_note 89 = .ok (.putfield 100, 3) := by decide +kernel
theorem dX7_note_92 : decode cX7_note 92 = .ok (.return_, 1) := by decide +kernel
theorem dX7_undo_0 : decode cX7_undo 0 = .ok (.aload_n 0, 1) := by decide +kernel
theorem dX7_undo_1 : decode cX7_undo 1 = .ok (.getfield 100, 3) := by decide +kernel
theorem dX7_undo_4 : decode cX7_undo 4 = .ok (.ifCond .ne 6, 3) := by decide +kernel
theorem dX7_undo_7 : decode cX7_undo 7 = .ok (.bipush (-2), 2) := by decide +kernel
theorem dX7_undo_9 : decode cX7_undo 9 = .ok (.ireturn, 1) := by decide +kernel
theorem dX7_undo_10 : decode cX7_undo 10 = .ok (.aload_n 0, 1) := by decide +kernel
theorem dX7_undo_11 : decode cX7_undo 11 = .ok (.dup, 1) := by decide +kernel
theorem dX7_undo_12 : decode cX7_undo 12 = .ok (.getfield 100, 3) := by decide +kernel
theorem dX7_undo_15 : decode cX7_undo 15 = .ok (.iconst 1, 1) := by decide +kernel
theorem dX7_undo_16 : decode cX7_undo 16 = .ok (.isub, 1) := by decide +kernel
theorem dX7_undo_17 : decode cX7_undo 17 = .ok (.putfield 100, 3) := by decide +kernel
theorem dX7_undo_20 : decode cX7_undo 20 = .ok (.iconst 0, 1) := by decide +kernel
theorem dX7_undo_21 : decode cX7_undo 21 = .ok (.istore_n 1, 1) := by decide +kernel
theorem dX7_undo_22 : decode cX7_undo 22 = .ok (.iload_n 1, 1) := by decide +kernel
theorem dX7_undo_23 : decode cX7_undo 23 = .ok (.bipush 24, 2) := by decide +kernel
theorem dX7_undo_25 : decode cX7_undo 25 = .ok (.if_icmp .ge 29, 3) := by decide +kernel
theorem dX7_undo_28 : decode cX7_undo 28 = .ok (.aload_n 0, 1) := by decide +kernel
theorem dX7_undo_29 : decode cX7_undo 29 = .ok (.getfield 13, 3) := by decide +kernel
theorem dX7_undo_32 : decode cX7_undo 32 = .ok (.iload_n 1, 1) := by decide +kernel
theorem dX7_undo_33 : decode cX7_undo 33 = .ok (.aload_n 0, 1) := by decide +kernel
theorem dX7_undo_34 : decode cX7_undo 34 = .ok (.getfield 19, 3) := by decide +kernel
theorem dX7_undo_37 : decode cX7_undo 37 = .ok (.bipush 24, 2) := by decide +kernel
theorem dX7_undo_39 : decode cX7_undo 39 = .ok (.aload_n 0, 1) := by decide +kernel
theorem dX7_undo_40 : decode cX7_undo 40 = .ok (.getfield 100, 3) := by decide +kernel
theorem dX7_undo_43 : decode cX7_undo 43 = .ok (.imul, 1) := by decide +kernel
theorem dX7_undo_44 : decode cX7_undo 44 = .ok (.iload_n 1, 1) := by decide +kernel
theorem dX7_undo_45 : decode cX7_undo 45 = .ok (.iadd, 1) := by decide +kernel
theorem dX7_undo_46 : decode cX7_undo 46 = .ok (.iaload, 1) := by decide +kernel
theorem dX7_undo_47 : decode cX7_undo 47 = .ok (.iastore, 1) := by decide +kernel
theorem dX7_undo_48 : decode cX7_undo 48 = .ok (.iinc 1 1, 3) := by decide +kernel
theorem dX7_undo_51 : decode cX7_undo 51 = .ok (.goto (-29), 3) := by decide +kernel
theorem dX7_undo_54 : decode cX7_undo 54 = .ok (.aload_n 0, 1) := by decide +kernel
theorem dX7_undo_55 : decode cX7_undo 55 = .ok (.getfield 100, 3) := by decide +kernel
theorem dX7_undo_58 : decode cX7_undo 58 = .ok (.ireturn, 1) := by decide +kernel
theorem dX7_becomes_0 : decode cX7_becomes 0 = .ok (.aload_n 0, 1) := by decide +kernel
theorem dX7_becomes_1 : decode cX7_becomes 1 = .ok (.getfield 13, 3) := by decide +kernel
theorem dX7_becomes_4 : decode cX7_becomes 4 = .ok (.iload_n 1, 1) := by decide +kernel
theorem dX7_becomes_5 : decode cX7_becomes 5 = .ok (.iaload, 1) := by decide +kernel
theorem dX7_becomes_6 : decode cX7_becomes 6 = .ok (.istore_n 3, 1) := by decide +kernel
theorem dX7_becomes_7 : decode cX7_becomes 7 = .ok (.iload_n 3, 1) := by decide +kernel
theorem dX7_becomes_8 : decode cX7_becomes 8 = .ok (.iload_n 2, 1) := by decide +kernel
theorem dX7_becomes_9 : decode cX7_becomes 9 = .ok (.if_icmp .ne 6, 3) := by decide +kernel
theorem dX7_becomes_12 : decode cX7_becomes 12 = .ok (.bipush (-2), 2) := by decide +kernel
theorem dX7_becomes_14 : decode cX7_becomes 14 = .ok (.ireturn, 1) := by decide +kernel
theorem dX7_becomes_15 : decode cX7_becomes 15 = .ok (.aload_n 0, 1) := by decide +kernel
theorem dX7_becomes_16 : decode cX7_becomes 16 = .ok (.invokevirtual 103, 3) := by decide +kernel
theorem dX7_becomes_19 : decode cX7_becomes 19 = .ok (.aload_n 0, 1) := by decide +kernel
theorem dX7_becomes_20 : decode cX7_becomes 20 = .ok (.getfield 13, 3) := by decide +kernel
theorem dX7_becomes_23 : decode cX7_becomes 23 = .ok (.iload_n 1, 1) := by decide +kernel
theorem dX7_becomes_24 : decode cX7_becomes 24 = .ok (.iload_n 2, 1) := by decide +kernel
theorem dX7_becomes_25 : decode cX7_becomes 25 = .ok (.iastore, 1) := by decide +kernel
theorem dX7_becomes_26 : decode cX7_becomes 26 = .ok (.iload_n 3, 1) := by decide +kernel
theorem dX7_becomes_27 : decode cX7_becomes 27 = .ok (.ireturn, 1) := by decide +kernel
theorem dX7_isPanel_0 : decode cX7_isPanel 0 = .ok (.iload_n 1, 1) := by decide +kernel
theorem dX7_isPanel_1 : decode cX7_isPanel 1 = .ok (.i2l, 1) := by decide +kernel
theorem dX7_isPanel_2 : decode cX7_isPanel 2 = .ok (.lconst 0, 1) := by decide +kernel
theorem dX7_isPanel_3 : decode cX7_isPanel 3 = .ok (.aload_n 0, 1) := by decide +kernel
theorem dX7_isPanel_4 : decode cX7_isPanel 4 = .ok (.getfield 13, 3) := by decide +kernel
theorem dX7_isPanel_7 : decode cX7_isPanel 7 = .ok (.bipush 20, 2) := by decide +kernel
theorem dX7_isPanel_9 : decode cX7_isPanel 9 = .ok (.iaload, 1) := by decide +kernel
theorem dX7_isPanel_10 : decode cX7_isPanel 10 = .ok (.iconst 1, 1) := by decide +kernel
theorem dX7_isPanel_11 : decode cX7_isPanel 11 = .ok (.isub, 1) := by decide +kernel
theorem dX7_isPanel_12 : decode cX7_isPanel 12 = .ok (.i2l, 1) := by decide +kernel
theorem dX7_isPanel_13 : decode cX7_isPanel 13 = .ok (.invokestatic 43, 3) := by decide +kernel
theorem dX7_isPanel_16 : decode cX7_isPanel 16 = .ok (.ireturn, 1) := by decide +kernel
theorem dX7_set_0 : decode cX7_set 0 = .ok (.aload_n 0, 1) := by decide +kernel
theorem dX7_set_1 : decode cX7_set 1 = .ok (.iload_n 1, 1) := by decide +kernel
theorem dX7_set_2 : decode cX7_set 2 = .ok (.invokevirtual 106, 3) := by decide +kernel
theorem dX7_set_5 : decode cX7_set 5 = .ok (.ifCond .eq 15, 3) := by decide +kernel
theorem dX7_set_8 : decode cX7_set 8 = .ok (.iload_n 2, 1) := by decide +kernel
theorem dX7_set_9 : decode cX7_set 9 = .ok (.i2l, 1) := by decide +kernel
theorem dX7_set_10 : decode cX7_set 10 = .ok (.lconst 0, 1) := by decide +kernel
theorem dX7_set_11 : decode cX7_set 11 = .ok (.ldc2_w 41, 3) := by decide +kernel
theorem dX7_set_14 : decode cX7_set 14 = .ok (.invokestatic 43, 3) := by decide +kernel
theorem dX7_set_17 : decode cX7_set 17 = .ok (.ifCond .ne 5, 3) := by decide +kernel
theorem dX7_set_20 : decode cX7_set 20 = .ok (.iconst (-1), 1) := by decide +kernel
theorem dX7_set_21 : decode cX7_set 21 = .ok (.ireturn, 1) := by decide +kernel
theorem dX7_set_22 : decode cX7_set 22 = .ok (.aload_n 0, 1) := by decide +kernel
theorem dX7_set_23 : decode cX7_set 23 = .ok (.getfield 13, 3) := by decide +kernel
theorem dX7_set_26 : decode cX7_set 26 = .ok (.iconst 5, 1) := by decide +kernel
theorem dX7_set_27 : decode cX7_set 27 = .ok (.iload_n 1, 1) := by decide +kernel
theorem dX7_set_28 : decode cX7_set 28 = .ok (.imul, 1) := by decide +kernel
theorem dX7_set_29 : decode cX7_set 29 = .ok (.iconst 1, 1) := by decide +kernel
theorem dX7_set_30 : decode cX7_set 30 = .ok (.iadd, 1) := by decide +kernel
theorem dX7_set_31 : decode cX7_set 31 = .ok (.iaload, 1) := by decide +kernel
theorem dX7_set_32 : decode cX7_set 32 = .ok (.istore 4, 2) := by decide +kernel
theorem dX7_set_34 : decode cX7_set 34 = .ok (.iload_n 2, 1) := by decide +kernel
theorem dX7_set_35 : decode cX7_set 35 = .ok (.ifCond .ne 20, 3) := by decide +kernel
theorem dX7_set_38 : decode cX7_set 38 = .ok (.aload_n 0, 1) := by decide +kernel
theorem dX7_set_39 : decode cX7_set 39 = .ok (.getfield 13, 3) := by decide +kernel
theorem dX7_set_42 : decode cX7_set 42 = .ok (.iconst 5, 1) := by decide +kernel
theorem dX7_set_43 : decode cX7_set 43 = .ok (.iload_n 1, 1) := by decide +kernel
theorem dX7_set_44 : decode cX7_set 44 = .ok (.imul, 1) := by decide +kernel
theorem dX7_set_45 : decode cX7_set 45 = .ok (.iaload, 1) := by decide +kernel
theorem dX7_set_46 : decode cX7_set 46 = .ok (.iload 4, 2) := by decide +kernel
theorem dX7_set_48 : decode cX7_set 48 = .ok (.iload_n 3, 1) := by decide +kernel
theorem dX7_set_49 : decode cX7_set 49 = .ok (.invokestatic 86, 3) := by decide +kernel
theorem dX7_set_52 : decode cX7_set 52 = .ok (.goto 31, 3) := by decide +kernel
theorem dX7_set_55 : decode cX7_set 55 = .ok (.iload_n 2, 1) := by decide +kernel
theorem dX7_set_56 : decode cX7_set 56 = .ok (.iconst 1, 1) := by decide +kernel
theorem dX7_set_57 : decode cX7_set 57 = .ok (.if_icmp .ne 17, 3) := by decide +kernel
theorem dX7_set_60 : decode cX7_set 60 = .ok (.iload_n 3, 1) := by decide +kernel
theorem dX7_set_61 : decode cX7_set 61 = .ok (.i2l, 1) := by decide +kernel
theorem dX7_set_62 : decode cX7_set 62 = .ok (.lconst 0, 1) := by decide +kernel
theorem dX7_set_63 : decode cX7_set 63 = .ok (.iload 4, 2) := by decide +kernel
theorem dX7_set_65 : decode cX7_set 65 = .ok (.iconst 1, 1) := by decide +kernel
theorem dX7_set_66 : decode cX7_set 66 = .ok (.isub, 1) := by decide +kernel
theorem dX7_set_67 : decode cX7_set 67 = .ok (.i2l, 1) := by decide +kernel
theorem dX7_set_68 : decode cX7_set 68 = .ok (.invokestatic 43, 3) := by decide +kernel
theorem dX7_set_71 : decode cX7_set 71 = .ok (.goto 12, 3) := by decide +kernel
theorem dX7_set_74 : decode cX7_set 74 = .ok (.iload_n 3, 1) := by decide +kernel
theorem dX7_set_75 : decode cX7_set 75 = .ok (.i2l, 1) := by decide +kernel
theorem dX7_set_76 : decode cX7_set 76 = .ok (.lconst 1, 1) := by decide +kernel
theorem dX7_set_77 : decode cX7_set 77 = .ok (.ldc2_w 109, 3) := by decide +kernel
theorem dX7_set_80 : decode cX7_set 80 = .ok (.invokestatic 43, 3) := by decide +kernel
theorem dX7_set_83 : decode cX7_set 83 = .ok (.istore 5, 2) := by decide +kernel
theorem dX7_set_85 : decode cX7_set 85 = .ok (.iload 5, 2) := by decide +kernel
theorem dX7_set_87 : decode cX7_set 87 = .ok (.ifCond .eq 18, 3) := by decide +kernel
theorem dX7_set_90 : decode cX7_set 90 = .ok (.aload_n 0, 1) := by decide +kernel
theorem dX7_set_91 : decode cX7_set 91 = .ok (.iconst 5, 1) := by decide +kernel
theorem dX7_set_92 : decode cX7_set 92 = .ok (.iload_n 1, 1) := by decide +kernel
theorem dX7_set_93 : decode cX7_set 93 = .ok (.imul, 1) := by decide +kernel
theorem dX7_set_94 : decode cX7_set 94 = .ok (.iconst 2, 1) := by decide +kernel
theorem dX7_set_95 : decode cX7_set 95 = .ok (.iadd, 1) := by decide +kernel
theorem dX7_set_96 : decode cX7_set 96 = .ok (.iload_n 2, 1) := by decide +kernel
theorem dX7_set_97 : decode cX7_set 97 = .ok (.iadd, 1) := by decide +kernel
theorem dX7_set_98 : decode cX7_set 98 = .ok (.iload_n 3, 1) := by decide +kernel
theorem dX7_set_99 : decode cX7_set 99 = .ok (.invokevirtual 111, 3) := by decide +kernel
theorem dX7_set_102 : decode cX7_set 102 = .ok (.goto 4, 3) := by decide +kernel
theorem dX7_set_105 : decode cX7_set 105 = .ok (.iconst (-1), 1) := by decide +kernel
theorem dX7_set_106 : decode cX7_set 106 = .ok (.ireturn, 1) := by decide +kernel
theorem dX7_tell_0 : decode cX7_tell 0 = .ok (.iload_n 1, 1) := by decide +kernel
theorem dX7_tell_1 : decode cX7_tell 1 = .ok (.ifCond .ne 15, 3) := by decide +kernel
theorem dX7_tell_4 : decode cX7_tell 4 = .ok (.iload_n 2, 1) := by decide +kernel
theorem dX7_tell_5 : decode cX7_tell 5 = .ok (.i2l, 1) := by decide +kernel
theorem dX7_tell_6 : decode cX7_tell 6 = .ok (.lconst 1, 1) := by decide +kernel
theorem dX7_tell_7 : decode cX7_tell 7 = .ok (.ldc2_w 114, 3) := by decide +kernel
theorem dX7_tell_10 : decode cX7_tell 10 = .ok (.invokestatic 43, 3) := by decide +kernel
theorem dX7_tell_13 : decode cX7_tell 13 = .ok (.goto 44, 3) := by decide +kernel
theorem dX7_tell_16 : decode cX7_tell 16 = .ok (.iload_n 1, 1) := by decide +kernel
theorem dX7_tell_17 : decode cX7_tell 17 = .ok (.iconst 1, 1) := by decide +kernel
theorem dX7_tell_18 : decode cX7_tell 18 = .ok (.if_icmp .ne 17, 3) := by decide +kernel
theorem dX7_tell_21 : decode cX7_tell 21 = .ok (.iload_n 2, 1) := by decide +kernel
theorem dX7_tell_22 : decode cX7_tell 22 = .ok (.i2l, 1) := by decide +kernel
theorem dX7_tell_23 : decode cX7_tell 23 = .ok (.ldc2_w 114, 3) := by decide +kernel
theorem dX7_tell_26 : decode cX7_tell 26 = .ok (.ldc2_w 116, 3) := by decide +kernel
theorem dX7_tell_29 : decode cX7_tell 29 = .ok (.invokestatic 43, 3) := by decide +kernel
theorem dX7_tell_32 : decode cX7_tell 32 = .ok (.goto 25, 3) := by decide +kernel
theorem dX7_tell_35 : decode cX7_tell 35 = .ok (.iload_n 1, 1) := by decide +kernel
theorem dX7_tell_36 : decode cX7_tell 36 = .ok (.iconst 2, 1) := by decide +kernel
theorem dX7_tell_37 : decode cX7_tell 37 = .ok (.if_icmp .ne 19, 3) := by decide +kernel
theorem dX7_tell_40 : decode cX7_tell 40 = .ok (.iload_n 2, 1) := by decide +kernel
theorem dX7_tell_41 : decode cX7_tell 41 = .ok (.i2l, 1) := by decide +kernel
theorem dX7_tell_42 : decode cX7_tell 42 = .ok (.lconst 0, 1) := by decide +kernel
theorem dX7_tell_43 : decode cX7_tell 43 = .ok (.ldc2_w 118, 3) := by decide +kernel
theorem dX7_tell_46 : decode cX7_tell 46 = .ok (.invokestatic 43, 3) := by decide +kernel
theorem dX7_tell_49 : decode cX7_tell 49 = .ok (.ifCond .eq 7, 3) := by decide +kernel
theorem dX7_tell_52 : decode cX7_tell 52 = .ok (.iconst 1, 1) := by decide +kernel
theorem dX7_tell_53 : decode cX7_tell 53 = .ok (.goto 4, 3) := by decide +kernel
theorem dX7_tell_56 : decode cX7_tell 56 = .ok (.iconst 0, 1) := by decide +kernel
theorem dX7_tell_57 : decode cX7_tell 57 = .ok (.istore_n 3, 1) := by decide +kernel
theorem dX7_tell_58 : decode cX7_tell 58 = .ok (.iload_n 3, 1) := by decide +kernel
theorem dX7_tell_59 : decode cX7_tell 59 = .ok (.ifCond .eq 15, 3) := by decide +kernel
theorem dX7_tell_62 : decode cX7_tell 62 = .ok (.aload_n 0, 1) := by decide +kernel
theorem dX7_tell_63 : decode cX7_tell 63 = .ok (.bipush 21, 2) := by decide +kernel
theorem dX7_tell_65 : decode cX7_tell 65 = .ok (.iload_n 1, 1) := by decide +kernel
theorem dX7_tell_66 : decode cX7_tell 66 = .ok (.iadd, 1) := by decide +kernel
theorem dX7_tell_67 : decode cX7_tell 67 = .ok (.iload_n 2, 1) := by decide +kernel
theorem dX7_tell_68 : decode cX7_tell 68 = .ok (.invokevirtual 111, 3) := by decide +kernel
theorem dX7_tell_71 : decode cX7_tell 71 = .ok (.goto 4, 3) := by decide +kernel
theorem dX7_tell_74 : decode cX7_tell 74 = .ok (.iconst (-1), 1) := by decide +kernel
theorem dX7_tell_75 : decode cX7_tell 75 = .ok (.ireturn, 1) := by decide +kernel
theorem dX7_take_0 : decode cX7_take 0 = .ok (.aload_n 0, 1) := by decide +kernel
theorem dX7_take_1 : decode cX7_take 1 = .ok (.iload_n 1, 1) := by decide +kernel
theorem dX7_take_2 : decode cX7_take 2 = .ok (.invokevirtual 106, 3) := by decide +kernel
theorem dX7_take_5 : decode cX7_take 5 = .ok (.ifCond .ne 5, 3) := by decide +kernel
theorem dX7_take_8 : decode cX7_take 8 = .ok (.iconst (-1), 1) := by decide +kernel
theorem dX7_take_9 : decode cX7_take 9 = .ok (.ireturn, 1) := by decide +kernel
theorem dX7_take_10 : decode cX7_take 10 = .ok (.aload_n 0, 1) := by decide +kernel
theorem dX7_take_11 : decode cX7_take 11 = .ok (.invokevirtual 103, 3) := by decide +kernel
theorem dX7_take_14 : decode cX7_take 14 = .ok (.iconst 5, 1) := by decide +kernel
theorem dX7_take_15 : decode cX7_take 15 = .ok (.iload_n 1, 1) := by decide +kernel
theorem dX7_take_16 : decode cX7_take 16 = .ok (.imul, 1) := by decide +kernel
theorem dX7_take_17 : decode cX7_take 17 = .ok (.istore_n 2, 1) := by decide +kernel
theorem dX7_take_18 : decode cX7_take 18 = .ok (.iload_n 2, 1) := by decide +kernel
theorem dX7_take_19 : decode cX7_take 19 = .ok (.bipush 15, 2) := by decide +kernel
theorem dX7_take_21 : decode cX7_take 21 = .ok (.if_icmp .ge 23, 3) := by decide +kernel
theorem dX7_take_24 : decode cX7_take 24 = .ok (.aload_n 0, 1) := by decide +kernel
theorem dX7_take_25 : decode cX7_take 25 = .ok (.getfield 13, 3) := by decide +kernel
theorem dX7_take_28 : decode cX7_take 28 = .ok (.iload_n 2, 1) := by decide +kernel
theorem dX7_take_29 : decode cX7_take 29 = .ok (.aload_n 0, 1) := by decide +kernel
theorem dX7_take_30 : decode cX7_take 30 = .ok (.getfield 13, 3) := by decide +kernel
theorem dX7_take_33 : decode cX7_take 33 = .ok (.iload_n 2, 1) := by decide +kernel
theorem dX7_take_34 : decode cX7_take 34 = .ok (.iconst 5, 1) := by decide +kernel
theorem dX7_take_35 : decode cX7_take 35 = .ok (.iadd, 1) := by decide +kernel
theorem dX7_take_36 : decode cX7_take 36 = .ok (.iaload, 1) := by decide +kernel
theorem dX7_take_37 : decode cX7_take 37 = .ok (.iastore, 1) := by decide +kernel
theorem dX7_take_38 : decode cX7_take 38 = .ok (.iinc 2 1, 3) := by decide +kernel
theorem dX7_take_41 : decode cX7_take 41 = .ok (.goto (-23), 3) := by decide +kernel
theorem dX7_take_44 : decode cX7_take 44 = .ok (.aload_n 0, 1) := by decide +kernel
theorem dX7_take_45 : decode cX7_take 45 = .ok (.getfield 13, 3) := by decide +kernel
theorem dX7_take_48 : decode cX7_take 48 = .ok (.bipush 20, 2) := by decide +kernel
theorem dX7_take_50 : decode cX7_take 50 = .ok (.dup2, 1) := by decide +kernel
theorem dX7_take_51 : decode cX7_take 51 = .ok (.iaload, 1) := by decide +kernel
theorem dX7_take_52 : decode cX7_take 52 = .ok (.iconst 1, 1) := by decide +kernel
theorem dX7_take_53 : decode cX7_take 53 = .ok (.isub, 1) := by decide +kernel
theorem dX7_take_54 : decode cX7_take 54 = .ok (.iastore, 1) := by decide +kernel
theorem dX7_take_55 : decode cX7_take 55 = .ok (.aload_n 0, 1) := by decide +kernel
theorem dX7_take_56 : decode cX7_take 56 = .ok (.getfield 13, 3) := by decide +kernel
theorem dX7_take_59 : decode cX7_take 59 = .ok (.bipush 20, 2) := by decide +kernel
theorem dX7_take_61 : decode cX7_take 61 = .ok (.iaload, 1) := by decide +kernel
theorem dX7_take_62 : decode cX7_take 62 = .ok (.ireturn, 1) := by decide +kernel
theorem dX7_period_0 : decode cX7_period 0 = .ok (.aload_n 0, 1) := by decide +kernel
theorem dX7_period_1 : decode cX7_period 1 = .ok (.getfield 13, 3) := by decide +kernel
theorem dX7_period_4 : decode cX7_period 4 = .ok (.iconst 5, 1) := by decide +kernel
theorem dX7_period_5 : decode cX7_period 5 = .ok (.iload_n 1, 1) := by decide +kernel
theorem dX7_period_6 : decode cX7_period 6 = .ok (.imul, 1) := by decide +kernel
theorem dX7_period_7 : decode cX7_period 7 = .ok (.iaload, 1) := by decide +kernel
theorem dX7_period_8 : decode cX7_period 8 = .ok (.iconst 1, 1) := by decide +kernel
theorem dX7_period_9 : decode cX7_period 9 = .ok (.if_icmp .ne 18, 3) := by decide +kernel
theorem dX7_period_12 : decode cX7_period 12 = .ok (.aload_n 0, 1) := by decide +kernel
theorem dX7_period_13 : decode cX7_period 13 = .ok (.getfield 13, 3) := by decide +kernel
theorem dX7_period_16 : decode cX7_period 16 = .ok (.iconst 5, 1) := by decide +kernel
theorem dX7_period_17 : decode cX7_period 17 = .ok (.iload_n 1, 1) := by decide +kernel
theorem dX7_period_18 : decode cX7_period 18 = .ok (.imul, 1) := by decide +kernel
theorem dX7_period_19 : decode cX7_period 19 = .ok (.iconst 1, 1) := by decide +kernel
theorem dX7_period_20 : decode cX7_period 20 = .ok (.iadd, 1) := by decide +kernel
theorem dX7_period_21 : decode cX7_period 21 = .ok (.iaload, 1) := by decide +kernel
theorem dX7_period_22 : decode cX7_period 22 = .ok (.iconst 1, 1) := by decide +kernel
theorem dX7_period_23 : decode cX7_period 23 = .ok (.isub, 1) := by decide +kernel
theorem dX7_period_24 : decode cX7_period 24 = .ok (.goto 13, 3) := by decide +kernel
theorem dX7_period_27 : decode cX7_period 27 = .ok (.aload_n 0, 1) := by decide +kernel
theorem dX7_period_28 : decode cX7_period 28 = .ok (.getfield 13, 3) := by decide +kernel
theorem dX7_period_31 : decode cX7_period 31 = .ok (.iconst 5, 1) := by decide +kernel
theorem dX7_period_32 : decode cX7_period 32 = .ok (.iload_n 1, 1) := by decide +kernel
theorem dX7_period_33 : decode cX7_period 33 = .ok (.imul, 1) := by decide +kernel
theorem dX7_period_34 : decode cX7_period 34 = .ok (.iconst 1, 1) := by decide +kernel
theorem dX7_period_35 : decode cX7_period 35 = .ok (.iadd, 1) := by decide +kernel
theorem dX7_period_36 : decode cX7_period 36 = .ok (.iaload, 1) := by decide +kernel
theorem dX7_period_37 : decode cX7_period 37 = .ok (.ireturn, 1) := by decide +kernel
theorem dX7_depth_0 : decode cX7_depth 0 = .ok (.aload_n 0, 1) := by decide +kernel
theorem dX7_depth_1 : decode cX7_depth 1 = .ok (.getfield 13, 3) := by decide +kernel
theorem dX7_depth_4 : decode cX7_depth 4 = .ok (.iconst 5, 1) := by decide +kernel
theorem dX7_depth_5 : decode cX7_depth 5 = .ok (.iload_n 1, 1) := by decide +kernel
theorem dX7_depth_6 : decode cX7_depth 6 = .ok (.imul, 1) := by decide +kernel
theorem dX7_depth_7 : decode cX7_depth 7 = .ok (.iconst 1, 1) := by decide +kernel
theorem dX7_depth_8 : decode cX7_depth 8 = .ok (.iadd, 1) := by decide +kernel
theorem dX7_depth_9 : decode cX7_depth 9 = .ok (.iaload, 1) := by decide +kernel
theorem dX7_depth_10 : decode cX7_depth 10 = .ok (.istore_n 3, 1) := by decide +kernel
theorem dX7_depth_11 : decode cX7_depth 11 = .ok (.aload_n 0, 1) := by decide +kernel
theorem dX7_depth_12 : decode cX7_depth 12 = .ok (.getfield 13, 3) := by decide +kernel
theorem dX7_depth_15 : decode cX7_depth 15 = .ok (.iconst 5, 1) := by decide +kernel
theorem dX7_depth_16 : decode cX7_depth 16 = .ok (.iload_n 1, 1) := by decide +kernel
theorem dX7_depth_17 : decode cX7_depth 17 = .ok (.imul, 1) := by decide +kernel
theorem dX7_depth_18 : decode cX7_depth 18 = .ok (.iconst 2, 1) := by decide +kernel
theorem dX7_depth_19 : decode cX7_depth 19 = .ok (.iadd, 1) := by decide +kernel
theorem dX7_depth_20 : decode cX7_depth 20 = .ok (.iaload, 1) := by decide +kernel
theorem dX7_depth_21 : decode cX7_depth 21 = .ok (.istore 4, 2) := by decide +kernel
theorem dX7_depth_23 : decode cX7_depth 23 = .ok (.iload_n 2, 1) := by decide +kernel
theorem dX7_depth_24 : decode cX7_depth 24 = .ok (.aload_n 0, 1) := by decide +kernel
theorem dX7_depth_25 : decode cX7_depth 25 = .ok (.iload_n 1, 1) := by decide +kernel
theorem dX7_depth_26 : decode cX7_depth 26 = .ok (.invokevirtual 120, 3) := by decide +kernel
theorem dX7_depth_29 : decode cX7_depth 29 = .ok (.irem, 1) := by decide +kernel
theorem dX7_depth_30 : decode cX7_depth 30 = .ok (.istore 5, 2) := by decide +kernel
theorem dX7_depth_32 : decode cX7_depth 32 = .ok (.aload_n 0, 1) := by decide +kernel
theorem dX7_depth_33 : decode cX7_depth 33 = .ok (.getfield 13, 3) := by decide +kernel
theorem dX7_depth_36 : decode cX7_depth 36 = .ok (.iconst 5, 1) := by decide +kernel
theorem dX7_depth_37 : decode cX7_depth 37 = .ok (.iload_n 1, 1) := by decide +kernel
theorem dX7_depth_38 : decode cX7_depth 38 = .ok (.imul, 1) := by decide +kernel
theorem dX7_depth_39 : decode cX7_depth 39 = .ok (.iaload, 1) := by decide +kernel
theorem dX7_depth_40 : decode cX7_depth 40 = .ok (.ifCond .ne 14, 3) := by decide +kernel
theorem dX7_depth_43 : decode cX7_depth 43 = .ok (.iload 4, 2) := by decide +kernel
theorem dX7_depth_45 : decode cX7_depth 45 = .ok (.iload 5, 2) := by decide +kernel
theorem dX7_depth_47 : decode cX7_depth 47 = .ok (.imul, 1) := by decide +kernel
theorem dX7_depth_48 : decode cX7_depth 48 = .ok (.iload 5, 2) := by decide +kernel
theorem dX7_depth_50 : decode cX7_depth 50 = .ok (.imul, 1) := by decide +kernel
theorem dX7_depth_51 : decode cX7_depth 51 = .ok (.iload_n 3, 1) := by decide +kernel
theorem dX7_depth_52 : decode cX7_depth 52 = .ok (.irem, 1) := by decide +kernel
theorem dX7_depth_53 : decode cX7_depth 53 = .ok (.ireturn, 1) := by decide +kernel
theorem dX7_depth_54 : decode cX7_depth 54 = .ok (.aload_n 0, 1) := by decide +kernel
theorem dX7_depth_55 : decode cX7_depth 55 = .ok (.getfield 13, 3) := by decide +kernel
theorem dX7_depth_58 : decode cX7_depth 58 = .ok (.iconst 5, 1) := by decide +kernel
theorem dX7_depth_59 : decode cX7_depth 59 = .ok (.iload_n 1, 1) := by decide +kernel
theorem dX7_depth_60 : decode cX7_depth 60 = .ok (.imul, 1) := by decide +kernel
theorem dX7_depth_61 : decode cX7_depth 61 = .ok (.iaload, 1) := by decide +kernel
theorem dX7_depth_62 : decode cX7_depth 62 = .ok (.iconst 2, 1) := by decide +kernel
theorem dX7_depth_63 : decode cX7_depth 63 = .ok (.if_icmp .ne 20, 3) := by decide +kernel
theorem dX7_depth_66 : decode cX7_depth 66 = .ok (.iload 5, 2) := by decide +kernel
theorem dX7_depth_68 : decode cX7_depth 68 = .ok (.iload_n 3, 1) := by decide +kernel
theorem dX7_depth_69 : decode cX7_depth 69 = .ok (.invokestatic 53, 3) := by decide +kernel
theorem dX7_depth_72 : decode cX7_depth 72 = .ok (.iconst 1, 1) := by decide +kernel
theorem dX7_depth_73 : decode cX7_depth 73 = .ok (.if_icmp .ne 8, 3) := by decide +kernel
theorem dX7_depth_76 : decode cX7_depth 76 = .ok (.iload 4, 2) := by decide +kernel
theorem dX7_depth_78 : decode cX7_depth 78 = .ok (.goto 4, 3) := by decide +kernel
theorem dX7_depth_81 : decode cX7_depth 81 = .ok (.iconst 0, 1) := by decide +kernel
theorem dX7_depth_82 : decode cX7_depth 82 = .ok (.ireturn, 1) := by decide +kernel
theorem dX7_depth_83 : decode cX7_depth 83 = .ok (.iload 4, 2) := by decide +kernel
theorem dX7_depth_85 : decode cX7_depth 85 = .ok (.istore 6, 2) := by decide +kernel
theorem dX7_depth_87 : decode cX7_depth 87 = .ok (.iconst 0, 1) := by decide +kernel
theorem dX7_depth_88 : decode cX7_depth 88 = .ok (.istore 7, 2) := by decide +kernel
theorem dX7_depth_90 : decode cX7_depth 90 = .ok (.iload 7, 2) := by decide +kernel
theorem dX7_depth_92 : decode cX7_depth 92 = .ok (.iload 5, 2) := by decide +kernel
theorem dX7_depth_94 : decode cX7_depth 94 = .ok (.if_icmp .ge 18, 3) := by decide +kernel
theorem dX7_depth_97 : decode cX7_depth 97 = .ok (.iload 6, 2) := by decide +kernel
theorem dX7_depth_99 : decode cX7_depth 99 = .ok (.iload 4, 2) := by decide +kernel
theorem dX7_depth_101 : decode cX7_depth 101 = .ok (.imul, 1) := by decide +kernel
theorem dX7_depth_102 : decode cX7_depth 102 = .ok (.iload_n 3, 1) := by decide +kernel
theorem dX7_depth_103 : decode cX7_depth 103 = .ok (.irem, 1) := by decide +kernel
theorem dX7_depth_104 : decode cX7_depth 104 = .ok (.istore 6, 2) := by decide +kernel
theorem dX7_depth_106 : decode cX7_depth 106 = .ok (.iinc 7 1, 3) := by decide +kernel
theorem dX7_depth_109 : decode cX7_depth 109 = .ok (.goto (-19), 3) := by decide +kernel
theorem dX7_depth_112 : decode cX7_depth 112 = .ok (.iload 6, 2) := by decide +kernel
theorem dX7_depth_114 : decode cX7_depth 114 = .ok (.ireturn, 1) := by decide +kernel
theorem dX7_wellOf_0 : decode cX7_wellOf 0 = .ok (.aload_n 0, 1) := by decide +kernel
theorem dX7_wellOf_1 : decode cX7_wellOf 1 = .ok (.iload_n 1, 1) := by decide +kernel
theorem dX7_wellOf_2 : decode cX7_wellOf 2 = .ok (.iload_n 2, 1) := by decide +kernel
theorem dX7_wellOf_3 : decode cX7_wellOf 3 = .ok (.aload_n 0, 1) := by decide +kernel
theorem dX7_wellOf_4 : decode cX7_wellOf 4 = .ok (.getfield 13, 3) := by decide +kernel
theorem dX7_wellOf_7 : decode cX7_wellOf 7 = .ok (.iconst 5, 1) := by decide +kernel
theorem dX7_wellOf_8 : decode cX7_wellOf 8 = .ok (.iload_n 1, 1) := by decide +kernel
theorem dX7_wellOf_9 : decode cX7_wellOf 9 = .ok (.imul, 1) := by decide +kernel
theorem dX7_wellOf_10 : decode cX7_wellOf 10 = .ok (.iconst 3, 1) := by decide +kernel
theorem dX7_wellOf_11 : decode cX7_wellOf 11 = .ok (.iadd, 1) := by decide +kernel
theorem dX7_wellOf_12 : decode cX7_wellOf 12 = .ok (.iaload, 1) := by decide +kernel
theorem dX7_wellOf_13 : decode cX7_wellOf 13 = .ok (.iadd, 1) := by decide +kernel
theorem dX7_wellOf_14 : decode cX7_wellOf 14 = .ok (.invokevirtual 123, 3) := by decide +kernel
theorem dX7_wellOf_17 : decode cX7_wellOf 17 = .ok (.ireturn, 1) := by decide +kernel
theorem dX7_well_0 : decode cX7_well 0 = .ok (.aload_n 0, 1) := by decide +kernel
theorem dX7_well_1 : decode cX7_well 1 = .ok (.iload_n 1, 1) := by decide +kernel
theorem dX7_well_2 : decode cX7_well 2 = .ok (.invokevirtual 106, 3) := by decide +kernel
theorem dX7_well_5 : decode cX7_well 5 = .ok (.ifCond .eq 34, 3) := by decide +kernel
theorem dX7_well_8 : decode cX7_well 8 = .ok (.iload_n 2, 1) := by decide +kernel
theorem dX7_well_9 : decode cX7_well 9 = .ok (.i2l, 1) := by decide +kernel
theorem dX7_well_10 : decode cX7_well 10 = .ok (.lconst 0, 1) := by decide +kernel
theorem dX7_well_11 : decode cX7_well 11 = .ok (.aload_n 0, 1) := by decide +kernel
theorem dX7_well_12 : decode cX7_well 12 = .ok (.getfield 13, 3) := by decide +kernel
theorem dX7_well_15 : decode cX7_well 15 = .ok (.iconst 5, 1) := by decide +kernel
theorem dX7_well_16 : decode cX7_well 16 = .ok (.iload_n 1, 1) := by decide +kernel
theorem dX7_well_17 : decode cX7_well 17 = .ok (.imul, 1) := by decide +kernel
theorem dX7_well_18 : decode cX7_well 18 = .ok (.iconst 4, 1) := by decide +kernel
theorem dX7_well_19 : decode cX7_well 19 = .ok (.iadd, 1) := by decide +kernel
theorem dX7_well_20 : decode cX7_well 20 = .ok (.iaload, 1) := by decide +kernel
theorem dX7_well_21 : decode cX7_well 21 = .ok (.iconst 1, 1) := by decide +kernel
theorem dX7_well_22 : decode cX7_well 22 = .ok (.isub, 1) := by decide +kernel
theorem dX7_well_23 : decode cX7_well 23 = .ok (.i2l, 1) := by decide +kernel
theorem dX7_well_24 : decode cX7_well 24 = .ok (.invokestatic 43, 3) := by decide +kernel
theorem dX7_well_27 : decode cX7_well 27 = .ok (.ifCond .eq 12, 3) := by decide +kernel
theorem dX7_well_30 : decode cX7_well 30 = .ok (.aload_n 0, 1) := by decide +kernel
theorem dX7_well_31 : decode cX7_well 31 = .ok (.iload_n 1, 1) := by decide +kernel
theorem dX7_well_32 : decode cX7_well 32 = .ok (.iload_n 2, 1) := by decide +kernel
theorem dX7_well_33 : decode cX7_well 33 = .ok (.invokevirtual 126, 3) := by decide +kernel
theorem dX7_well_36 : decode cX7_well 36 = .ok (.goto 4, 3) := by decide +kernel
theorem dX7_well_39 : decode cX7_well 39 = .ok (.iconst (-1), 1) := by decide +kernel
theorem dX7_well_40 : decode cX7_well 40 = .ok (.ireturn, 1) := by decide +kernel
theorem dX7_countOf_0 : decode cX7_countOf 0 = .ok (.aload_n 0, 1) := by decide +kernel
theorem dX7_countOf_1 : decode cX7_countOf 1 = .ok (.getfield 13, 3) := by decide +kernel
theorem dX7_countOf_4 : decode cX7_countOf 4 = .ok (.iconst 5, 1) := by decide +kernel
theorem dX7_countOf_5 : decode cX7_countOf 5 = .ok (.iload_n 1, 1) := by decide +kernel
theorem dX7_countOf_6 : decode cX7_countOf 6 = .ok (.imul, 1) := by decide +kernel
theorem dX7_countOf_7 : decode cX7_countOf 7 = .ok (.iconst 1, 1) := by decide +kernel
theorem dX7_countOf_8 : decode cX7_countOf 8 = .ok (.iadd, 1) := by decide +kernel
theorem dX7_countOf_9 : decode cX7_countOf 9 = .ok (.iaload, 1) := by decide +kernel
theorem dX7_countOf_10 : decode cX7_countOf 10 = .ok (.istore 4, 2) := by decide +kernel
theorem dX7_countOf_12 : decode cX7_countOf 12 = .ok (.iconst 0, 1) := by decide +kernel
theorem dX7_countOf_13 : decode cX7_countOf 13 = .ok (.istore 5, 2) := by decide +kernel
theorem dX7_countOf_15 : decode cX7_countOf 15 = .ok (.iconst 0, 1) := by decide +kernel
theorem dX7_countOf_16 : decode cX7_countOf 16 = .ok (.istore 6, 2) := by decide +kernel
theorem dX7_countOf_18 : decode cX7_countOf 18 = .ok (.iload 6, 2) := by decide +kernel
theorem dX7_countOf_20 : decode cX7_countOf 20 = .ok (.aload_n 0, 1) := by decide +kernel
theorem dX7_countOf_21 : decode cX7_countOf 21 = .ok (.iload_n 1, 1) := by decide +kernel
theorem dX7_countOf_22 : decode cX7_countOf 22 = .ok (.invokevirtual 120, 3) := by decide +kernel
theorem dX7_countOf_25 : decode cX7_countOf 25 = .ok (.if_icmp .ge 60, 3) := by decide +kernel
theorem dX7_countOf_28 : decode cX7_countOf 28 = .ok (.aload_n 0, 1) := by decide +kernel
theorem dX7_countOf_29 : decode cX7_countOf 29 = .ok (.iload_n 1, 1) := by decide +kernel
theorem dX7_countOf_30 : decode cX7_countOf 30 = .ok (.iload 6, 2) := by decide +kernel
theorem dX7_countOf_32 : decode cX7_countOf 32 = .ok (.iload_n 2, 1) := by decide +kernel
theorem dX7_countOf_33 : decode cX7_countOf 33 = .ok (.iadd, 1) := by decide +kernel
theorem dX7_countOf_34 : decode cX7_countOf 34 = .ok (.invokevirtual 123, 3) := by decide +kernel
theorem dX7_countOf_37 : decode cX7_countOf 37 = .ok (.aload_n 0, 1) := by decide +kernel
theorem dX7_countOf_38 : decode cX7_countOf 38 = .ok (.iload_n 1, 1) := by decide +kernel
theorem dX7_countOf_39 : decode cX7_countOf 39 = .ok (.iload 6, 2) := by decide +kernel
theorem dX7_countOf_41 : decode cX7_countOf 41 = .ok (.invokevirtual 123, 3) := by decide +kernel
theorem dX7_countOf_44 : decode cX7_countOf 44 = .ok (.isub, 1) := by decide +kernel
theorem dX7_countOf_45 : decode cX7_countOf 45 = .ok (.iload 4, 2) := by decide +kernel
theorem dX7_countOf_47 : decode cX7_countOf 47 = .ok (.irem, 1) := by decide +kernel
theorem dX7_countOf_48 : decode cX7_countOf 48 = .ok (.istore 7, 2) := by decide +kernel
theorem dX7_countOf_50 : decode cX7_countOf 50 = .ok (.iload 5, 2) := by decide +kernel
theorem dX7_countOf_52 : decode cX7_countOf 52 = .ok (.iload 7, 2) := by decide +kernel
theorem dX7_countOf_54 : decode cX7_countOf 54 = .ok (.ifCond .ge 11, 3) := by decide +kernel
theorem dX7_countOf_57 : decode cX7_countOf 57 = .ok (.iload 7, 2) := by decide +kernel
theorem dX7_countOf_59 : decode cX7_countOf 59 = .ok (.iload 4, 2) := by decide +kernel
theorem dX7_countOf_61 : decode cX7_countOf 61 = .ok (.iadd, 1) := by decide +kernel
theorem dX7_countOf_62 : decode cX7_countOf 62 = .ok (.goto 5, 3) := by decide +kernel
theorem dX7_countOf_65 : decode cX7_countOf 65 = .ok (.iload 7, 2) := by decide +kernel
theorem dX7_countOf_67 : decode cX7_countOf 67 = .ok (.iload_n 3, 1) := by decide +kernel
theorem dX7_countOf_68 : decode cX7_countOf 68 = .ok (.if_icmp .ne 7, 3) := by decide +kernel
theorem dX7_countOf_71 : decode cX7_countOf 71 = .ok (.iconst 1, 1) := by decide +kernel
theorem dX7_countOf_72 : decode cX7_countOf 72 = .ok (.goto 4, 3) := by decide +kernel
theorem dX7_countOf_75 : decode cX7_countOf 75 = .ok (.iconst 0, 1) := by decide +kernel
theorem dX7_countOf_76 : decode cX7_countOf 76 = .ok (.iadd, 1) := by decide +kernel
theorem dX7_countOf_77 : decode cX7_countOf 77 = .ok (.istore 5, 2) := by decide +kernel
theorem dX7_countOf_79 : decode cX7_countOf 79 = .ok (.iinc 6 1, 3) := by decide +kernel
theorem dX7_countOf_82 : decode cX7_countOf 82 = .ok (.goto (-64), 3) := by decide +kernel
theorem dX7_countOf_85 : decode cX7_countOf 85 = .ok (.iload 5, 2) := by decide +kernel
theorem dX7_countOf_87 : decode cX7_countOf 87 = .ok (.ireturn, 1) := by decide +kernel
theorem dX7_counts_0 : decode cX7_counts 0 = .ok (.aload_n 0, 1) := by decide +kernel
theorem dX7_counts_1 : decode cX7_counts 1 = .ok (.iload_n 1, 1) := by decide +kernel
theorem dX7_counts_2 : decode cX7_counts 2 = .ok (.invokevirtual 106, 3) := by decide +kernel
theorem dX7_counts_5 : decode cX7_counts 5 = .ok (.ifCond .eq 52, 3) := by decide +kernel
theorem dX7_counts_8 : decode cX7_counts 8 = .ok (.iload_n 2, 1) := by decide +kernel
theorem dX7_counts_9 : decode cX7_counts 9 = .ok (.i2l, 1) := by decide +kernel
theorem dX7_counts_10 : decode cX7_counts 10 = .ok (.lconst 0, 1) := by decide +kernel
theorem dX7_counts_11 : decode cX7_counts 11 = .ok (.aload_n 0, 1) := by decide +kernel
theorem dX7_counts_12 : decode cX7_counts 12 = .ok (.iload_n 1, 1) := by decide +kernel
theorem dX7_counts_13 : decode cX7_counts 13 = .ok (.invokevirtual 120, 3) := by decide +kernel
theorem dX7_counts_16 : decode cX7_counts 16 = .ok (.iconst 1, 1) := by decide +kernel
theorem dX7_counts_17 : decode cX7_counts 17 = .ok (.isub, 1) := by decide +kernel
theorem dX7_counts_18 : decode cX7_counts 18 = .ok (.i2l, 1) := by decide +kernel
theorem dX7_counts_19 : decode cX7_counts 19 = .ok (.invokestatic 43, 3) := by decide +kernel
theorem dX7_counts_22 : decode cX7_counts 22 = .ok (.ifCond .eq 35, 3) := by decide +kernel
theorem dX7_counts_25 : decode cX7_counts 25 = .ok (.iload_n 3, 1) := by decide +kernel
theorem dX7_counts_26 : decode cX7_counts 26 = .ok (.i2l, 1) := by decide +kernel
theorem dX7_counts_27 : decode cX7_counts 27 = .ok (.lconst 0, 1) := by decide +kernel
theorem dX7_counts_28 : decode cX7_counts 28 = .ok (.aload_n 0, 1) := by decide +kernel
theorem dX7_counts_29 : decode cX7_counts 29 = .ok (.getfield 13, 3) := by decide +kernel
theorem dX7_counts_32 : decode cX7_counts 32 = .ok (.iconst 5, 1) := by decide +kernel
theorem dX7_counts_33 : decode cX7_counts 33 = .ok (.iload_n 1, 1) := by decide +kernel
theorem dX7_counts_34 : decode cX7_counts 34 = .ok (.imul, 1) := by decide +kernel
theorem dX7_counts_35 : decode cX7_counts 35 = .ok (.iconst 1, 1) := by decide +kernel
theorem dX7_counts_36 : decode cX7_counts 36 = .ok (.iadd, 1) := by decide +kernel
theorem dX7_counts_37 : decode cX7_counts 37 = .ok (.iaload, 1) := by decide +kernel
theorem dX7_counts_38 : decode cX7_counts 38 = .ok (.iconst 1, 1) := by decide +kernel
theorem dX7_counts_39 : decode cX7_counts 39 = .ok (.isub, 1) := by decide +kernel
theorem dX7_counts_40 : decode cX7_counts 40 = .ok (.i2l, 1) := by decide +kernel
theorem dX7_counts_41 : decode cX7_counts 41 = .ok (.invokestatic 43, 3) := by decide +kernel
theorem dX7_counts_44 : decode cX7_counts 44 = .ok (.ifCond .eq 13, 3) := by decide +kernel
theorem dX7_counts_47 : decode cX7_counts 47 = .ok (.aload_n 0, 1) := by decide +kernel
theorem dX7_counts_48 : decode cX7_counts 48 = .ok (.iload_n 1, 1) := by decide +kernel
theorem dX7_counts_49 : decode cX7_counts 49 = .ok (.iload_n 2, 1) := by decide +kernel
theorem dX7_counts_50 : decode cX7_counts 50 = .ok (.iload_n 3, 1) := by decide +kernel
theorem dX7_counts_51 : decode cX7_counts 51 = .ok (.invokevirtual 129, 3) := by decide +kernel
theorem dX7_counts_54 : decode cX7_counts 54 = .ok (.goto 4, 3) := by decide +kernel
theorem dX7_counts_57 : decode cX7_counts 57 = .ok (.iconst (-1), 1) := by decide +kernel
theorem dX7_counts_58 : decode cX7_counts 58 = .ok (.ireturn, 1) := by decide +kernel
theorem dX7_even_0 : decode cX7_even 0 = .ok (.sipush 1000, 3) := by decide +kernel
theorem dX7_even_3 : decode cX7_even 3 = .ok (.istore_n 2, 1) := by decide +kernel
theorem dX7_even_4 : decode cX7_even 4 = .ok (.iconst 0, 1) := by decide +kernel
theorem dX7_even_5 : decode cX7_even 5 = .ok (.istore_n 3, 1) := by decide +kernel
theorem dX7_even_6 : decode cX7_even 6 = .ok (.iconst 1, 1) := by decide +kernel
theorem dX7_even_7 : decode cX7_even 7 = .ok (.istore 4, 2) := by decide +kernel
theorem dX7_even_9 : decode cX7_even 9 = .ok (.iload 4, 2) := by decide +kernel
theorem dX7_even_11 : decode cX7_even 11 = .ok (.aload_n 0, 1) := by decide +kernel
theorem dX7_even_12 : decode cX7_even 12 = .ok (.iload_n 1, 1) := by decide +kernel
theorem dX7_even_13 : decode cX7_even 13 = .ok (.invokevirtual 120, 3) := by decide +kernel
theorem dX7_even_16 : decode cX7_even 16 = .ok (.if_icmp .ge 70, 3) := by decide +kernel
theorem dX7_even_19 : decode cX7_even 19 = .ok (.iconst 0, 1) := by decide +kernel
theorem dX7_even_20 : decode cX7_even 20 = .ok (.istore 5, 2) := by decide +kernel
theorem dX7_even_22 : decode cX7_even 22 = .ok (.iload 5, 2) := by decide +kernel
theorem dX7_even_24 : decode cX7_even 24 = .ok (.aload_n 0, 1) := by decide +kernel
theorem dX7_even_25 : decode cX7_even 25 = .ok (.getfield 13, 3) := by decide +kernel
theorem dX7_even_28 : decode cX7_even 28 = .ok (.iconst 5, 1) := by decide +kernel
theorem dX7_even_29 : decode cX7_even 29 = .ok (.iload_n 1, 1) := by decide +kernel
theorem dX7_even_30 : decode cX7_even 30 = .ok (.imul, 1) := by decide +kernel
theorem dX7_even_31 : decode cX7_even 31 = .ok (.iconst 1, 1) := by decide +kernel
theorem dX7_even_32 : decode cX7_even 32 = .ok (.iadd, 1) := by decide +kernel
theorem dX7_even_33 : decode cX7_even 33 = .ok (.iaload, 1) := by decide +kernel
theorem dX7_even_34 : decode cX7_even 34 = .ok (.if_icmp .ge 46, 3) := by decide +kernel
theorem dX7_even_37 : decode cX7_even 37 = .ok (.aload_n 0, 1) := by decide +kernel
theorem dX7_even_38 : decode cX7_even 38 = .ok (.iload_n 1, 1) := by decide +kernel
theorem dX7_even_39 : decode cX7_even 39 = .ok (.iload 4, 2) := by decide +kernel
theorem dX7_even_41 : decode cX7_even 41 = .ok (.iload 5, 2) := by decide +kernel
theorem dX7_even_43 : decode cX7_even 43 = .ok (.invokevirtual 129, 3) := by decide +kernel
theorem dX7_even_46 : decode cX7_even 46 = .ok (.istore 6, 2) := by decide +kernel
theorem dX7_even_48 : decode cX7_even 48 = .ok (.iload 6, 2) := by decide +kernel
theorem dX7_even_50 : decode cX7_even 50 = .ok (.iload_n 2, 1) := by decide +kernel
theorem dX7_even_51 : decode cX7_even 51 = .ok (.if_icmp .ge 8, 3) := by decide +kernel
theorem dX7_even_54 : decode cX7_even 54 = .ok (.iload 6, 2) := by decide +kernel
theorem dX7_even_56 : decode cX7_even 56 = .ok (.goto 4, 3) := by decide +kernel
theorem dX7_even_59 : decode cX7_even 59 = .ok (.iload_n 2, 1) := by decide +kernel
theorem dX7_even_60 : decode cX7_even 60 = .ok (.istore_n 2, 1) := by decide +kernel
theorem dX7_even_61 : decode cX7_even 61 = .ok (.iload 6, 2) := by decide +kernel
theorem dX7_even_63 : decode cX7_even 63 = .ok (.iload_n 3, 1) := by decide +kernel
theorem dX7_even_64 : decode cX7_even 64 = .ok (.if_icmp .le 8, 3) := by decide +kernel
theorem dX7_even_67 : decode cX7_even 67 = .ok (.iload 6, 2) := by decide +kernel
theorem dX7_even_69 : decode cX7_even 69 = .ok (.goto 4, 3) := by decide +kernel
theorem dX7_even_72 : decode cX7_even 72 = .ok (.iload_n 3, 1) := by decide +kernel
theorem dX7_even_73 : decode cX7_even 73 = .ok (.istore_n 3, 1) := by decide +kernel
theorem dX7_even_74 : decode cX7_even 74 = .ok (.iinc 5 1, 3) := by decide +kernel
theorem dX7_even_77 : decode cX7_even 77 = .ok (.goto (-55), 3) := by decide +kernel
theorem dX7_even_80 : decode cX7_even 80 = .ok (.iinc 4 1, 3) := by decide +kernel
theorem dX7_even_83 : decode cX7_even 83 = .ok (.goto (-74), 3) := by decide +kernel
theorem dX7_even_86 : decode cX7_even 86 = .ok (.iload_n 3, 1) := by decide +kernel
theorem dX7_even_87 : decode cX7_even 87 = .ok (.iload_n 2, 1) := by decide +kernel
theorem dX7_even_88 : decode cX7_even 88 = .ok (.isub, 1) := by decide +kernel
theorem dX7_even_89 : decode cX7_even 89 = .ok (.ireturn, 1) := by decide +kernel
end
section
theorem dX7_sumOf_0 : decode cX7_sumOf 0 = .ok (.aload_n 0, 1) := by decide +kernel
theorem dX7_sumOf_1 : decode cX7_sumOf 1 = .ok (.getfield 13, 3) := by decide +kernel
theorem dX7_sumOf_4 : decode cX7_sumOf 4 = .ok (.iconst 5, 1) := by decide +kernel
theorem dX7_sumOf_5 : decode cX7_sumOf 5 = .ok (.iload_n 1, 1) := by decide +kernel
theorem dX7_sumOf_6 : decode cX7_sumOf 6 = .ok (.imul, 1) := by decide +kernel
theorem dX7_sumOf_7 : decode cX7_sumOf 7 = .ok (.iconst 4, 1) := by decide +kernel
theorem dX7_sumOf_8 : decode cX7_sumOf 8 = .ok (.iadd, 1) := by decide +kernel
theorem dX7_sumOf_9 : decode cX7_sumOf 9 = .ok (.iaload, 1) := by decide +kernel
theorem dX7_sumOf_10 : decode cX7_sumOf 10 = .ok (.istore_n 3, 1) := by decide +kernel
theorem dX7_sumOf_11 : decode cX7_sumOf 11 = .ok (.iconst 0, 1) := by decide +kernel
theorem dX7_sumOf_12 : decode cX7_sumOf 12 = .ok (.istore 4, 2) := by decide +kernel
theorem dX7_sumOf_14 : decode cX7_sumOf 14 = .ok (.iconst 0, 1) := by decide +kernel
theorem dX7_sumOf_15 : decode cX7_sumOf 15 = .ok (.istore 5, 2) := by decide +kernel
theorem dX7_sumOf_17 : decode cX7_sumOf 17 = .ok (.iconst 0, 1) := by decide +kernel
theorem dX7_sumOf_18 : decode cX7_sumOf 18 = .ok (.istore 6, 2) := by decide +kernel
theorem dX7_sumOf_20 : decode cX7_sumOf 20 = .ok (.iconst 1, 1) := by decide +kernel
theorem dX7_sumOf_21 : decode cX7_sumOf 21 = .ok (.istore 7, 2) := by decide +kernel
theorem dX7_sumOf_23 : decode cX7_sumOf 23 = .ok (.iconst 0, 1) := by decide +kernel
theorem dX7_sumOf_24 : decode cX7_sumOf 24 = .ok (.istore 8, 2) := by decide +kernel
theorem dX7_sumOf_26 : decode cX7_sumOf 26 = .ok (.iload 8, 2) := by decide +kernel
theorem dX7_sumOf_28 : decode cX7_sumOf 28 = .ok (.iload_n 3, 1) := by decide +kernel
theorem dX7_sumOf_29 : decode cX7_sumOf 29 = .ok (.if_icmp .ge 78, 3) := by decide +kernel
theorem dX7_sumOf_32 : decode cX7_sumOf 32 = .ok (.aload_n 0, 1) := by decide +kernel
theorem dX7_sumOf_33 : decode cX7_sumOf 33 = .ok (.iload_n 1, 1) := by decide +kernel
theorem dX7_sumOf_34 : decode cX7_sumOf 34 = .ok (.iload 8, 2) := by decide +kernel
theorem dX7_sumOf_36 : decode cX7_sumOf 36 = .ok (.invokevirtual 126, 3) := by decide +kernel
theorem dX7_sumOf_39 : decode cX7_sumOf 39 = .ok (.istore 9, 2) := by decide +kernel
theorem dX7_sumOf_41 : decode cX7_sumOf 41 = .ok (.iload 9, 2) := by decide +kernel
theorem dX7_sumOf_43 : decode cX7_sumOf 43 = .ok (.iload 4, 2) := by decide +kernel
theorem dX7_sumOf_45 : decode cX7_sumOf 45 = .ok (.if_icmp .le 8, 3) := by decide +kernel
theorem dX7_sumOf_48 : decode cX7_sumOf 48 = .ok (.iload 9, 2) := by decide +kernel
theorem dX7_sumOf_50 : decode cX7_sumOf 50 = .ok (.goto 5, 3) := by decide +kernel
theorem dX7_sumOf_53 : decode cX7_sumOf 53 = .ok (.iload 4, 2) := by decide +kernel
theorem dX7_sumOf_55 : decode cX7_sumOf 55 = .ok (.istore 4, 2) := by decide +kernel
theorem dX7_sumOf_57 : decode cX7_sumOf 57 = .ok (.iload 5, 2) := by decide +kernel
theorem dX7_sumOf_59 : decode cX7_sumOf 59 = .ok (.iload 9, 2) := by decide +kernel
theorem dX7_sumOf_61 : decode cX7_sumOf 61 = .ok (.iadd, 1) := by decide +kernel
theorem dX7_sumOf_62 : decode cX7_sumOf 62 = .ok (.istore 5, 2) := by decide +kernel
theorem dX7_sumOf_64 : decode cX7_sumOf 64 = .ok (.iload 6, 2) := by decide +kernel
theorem dX7_sumOf_66 : decode cX7_sumOf 66 = .ok (.iconst 1, 1) := by decide +kernel
theorem dX7_sumOf_67 : decode cX7_sumOf 67 = .ok (.iload 9, 2) := by decide +kernel
theorem dX7_sumOf_69 : decode cX7_sumOf 69 = .ok (.ishl, 1) := by decide +kernel
theorem dX7_sumOf_70 : decode cX7_sumOf 70 = .ok (.ior, 1) := by decide +kernel
theorem dX7_sumOf_71 : decode cX7_sumOf 71 = .ok (.istore 6, 2) := by decide +kernel
theorem dX7_sumOf_73 : decode cX7_sumOf 73 = .ok (.iload 7, 2) := by decide +kernel
theorem dX7_sumOf_75 : decode cX7_sumOf 75 = .ok (.ifCond .eq 23, 3) := by decide +kernel
theorem dX7_sumOf_78 : decode cX7_sumOf 78 = .ok (.iload 9, 2) := by decide +kernel
theorem dX7_sumOf_80 : decode cX7_sumOf 80 = .ok (.aload_n 0, 1) := by decide +kernel
theorem dX7_sumOf_81 : decode cX7_sumOf 81 = .ok (.iload_n 1, 1) := by decide +kernel
theorem dX7_sumOf_82 : decode cX7_sumOf 82 = .ok (.iload_n 3, 1) := by decide +kernel
theorem dX7_sumOf_83 : decode cX7_sumOf 83 = .ok (.iconst 1, 1) := by decide +kernel
theorem dX7_sumOf_84 : decode cX7_sumOf 84 = .ok (.isub, 1) := by decide +kernel
theorem dX7_sumOf_85 : decode cX7_sumOf 85 = .ok (.iload 8, 2) := by decide +kernel
theorem dX7_sumOf_87 : decode cX7_sumOf 87 = .ok (.isub, 1) := by decide +kernel
theorem dX7_sumOf_88 : decode cX7_sumOf 88 = .ok (.invokevirtual 126, 3) := by decide +kernel
theorem dX7_sumOf_91 : decode cX7_sumOf 91 = .ok (.if_icmp .ne 7, 3) := by decide +kernel
theorem dX7_sumOf_94 : decode cX7_sumOf 94 = .ok (.iconst 1, 1) := by decide +kernel
theorem dX7_sumOf_95 : decode cX7_sumOf 95 = .ok (.goto 4, 3) := by decide +kernel
theorem dX7_sumOf_98 : decode cX7_sumOf 98 = .ok (.iconst 0, 1) := by decide +kernel
theorem dX7_sumOf_99 : decode cX7_sumOf 99 = .ok (.istore 7, 2) := by decide +kernel
theorem dX7_sumOf_101 : decode cX7_sumOf 101 = .ok (.iinc 8 1, 3) := by decide +kernel
theorem dX7_sumOf_104 : decode cX7_sumOf 104 = .ok (.goto (-78), 3) := by decide +kernel
theorem dX7_sumOf_107 : decode cX7_sumOf 107 = .ok (.iconst 0, 1) := by decide +kernel
theorem dX7_sumOf_108 : decode cX7_sumOf 108 = .ok (.istore 8, 2) := by decide +kernel
theorem dX7_sumOf_110 : decode cX7_sumOf 110 = .ok (.iconst 0, 1) := by decide +kernel
theorem dX7_sumOf_111 : decode cX7_sumOf 111 = .ok (.istore 9, 2) := by decide +kernel
theorem dX7_sumOf_113 : decode cX7_sumOf 113 = .ok (.iload 9, 2) := by decide +kernel
theorem dX7_sumOf_115 : decode cX7_sumOf 115 = .ok (.bipush 31, 2) := by decide +kernel
theorem dX7_sumOf_117 : decode cX7_sumOf 117 = .ok (.if_icmp .ge 21, 3) := by decide +kernel
theorem dX7_sumOf_120 : decode cX7_sumOf 120 = .ok (.iload 8, 2) := by decide +kernel
theorem dX7_sumOf_122 : decode cX7_sumOf 122 = .ok (.iload 6, 2) := by decide +kernel
theorem dX7_sumOf_124 : decode cX7_sumOf 124 = .ok (.iload 9, 2) := by decide +kernel
theorem dX7_sumOf_126 : decode cX7_sumOf 126 = .ok (.ishr, 1) := by decide +kernel
theorem dX7_sumOf_127 : decode cX7_sumOf 127 = .ok (.iconst 1, 1) := by decide +kernel
theorem dX7_sumOf_128 : decode cX7_sumOf 128 = .ok (.iand, 1) := by decide +kernel
theorem dX7_sumOf_129 : decode cX7_sumOf 129 = .ok (.iadd, 1) := by decide +kernel
theorem dX7_sumOf_130 : decode cX7_sumOf 130 = .ok (.istore 8, 2) := by decide +kernel
theorem dX7_sumOf_132 : decode cX7_sumOf 132 = .ok (.iinc 9 1, 3) := by decide +kernel
theorem dX7_sumOf_135 : decode cX7_sumOf 135 = .ok (.goto (-22), 3) := by decide +kernel
theorem dX7_sumOf_138 : decode cX7_sumOf 138 = .ok (.iload_n 2, 1) := by decide +kernel
theorem dX7_sumOf_139 : decode cX7_sumOf 139 = .ok (.bipush 6, 2) := by decide +kernel
theorem dX7_sumOf_141 : decode cX7_sumOf 141 = .ok (.if_icmp .ne 8, 3) := by decide +kernel
theorem dX7_sumOf_144 : decode cX7_sumOf 144 = .ok (.iload 4, 2) := by decide +kernel
theorem dX7_sumOf_146 : decode cX7_sumOf 146 = .ok (.goto 35, 3) := by decide +kernel
theorem dX7_sumOf_149 : decode cX7_sumOf 149 = .ok (.iload_n 2, 1) := by decide +kernel
theorem dX7_sumOf_150 : decode cX7_sumOf 150 = .ok (.bipush 7, 2) := by decide +kernel
theorem dX7_sumOf_152 : decode cX7_sumOf 152 = .ok (.if_icmp .ne 8, 3) := by decide +kernel
theorem dX7_sumOf_155 : decode cX7_sumOf 155 = .ok (.iload 5, 2) := by decide +kernel
theorem dX7_sumOf_157 : decode cX7_sumOf 157 = .ok (.goto 24, 3) := by decide +kernel
theorem dX7_sumOf_160 : decode cX7_sumOf 160 = .ok (.iload_n 2, 1) := by decide +kernel
theorem dX7_sumOf_161 : decode cX7_sumOf 161 = .ok (.bipush 8, 2) := by decide +kernel
theorem dX7_sumOf_163 : decode cX7_sumOf 163 = .ok (.if_icmp .ne 8, 3) := by decide +kernel
theorem dX7_sumOf_166 : decode cX7_sumOf 166 = .ok (.iload 8, 2) := by decide +kernel
theorem dX7_sumOf_168 : decode cX7_sumOf 168 = .ok (.goto 13, 3) := by decide +kernel
theorem dX7_sumOf_171 : decode cX7_sumOf 171 = .ok (.iload 7, 2) := by decide +kernel
theorem dX7_sumOf_173 : decode cX7_sumOf 173 = .ok (.ifCond .eq 7, 3) := by decide +kernel
theorem dX7_sumOf_176 : decode cX7_sumOf 176 = .ok (.iconst 1, 1) := by decide +kernel
theorem dX7_sumOf_177 : decode cX7_sumOf 177 = .ok (.goto 4, 3) := by decide +kernel
theorem dX7_sumOf_180 : decode cX7_sumOf 180 = .ok (.iconst 0, 1) := by decide +kernel
theorem dX7_sumOf_181 : decode cX7_sumOf 181 = .ok (.ireturn, 1) := by decide +kernel
theorem dX7_panel_0 : decode cX7_panel 0 = .ok (.aload_n 0, 1) := by decide +kernel
theorem dX7_panel_1 : decode cX7_panel 1 = .ok (.iload_n 1, 1) := by decide +kernel
theorem dX7_panel_2 : decode cX7_panel 2 = .ok (.invokevirtual 106, 3) := by decide +kernel
theorem dX7_panel_5 : decode cX7_panel 5 = .ok (.ifCond .eq 15, 3) := by decide +kernel
theorem dX7_panel_8 : decode cX7_panel 8 = .ok (.iload_n 2, 1) := by decide +kernel
theorem dX7_panel_9 : decode cX7_panel 9 = .ok (.i2l, 1) := by decide +kernel
theorem dX7_panel_10 : decode cX7_panel 10 = .ok (.lconst 0, 1) := by decide +kernel
theorem dX7_panel_11 : decode cX7_panel 11 = .ok (.ldc2_w 133, 3) := by decide +kernel
theorem dX7_panel_14 : decode cX7_panel 14 = .ok (.invokestatic 43, 3) := by decide +kernel
theorem dX7_panel_17 : decode cX7_panel 17 = .ok (.ifCond .ne 5, 3) := by decide +kernel
theorem dX7_panel_20 : decode cX7_panel 20 = .ok (.iconst (-1), 1) := by decide +kernel
theorem dX7_panel_21 : decode cX7_panel 21 = .ok (.ireturn, 1) := by decide +kernel
theorem dX7_panel_22 : decode cX7_panel 22 = .ok (.iload_n 2, 1) := by decide +kernel
theorem dX7_panel_23 : decode cX7_panel 23 = .ok (.iconst 5, 1) := by decide +kernel
theorem dX7_panel_24 : decode cX7_panel 24 = .ok (.if_icmp .ge 16, 3) := by decide +kernel
theorem dX7_panel_27 : decode cX7_panel 27 = .ok (.aload_n 0, 1) := by decide +kernel
theorem dX7_panel_28 : decode cX7_panel 28 = .ok (.getfield 13, 3) := by decide +kernel
theorem dX7_panel_31 : decode cX7_panel 31 = .ok (.iconst 5, 1) := by decide +kernel
theorem dX7_panel_32 : decode cX7_panel 32 = .ok (.iload_n 1, 1) := by decide +kernel
theorem dX7_panel_33 : decode cX7_panel 33 = .ok (.imul, 1) := by decide +kernel
theorem dX7_panel_34 : decode cX7_panel 34 = .ok (.iload_n 2, 1) := by decide +kernel
theorem dX7_panel_35 : decode cX7_panel 35 = .ok (.iadd, 1) := by decide +kernel
theorem dX7_panel_36 : decode cX7_panel 36 = .ok (.iaload, 1) := by decide +kernel
theorem dX7_panel_37 : decode cX7_panel 37 = .ok (.goto 36, 3) := by decide +kernel
theorem dX7_panel_40 : decode cX7_panel 40 = .ok (.iload_n 2, 1) := by decide +kernel
theorem dX7_panel_41 : decode cX7_panel 41 = .ok (.iconst 5, 1) := by decide +kernel
theorem dX7_panel_42 : decode cX7_panel 42 = .ok (.if_icmp .ne 11, 3) := by decide +kernel
theorem dX7_panel_45 : decode cX7_panel 45 = .ok (.aload_n 0, 1) := by decide +kernel
theorem dX7_panel_46 : decode cX7_panel 46 = .ok (.iload_n 1, 1) := by decide +kernel
theorem dX7_panel_47 : decode cX7_panel 47 = .ok (.invokevirtual 120, 3) := by decide +kernel
theorem dX7_panel_50 : decode cX7_panel 50 = .ok (.goto 23, 3) := by decide +kernel
theorem dX7_panel_53 : decode cX7_panel 53 = .ok (.iload_n 2, 1) := by decide +kernel
theorem dX7_panel_54 : decode cX7_panel 54 = .ok (.bipush 10, 2) := by decide +kernel
theorem dX7_panel_56 : decode cX7_panel 56 = .ok (.if_icmp .ge 12, 3) := by decide +kernel
theorem dX7_panel_59 : decode cX7_panel 59 = .ok (.aload_n 0, 1) := by decide +kernel
theorem dX7_panel_60 : decode cX7_panel 60 = .ok (.iload_n 1, 1) := by decide +kernel
theorem dX7_panel_61 : decode cX7_panel 61 = .ok (.iload_n 2, 1) := by decide +kernel
theorem dX7_panel_62 : decode cX7_panel 62 = .ok (.invokevirtual 135, 3) := by decide +kernel
theorem dX7_panel_65 : decode cX7_panel 65 = .ok (.goto 8, 3) := by decide +kernel
theorem dX7_panel_68 : decode cX7_panel 68 = .ok (.aload_n 0, 1) := by decide +kernel
theorem dX7_panel_69 : decode cX7_panel 69 = .ok (.iload_n 1, 1) := by decide +kernel
theorem dX7_panel_70 : decode cX7_panel 70 = .ok (.invokevirtual 138, 3) := by decide +kernel
theorem dX7_panel_73 : decode cX7_panel 73 = .ok (.ireturn, 1) := by decide +kernel
theorem dX7_planeOf_0 : decode cX7_planeOf 0 = .ok (.aload_n 0, 1) := by decide +kernel
theorem dX7_planeOf_1 : decode cX7_planeOf 1 = .ok (.iload_n 1, 1) := by decide +kernel
theorem dX7_planeOf_2 : decode cX7_planeOf 2 = .ok (.iload_n 2, 1) := by decide +kernel
theorem dX7_planeOf_3 : decode cX7_planeOf 3 = .ok (.invokevirtual 123, 3) := by decide +kernel
theorem dX7_planeOf_6 : decode cX7_planeOf 6 = .ok (.aload_n 0, 1) := by decide +kernel
theorem dX7_planeOf_7 : decode cX7_planeOf 7 = .ok (.iload_n 1, 1) := by decide +kernel
theorem dX7_planeOf_8 : decode cX7_planeOf 8 = .ok (.iload_n 3, 1) := by decide +kernel
theorem dX7_planeOf_9 : decode cX7_planeOf 9 = .ok (.invokevirtual 123, 3) := by decide +kernel
theorem dX7_planeOf_12 : decode cX7_planeOf 12 = .ok (.iadd, 1) := by decide +kernel
theorem dX7_planeOf_13 : decode cX7_planeOf 13 = .ok (.aload_n 0, 1) := by decide +kernel
theorem dX7_planeOf_14 : decode cX7_planeOf 14 = .ok (.getfield 13, 3) := by decide +kernel
theorem dX7_planeOf_17 : decode cX7_planeOf 17 = .ok (.iconst 5, 1) := by decide +kernel
theorem dX7_planeOf_18 : decode cX7_planeOf 18 = .ok (.iload_n 1, 1) := by decide +kernel
theorem dX7_planeOf_19 : decode cX7_planeOf 19 = .ok (.imul, 1) := by decide +kernel
theorem dX7_planeOf_20 : decode cX7_planeOf 20 = .ok (.iconst 1, 1) := by decide +kernel
theorem dX7_planeOf_21 : decode cX7_planeOf 21 = .ok (.iadd, 1) := by decide +kernel
theorem dX7_planeOf_22 : decode cX7_planeOf 22 = .ok (.iaload, 1) := by decide +kernel
theorem dX7_planeOf_23 : decode cX7_planeOf 23 = .ok (.irem, 1) := by decide +kernel
theorem dX7_planeOf_24 : decode cX7_planeOf 24 = .ok (.ireturn, 1) := by decide +kernel
theorem dX7_plane_0 : decode cX7_plane 0 = .ok (.aload_n 0, 1) := by decide +kernel
theorem dX7_plane_1 : decode cX7_plane 1 = .ok (.iload_n 1, 1) := by decide +kernel
theorem dX7_plane_2 : decode cX7_plane 2 = .ok (.invokevirtual 106, 3) := by decide +kernel
theorem dX7_plane_5 : decode cX7_plane 5 = .ok (.ifCond .eq 47, 3) := by decide +kernel
theorem dX7_plane_8 : decode cX7_plane 8 = .ok (.iload_n 2, 1) := by decide +kernel
theorem dX7_plane_9 : decode cX7_plane 9 = .ok (.i2l, 1) := by decide +kernel
theorem dX7_plane_10 : decode cX7_plane 10 = .ok (.lconst 0, 1) := by decide +kernel
theorem dX7_plane_11 : decode cX7_plane 11 = .ok (.aload_n 0, 1) := by decide +kernel
theorem dX7_plane_12 : decode cX7_plane 12 = .ok (.getfield 13, 3) := by decide +kernel
theorem dX7_plane_15 : decode cX7_plane 15 = .ok (.iconst 5, 1) := by decide +kernel
theorem dX7_plane_16 : decode cX7_plane 16 = .ok (.iload_n 1, 1) := by decide +kernel
theorem dX7_plane_17 : decode cX7_plane 17 = .ok (.imul, 1) := by decide +kernel
theorem dX7_plane_18 : decode cX7_plane 18 = .ok (.iconst 1, 1) := by decide +kernel
theorem dX7_plane_19 : decode cX7_plane 19 = .ok (.iadd, 1) := by decide +kernel
theorem dX7_plane_20 : decode cX7_plane 20 = .ok (.iaload, 1) := by decide +kernel
theorem dX7_plane_21 : decode cX7_plane 21 = .ok (.iconst 1, 1) := by decide +kernel
theorem dX7_plane_22 : decode cX7_plane 22 = .ok (.isub, 1) := by decide +kernel
theorem dX7_plane_23 : decode cX7_plane 23 = .ok (.i2l, 1) := by decide +kernel
theorem dX7_plane_24 : decode cX7_plane 24 = .ok (.invokestatic 43, 3) := by decide +kernel
theorem dX7_plane_27 : decode cX7_plane 27 = .ok (.ifCond .eq 25, 3) := by decide +kernel
theorem dX7_plane_30 : decode cX7_plane 30 = .ok (.iload_n 3, 1) := by decide +kernel
theorem dX7_plane_31 : decode cX7_plane 31 = .ok (.i2l, 1) := by decide +kernel
theorem dX7_plane_32 : decode cX7_plane 32 = .ok (.lconst 0, 1) := by decide +kernel
theorem dX7_plane_33 : decode cX7_plane 33 = .ok (.aload_n 0, 1) := by decide +kernel
theorem dX7_plane_34 : decode cX7_plane 34 = .ok (.getfield 13, 3) := by decide +kernel
theorem dX7_plane_37 : decode cX7_plane 37 = .ok (.iconst 5, 1) := by decide +kernel
theorem dX7_plane_38 : decode cX7_plane 38 = .ok (.iload_n 1, 1) := by decide +kernel
theorem dX7_plane_39 : decode cX7_plane 39 = .ok (.imul, 1) := by decide +kernel
theorem dX7_plane_40 : decode cX7_plane 40 = .ok (.iconst 1, 1) := by decide +kernel
theorem dX7_plane_41 : decode cX7_plane 41 = .ok (.iadd, 1) := by decide +kernel
theorem dX7_plane_42 : decode cX7_plane 42 = .ok (.iaload, 1) := by decide +kernel
theorem dX7_plane_43 : decode cX7_plane 43 = .ok (.iconst 1, 1) := by decide +kernel
theorem dX7_plane_44 : decode cX7_plane 44 = .ok (.isub, 1) := by decide +kernel
theorem dX7_plane_45 : decode cX7_plane 45 = .ok (.i2l, 1) := by decide +kernel
theorem dX7_plane_46 : decode cX7_plane 46 = .ok (.invokestatic 43, 3) := by decide +kernel
theorem dX7_plane_49 : decode cX7_plane 49 = .ok (.ifCond .ne 5, 3) := by decide +kernel
theorem dX7_plane_52 : decode cX7_plane 52 = .ok (.iconst (-1), 1) := by decide +kernel
theorem dX7_plane_53 : decode cX7_plane 53 = .ok (.ireturn, 1) := by decide +kernel
theorem dX7_plane_54 : decode cX7_plane 54 = .ok (.aload_n 0, 1) := by decide +kernel
theorem dX7_plane_55 : decode cX7_plane 55 = .ok (.iload_n 1, 1) := by decide +kernel
theorem dX7_plane_56 : decode cX7_plane 56 = .ok (.iload_n 2, 1) := by decide +kernel
theorem dX7_plane_57 : decode cX7_plane 57 = .ok (.iload_n 3, 1) := by decide +kernel
theorem dX7_plane_58 : decode cX7_plane 58 = .ok (.invokevirtual 141, 3) := by decide +kernel
theorem dX7_plane_61 : decode cX7_plane 61 = .ok (.ireturn, 1) := by decide +kernel
theorem dX7_planes_0 : decode cX7_planes 0 = .ok (.aload_n 0, 1) := by decide +kernel
theorem dX7_planes_1 : decode cX7_planes 1 = .ok (.iload_n 1, 1) := by decide +kernel
theorem dX7_planes_2 : decode cX7_planes 2 = .ok (.invokevirtual 106, 3) := by decide +kernel
theorem dX7_planes_5 : decode cX7_planes 5 = .ok (.ifCond .eq 25, 3) := by decide +kernel
theorem dX7_planes_8 : decode cX7_planes 8 = .ok (.iload_n 2, 1) := by decide +kernel
theorem dX7_planes_9 : decode cX7_planes 9 = .ok (.i2l, 1) := by decide +kernel
theorem dX7_planes_10 : decode cX7_planes 10 = .ok (.lconst 0, 1) := by decide +kernel
theorem dX7_planes_11 : decode cX7_planes 11 = .ok (.aload_n 0, 1) := by decide +kernel
theorem dX7_planes_12 : decode cX7_planes 12 = .ok (.getfield 13, 3) := by decide +kernel
theorem dX7_planes_15 : decode cX7_planes 15 = .ok (.iconst 5, 1) := by decide +kernel
theorem dX7_planes_16 : decode cX7_planes 16 = .ok (.iload_n 1, 1) := by decide +kernel
theorem dX7_planes_17 : decode cX7_planes 17 = .ok (.imul, 1) := by decide +kernel
theorem dX7_planes_18 : decode cX7_planes 18 = .ok (.iconst 1, 1) := by decide +kernel
theorem dX7_planes_19 : decode cX7_planes 19 = .ok (.iadd, 1) := by decide +kernel
theorem dX7_planes_20 : decode cX7_planes 20 = .ok (.iaload, 1) := by decide +kernel
theorem dX7_planes_21 : decode cX7_planes 21 = .ok (.iconst 1, 1) := by decide +kernel
theorem dX7_planes_22 : decode cX7_planes 22 = .ok (.isub, 1) := by decide +kernel
theorem dX7_planes_23 : decode cX7_planes 23 = .ok (.i2l, 1) := by decide +kernel
theorem dX7_planes_24 : decode cX7_planes 24 = .ok (.invokestatic 43, 3) := by decide +kernel
theorem dX7_planes_27 : decode cX7_planes 27 = .ok (.ifCond .ne 5, 3) := by decide +kernel
theorem dX7_planes_30 : decode cX7_planes 30 = .ok (.iconst (-1), 1) := by decide +kernel
theorem dX7_planes_31 : decode cX7_planes 31 = .ok (.ireturn, 1) := by decide +kernel
theorem dX7_planes_32 : decode cX7_planes 32 = .ok (.aload_n 0, 1) := by decide +kernel
theorem dX7_planes_33 : decode cX7_planes 33 = .ok (.getfield 13, 3) := by decide +kernel
theorem dX7_planes_36 : decode cX7_planes 36 = .ok (.iconst 5, 1) := by decide +kernel
theorem dX7_planes_37 : decode cX7_planes 37 = .ok (.iload_n 1, 1) := by decide +kernel
theorem dX7_planes_38 : decode cX7_planes 38 = .ok (.imul, 1) := by decide +kernel
theorem dX7_planes_39 : decode cX7_planes 39 = .ok (.iconst 1, 1) := by decide +kernel
theorem dX7_planes_40 : decode cX7_planes 40 = .ok (.iadd, 1) := by decide +kernel
theorem dX7_planes_41 : decode cX7_planes 41 = .ok (.iaload, 1) := by decide +kernel
theorem dX7_planes_42 : decode cX7_planes 42 = .ok (.istore_n 3, 1) := by decide +kernel
theorem dX7_planes_43 : decode cX7_planes 43 = .ok (.iconst 0, 1) := by decide +kernel
theorem dX7_planes_44 : decode cX7_planes 44 = .ok (.istore 4, 2) := by decide +kernel
theorem dX7_planes_46 : decode cX7_planes 46 = .ok (.iconst 0, 1) := by decide +kernel
theorem dX7_planes_47 : decode cX7_planes 47 = .ok (.istore 5, 2) := by decide +kernel
theorem dX7_planes_49 : decode cX7_planes 49 = .ok (.iload 5, 2) := by decide +kernel
theorem dX7_planes_51 : decode cX7_planes 51 = .ok (.iload_n 3, 1) := by decide +kernel
theorem dX7_planes_52 : decode cX7_planes 52 = .ok (.iload_n 3, 1) := by decide +kernel
theorem dX7_planes_53 : decode cX7_planes 53 = .ok (.imul, 1) := by decide +kernel
theorem dX7_planes_54 : decode cX7_planes 54 = .ok (.if_icmp .ge 36, 3) := by decide +kernel
theorem dX7_planes_57 : decode cX7_planes 57 = .ok (.iload 4, 2) := by decide +kernel
theorem dX7_planes_59 : decode cX7_planes 59 = .ok (.aload_n 0, 1) := by decide +kernel
theorem dX7_planes_60 : decode cX7_planes 60 = .ok (.iload_n 1, 1) := by decide +kernel
theorem dX7_planes_61 : decode cX7_planes 61 = .ok (.iload 5, 2) := by decide +kernel
theorem dX7_planes_63 : decode cX7_planes 63 = .ok (.iload_n 3, 1) := by decide +kernel
theorem dX7_planes_64 : decode cX7_planes 64 = .ok (.irem, 1) := by decide +kernel
theorem dX7_planes_65 : decode cX7_planes 65 = .ok (.iload 5, 2) := by decide +kernel
theorem dX7_planes_67 : decode cX7_planes 67 = .ok (.iload_n 3, 1) := by decide +kernel
theorem dX7_planes_68 : decode cX7_planes 68 = .ok (.idiv, 1) := by decide +kernel
theorem dX7_planes_69 : decode cX7_planes 69 = .ok (.invokevirtual 141, 3) := by decide +kernel
theorem dX7_planes_72 : decode cX7_planes 72 = .ok (.iload_n 2, 1) := by decide +kernel
theorem dX7_planes_73 : decode cX7_planes 73 = .ok (.if_icmp .ne 7, 3) := by decide +kernel
theorem dX7_planes_76 : decode cX7_planes 76 = .ok (.iconst 1, 1) := by decide +kernel
theorem dX7_planes_77 : decode cX7_planes 77 = .ok (.goto 4, 3) := by decide +kernel
theorem dX7_planes_80 : decode cX7_planes 80 = .ok (.iconst 0, 1) := by decide +kernel
theorem dX7_planes_81 : decode cX7_planes 81 = .ok (.iadd, 1) := by decide +kernel
theorem dX7_planes_82 : decode cX7_planes 82 = .ok (.istore 4, 2) := by decide +kernel
theorem dX7_planes_84 : decode cX7_planes 84 = .ok (.iinc 5 1, 3) := by decide +kernel
theorem dX7_planes_87 : decode cX7_planes 87 = .ok (.goto (-38), 3) := by decide +kernel
theorem dX7_planes_90 : decode cX7_planes 90 = .ok (.iload 4, 2) := by decide +kernel
theorem dX7_planes_92 : decode cX7_planes 92 = .ok (.ireturn, 1) := by decide +kernel
theorem dX7_cuts_0 : decode cX7_cuts 0 = .ok (.iconst 0, 1) := by decide +kernel
theorem dX7_cuts_1 : decode cX7_cuts 1 = .ok (.istore_n 3, 1) := by decide +kernel
theorem dX7_cuts_2 : decode cX7_cuts 2 = .ok (.iload_n 3, 1) := by decide +kernel
theorem dX7_cuts_3 : decode cX7_cuts 3 = .ok (.aload_n 0, 1) := by decide +kernel
theorem dX7_cuts_4 : decode cX7_cuts 4 = .ok (.getfield 144, 3) := by decide +kernel
theorem dX7_cuts_7 : decode cX7_cuts 7 = .ok (.if_icmp .ge 42, 3) := by decide +kernel
theorem dX7_cuts_10 : decode cX7_cuts 10 = .ok (.aload_n 0, 1) := by decide +kernel
theorem dX7_cuts_11 : decode cX7_cuts 11 = .ok (.getfield 25, 3) := by decide +kernel
theorem dX7_cuts_14 : decode cX7_cuts 14 = .ok (.iload_n 3, 1) := by decide +kernel
theorem dX7_cuts_15 : decode cX7_cuts 15 = .ok (.iaload, 1) := by decide +kernel
theorem dX7_cuts_16 : decode cX7_cuts 16 = .ok (.aload_n 0, 1) := by decide +kernel
theorem dX7_cuts_17 : decode cX7_cuts 17 = .ok (.getfield 13, 3) := by decide +kernel
theorem dX7_cuts_20 : decode cX7_cuts 20 = .ok (.bipush 23, 2) := by decide +kernel
theorem dX7_cuts_22 : decode cX7_cuts 22 = .ok (.iaload, 1) := by decide +kernel
theorem dX7_cuts_23 : decode cX7_cuts 23 = .ok (.aload_n 0, 1) := by decide +kernel
theorem dX7_cuts_24 : decode cX7_cuts 24 = .ok (.getfield 22, 3) := by decide +kernel
theorem dX7_cuts_27 : decode cX7_cuts 27 = .ok (.iload_n 3, 1) := by decide +kernel
theorem dX7_cuts_28 : decode cX7_cuts 28 = .ok (.iaload, 1) := by decide +kernel
theorem dX7_cuts_29 : decode cX7_cuts 29 = .ok (.imul, 1) := by decide +kernel
theorem dX7_cuts_30 : decode cX7_cuts 30 = .ok (.iadd, 1) := by decide +kernel
theorem dX7_cuts_31 : decode cX7_cuts 31 = .ok (.iload_n 1, 1) := by decide +kernel
theorem dX7_cuts_32 : decode cX7_cuts 32 = .ok (.iadd, 1) := by decide +kernel
theorem dX7_cuts_33 : decode cX7_cuts 33 = .ok (.aload_n 0, 1) := by decide +kernel
theorem dX7_cuts_34 : decode cX7_cuts 34 = .ok (.getfield 13, 3) := by decide +kernel
theorem dX7_cuts_37 : decode cX7_cuts 37 = .ok (.bipush 22, 2) := by decide +kernel
theorem dX7_cuts_39 : decode cX7_cuts 39 = .ok (.iaload, 1) := by decide +kernel
theorem dX7_cuts_40 : decode cX7_cuts 40 = .ok (.if_icmp .le 9, 3) := by decide +kernel
theorem dX7_cuts_43 : decode cX7_cuts 43 = .ok (.iinc 3 1, 3) := by decide +kernel
theorem dX7_cuts_46 : decode cX7_cuts 46 = .ok (.goto (-44), 3) := by decide +kernel
theorem dX7_cuts_49 : decode cX7_cuts 49 = .ok (.iload_n 3, 1) := by decide +kernel
theorem dX7_cuts_50 : decode cX7_cuts 50 = .ok (.aload_n 0, 1) := by decide +kernel
theorem dX7_cuts_51 : decode cX7_cuts 51 = .ok (.getfield 144, 3) := by decide +kernel
theorem dX7_cuts_54 : decode cX7_cuts 54 = .ok (.if_icmp .ne 34, 3) := by decide +kernel
theorem dX7_cuts_57 : decode cX7_cuts 57 = .ok (.aload_n 0, 1) := by decide +kernel
theorem dX7_cuts_58 : decode cX7_cuts 58 = .ok (.getfield 22, 3) := by decide +kernel
theorem dX7_cuts_61 : decode cX7_cuts 61 = .ok (.iload_n 3, 1) := by decide +kernel
theorem dX7_cuts_62 : decode cX7_cuts 62 = .ok (.iconst 0, 1) := by decide +kernel
theorem dX7_cuts_63 : decode cX7_cuts 63 = .ok (.iastore, 1) := by decide +kernel
theorem dX7_cuts_64 : decode cX7_cuts 64 = .ok (.aload_n 0, 1) := by decide +kernel
theorem dX7_cuts_65 : decode cX7_cuts 65 = .ok (.getfield 25, 3) := by decide +kernel
theorem dX7_cuts_68 : decode cX7_cuts 68 = .ok (.iload_n 3, 1) := by decide +kernel
theorem dX7_cuts_69 : decode cX7_cuts 69 = .ok (.iconst 0, 1) := by decide +kernel
theorem dX7_cuts_70 : decode cX7_cuts 70 = .ok (.iastore, 1) := by decide +kernel
theorem dX7_cuts_71 : decode cX7_cuts 71 = .ok (.aload_n 0, 1) := by decide +kernel
theorem dX7_cuts_72 : decode cX7_cuts 72 = .ok (.getfield 28, 3) := by decide +kernel
theorem dX7_cuts_75 : decode cX7_cuts 75 = .ok (.iload_n 3, 1) := by decide +kernel
theorem dX7_cuts_76 : decode cX7_cuts 76 = .ok (.iload_n 1, 1) := by decide +kernel
theorem dX7_cuts_77 : decode cX7_cuts 77 = .ok (.iastore, 1) := by decide +kernel
theorem dX7_cuts_78 : decode cX7_cuts 78 = .ok (.aload_n 0, 1) := by decide +kernel
theorem dX7_cuts_79 : decode cX7_cuts 79 = .ok (.dup, 1) := by decide +kernel
theorem dX7_cuts_80 : decode cX7_cuts 80 = .ok (.getfield 144, 3) := by decide +kernel
theorem dX7_cuts_83 : decode cX7_cuts 83 = .ok (.iconst 1, 1) := by decide +kernel
theorem dX7_cuts_84 : decode cX7_cuts 84 = .ok (.iadd, 1) := by decide +kernel
theorem dX7_cuts_85 : decode cX7_cuts 85 = .ok (.putfield 144, 3) := by decide +kernel
theorem dX7_cuts_88 : decode cX7_cuts 88 = .ok (.aload_n 0, 1) := by decide +kernel
theorem dX7_cuts_89 : decode cX7_cuts 89 = .ok (.getfield 22, 3) := by decide +kernel
theorem dX7_cuts_92 : decode cX7_cuts 92 = .ok (.iload_n 3, 1) := by decide +kernel
theorem dX7_cuts_93 : decode cX7_cuts 93 = .ok (.dup2, 1) := by decide +kernel
theorem dX7_cuts_94 : decode cX7_cuts 94 = .ok (.iaload, 1) := by decide +kernel
theorem dX7_cuts_95 : decode cX7_cuts 95 = .ok (.iconst 1, 1) := by decide +kernel
theorem dX7_cuts_96 : decode cX7_cuts 96 = .ok (.iadd, 1) := by decide +kernel
theorem dX7_cuts_97 : decode cX7_cuts 97 = .ok (.iastore, 1) := by decide +kernel
theorem dX7_cuts_98 : decode cX7_cuts 98 = .ok (.aload_n 0, 1) := by decide +kernel
theorem dX7_cuts_99 : decode cX7_cuts 99 = .ok (.getfield 25, 3) := by decide +kernel
theorem dX7_cuts_102 : decode cX7_cuts 102 = .ok (.iload_n 3, 1) := by decide +kernel
theorem dX7_cuts_103 : decode cX7_cuts 103 = .ok (.dup2, 1) := by decide +kernel
theorem dX7_cuts_104 : decode cX7_cuts 104 = .ok (.iaload, 1) := by decide +kernel
theorem dX7_cuts_105 : decode cX7_cuts 105 = .ok (.iload_n 1, 1) := by decide +kernel
theorem dX7_cuts_106 : decode cX7_cuts 106 = .ok (.iadd, 1) := by decide +kernel
theorem dX7_cuts_107 : decode cX7_cuts 107 = .ok (.iastore, 1) := by decide +kernel
theorem dX7_cuts_108 : decode cX7_cuts 108 = .ok (.aload_n 0, 1) := by decide +kernel
theorem dX7_cuts_109 : decode cX7_cuts 109 = .ok (.getfield 31, 3) := by decide +kernel
theorem dX7_cuts_112 : decode cX7_cuts 112 = .ok (.iload_n 2, 1) := by decide +kernel
theorem dX7_cuts_113 : decode cX7_cuts 113 = .ok (.iload_n 3, 1) := by decide +kernel
theorem dX7_cuts_114 : decode cX7_cuts 114 = .ok (.iastore, 1) := by decide +kernel
theorem dX7_cuts_115 : decode cX7_cuts 115 = .ok (.aload_n 0, 1) := by decide +kernel
theorem dX7_cuts_116 : decode cX7_cuts 116 = .ok (.dup, 1) := by decide +kernel
theorem dX7_cuts_117 : decode cX7_cuts 117 = .ok (.getfield 147, 3) := by decide +kernel
theorem dX7_cuts_120 : decode cX7_cuts 120 = .ok (.iconst 1, 1) := by decide +kernel
theorem dX7_cuts_121 : decode cX7_cuts 121 = .ok (.iadd, 1) := by decide +kernel
theorem dX7_cuts_122 : decode cX7_cuts 122 = .ok (.putfield 147, 3) := by decide +kernel
theorem dX7_cuts_125 : decode cX7_cuts 125 = .ok (.aload_n 0, 1) := by decide +kernel
theorem dX7_cuts_126 : decode cX7_cuts 126 = .ok (.dup, 1) := by decide +kernel
theorem dX7_cuts_127 : decode cX7_cuts 127 = .ok (.getfield 150, 3) := by decide +kernel
theorem dX7_cuts_130 : decode cX7_cuts 130 = .ok (.iload_n 1, 1) := by decide +kernel
theorem dX7_cuts_131 : decode cX7_cuts 131 = .ok (.iadd, 1) := by decide +kernel
theorem dX7_cuts_132 : decode cX7_cuts 132 = .ok (.putfield 150, 3) := by decide +kernel
theorem dX7_cuts_135 : decode cX7_cuts 135 = .ok (.return_, 1) := by decide +kernel
theorem dX7_cutsAll_0 : decode cX7_cutsAll 0 = .ok (.aload_n 0, 1) := by decide +kernel
theorem dX7_cutsAll_1 : decode cX7_cutsAll 1 = .ok (.iconst 0, 1) := by decide +kernel
theorem dX7_cutsAll_2 : decode cX7_cutsAll 2 = .ok (.putfield 144, 3) := by decide +kernel
theorem dX7_cutsAll_5 : decode cX7_cutsAll 5 = .ok (.aload_n 0, 1) := by decide +kernel
theorem dX7_cutsAll_6 : decode cX7_cutsAll 6 = .ok (.iconst 0, 1) := by decide +kernel
theorem dX7_cutsAll_7 : decode cX7_cutsAll 7 = .ok (.putfield 147, 3) := by decide +kernel
theorem dX7_cutsAll_10 : decode cX7_cutsAll 10 = .ok (.aload_n 0, 1) := by decide +kernel
theorem dX7_cutsAll_11 : decode cX7_cutsAll 11 = .ok (.iconst 0, 1) := by decide +kernel
theorem dX7_cutsAll_12 : decode cX7_cutsAll 12 = .ok (.putfield 153, 3) := by decide +kernel
theorem dX7_cutsAll_15 : decode cX7_cutsAll 15 = .ok (.aload_n 0, 1) := by decide +kernel
theorem dX7_cutsAll_16 : decode cX7_cutsAll 16 = .ok (.iconst 0, 1) := by decide +kernel
theorem dX7_cutsAll_17 : decode cX7_cutsAll 17 = .ok (.putfield 150, 3) := by decide +kernel
theorem dX7_cutsAll_20 : decode cX7_cutsAll 20 = .ok (.iconst 0, 1) := by decide +kernel
theorem dX7_cutsAll_21 : decode cX7_cutsAll 21 = .ok (.istore_n 1, 1) := by decide +kernel
theorem dX7_cutsAll_22 : decode cX7_cutsAll 22 = .ok (.iload_n 1, 1) := by decide +kernel
theorem dX7_cutsAll_23 : decode cX7_cutsAll 23 = .ok (.sipush 160, 3) := by decide +kernel
theorem dX7_cutsAll_26 : decode cX7_cutsAll 26 = .ok (.if_icmp .ge 83, 3) := by decide +kernel
theorem dX7_cutsAll_29 : decode cX7_cutsAll 29 = .ok (.iload_n 1, 1) := by decide +kernel
theorem dX7_cutsAll_30 : decode cX7_cutsAll 30 = .ok (.bipush 40, 2) := by decide +kernel
theorem dX7_cutsAll_32 : decode cX7_cutsAll 32 = .ok (.idiv, 1) := by decide +kernel
theorem dX7_cutsAll_33 : decode cX7_cutsAll 33 = .ok (.aload_n 0, 1) := by decide +kernel
theorem dX7_cutsAll_34 : decode cX7_cutsAll 34 = .ok (.getfield 13, 3) := by decide +kernel
theorem dX7_cutsAll_37 : decode cX7_cutsAll 37 = .ok (.bipush 20, 2) := by decide +kernel
theorem dX7_cutsAll_39 : decode cX7_cutsAll 39 = .ok (.iaload, 1) := by decide +kernel
theorem dX7_cutsAll_40 : decode cX7_cutsAll 40 = .ok (.if_icmp .ge 27, 3) := by decide +kernel
theorem dX7_cutsAll_43 : decode cX7_cutsAll 43 = .ok (.iload_n 1, 1) := by decide +kernel
theorem dX7_cutsAll_44 : decode cX7_cutsAll 44 = .ok (.bipush 40, 2) := by decide +kernel
theorem dX7_cutsAll_46 : decode cX7_cutsAll 46 = .ok (.irem, 1) := by decide +kernel
theorem dX7_cutsAll_47 : decode cX7_cutsAll 47 = .ok (.aload_n 0, 1) := by decide +kernel
theorem dX7_cutsAll_48 : decode cX7_cutsAll 48 = .ok (.getfield 13, 3) := by decide +kernel
theorem dX7_cutsAll_51 : decode cX7_cutsAll 51 = .ok (.iconst 5, 1) := by decide +kernel
theorem dX7_cutsAll_52 : decode cX7_cutsAll 52 = .ok (.iload_n 1, 1) := by decide +kernel
theorem dX7_cutsAll_53 : decode cX7_cutsAll 53 = .ok (.bipush 40, 2) := by decide +kernel
theorem dX7_cutsAll_55 : decode cX7_cutsAll 55 = .ok (.idiv, 1) := by decide +kernel
theorem dX7_cutsAll_56 : decode cX7_cutsAll 56 = .ok (.imul, 1) := by decide +kernel
theorem dX7_cutsAll_57 : decode cX7_cutsAll 57 = .ok (.iconst 4, 1) := by decide +kernel
theorem dX7_cutsAll_58 : decode cX7_cutsAll 58 = .ok (.iadd, 1) := by decide +kernel
theorem dX7_cutsAll_59 : decode cX7_cutsAll 59 = .ok (.iaload, 1) := by decide +kernel
theorem dX7_cutsAll_60 : decode cX7_cutsAll 60 = .ok (.if_icmp .ge 7, 3) := by decide +kernel
theorem dX7_cutsAll_63 : decode cX7_cutsAll 63 = .ok (.iconst 1, 1) := by decide +kernel
theorem dX7_cutsAll_64 : decode cX7_cutsAll 64 = .ok (.goto 4, 3) := by decide +kernel
theorem dX7_cutsAll_67 : decode cX7_cutsAll 67 = .ok (.iconst 0, 1) := by decide +kernel
theorem dX7_cutsAll_68 : decode cX7_cutsAll 68 = .ok (.istore_n 2, 1) := by decide +kernel
theorem dX7_cutsAll_69 : decode cX7_cutsAll 69 = .ok (.aload_n 0, 1) := by decide +kernel
theorem dX7_cutsAll_70 : decode cX7_cutsAll 70 = .ok (.getfield 34, 3) := by decide +kernel
theorem dX7_cutsAll_73 : decode cX7_cutsAll 73 = .ok (.iload_n 1, 1) := by decide +kernel
theorem dX7_cutsAll_74 : decode cX7_cutsAll 74 = .ok (.iload_n 2, 1) := by decide +kernel
theorem dX7_cutsAll_75 : decode cX7_cutsAll 75 = .ok (.ifCond .eq 18, 3) := by decide +kernel
theorem dX7_cutsAll_78 : decode cX7_cutsAll 78 = .ok (.aload_n 0, 1) := by decide +kernel
theorem dX7_cutsAll_79 : decode cX7_cutsAll 79 = .ok (.iload_n 1, 1) := by decide +kernel
theorem dX7_cutsAll_80 : decode cX7_cutsAll 80 = .ok (.bipush 40, 2) := by decide +kernel
theorem dX7_cutsAll_82 : decode cX7_cutsAll 82 = .ok (.idiv, 1) := by decide +kernel
theorem dX7_cutsAll_83 : decode cX7_cutsAll 83 = .ok (.iload_n 1, 1) := by decide +kernel
theorem dX7_cutsAll_84 : decode cX7_cutsAll 84 = .ok (.bipush 40, 2) := by decide +kernel
theorem dX7_cutsAll_86 : decode cX7_cutsAll 86 = .ok (.irem, 1) := by decide +kernel
theorem dX7_cutsAll_87 : decode cX7_cutsAll 87 = .ok (.invokevirtual 126, 3) := by decide +kernel
theorem dX7_cutsAll_90 : decode cX7_cutsAll 90 = .ok (.goto 4, 3) := by decide +kernel
theorem dX7_cutsAll_93 : decode cX7_cutsAll 93 = .ok (.iconst 0, 1) := by decide +kernel
theorem dX7_cutsAll_94 : decode cX7_cutsAll 94 = .ok (.iastore, 1) := by decide +kernel
theorem dX7_cutsAll_95 : decode cX7_cutsAll 95 = .ok (.aload_n 0, 1) := by decide +kernel
theorem dX7_cutsAll_96 : decode cX7_cutsAll 96 = .ok (.getfield 31, 3) := by decide +kernel
theorem dX7_cutsAll_99 : decode cX7_cutsAll 99 = .ok (.iload_n 1, 1) := by decide +kernel
theorem dX7_cutsAll_100 : decode cX7_cutsAll 100 = .ok (.bipush (-4), 2) := by decide +kernel
theorem dX7_cutsAll_102 : decode cX7_cutsAll 102 = .ok (.iastore, 1) := by decide +kernel
theorem dX7_cutsAll_103 : decode cX7_cutsAll 103 = .ok (.iinc 1 1, 3) := by decide +kernel
theorem dX7_cutsAll_106 : decode cX7_cutsAll 106 = .ok (.goto (-84), 3) := by decide +kernel
theorem dX7_cutsAll_109 : decode cX7_cutsAll 109 = .ok (.bipush 30, 2) := by decide +kernel
theorem dX7_cutsAll_111 : decode cX7_cutsAll 111 = .ok (.istore_n 1, 1) := by decide +kernel
theorem dX7_cutsAll_112 : decode cX7_cutsAll 112 = .ok (.iload_n 1, 1) := by decide +kernel
theorem dX7_cutsAll_113 : decode cX7_cutsAll 113 = .ok (.ifCond .le 84, 3) := by decide +kernel
theorem dX7_cutsAll_116 : decode cX7_cutsAll 116 = .ok (.iload_n 1, 1) := by decide +kernel
theorem dX7_cutsAll_117 : decode cX7_cutsAll 117 = .ok (.aload_n 0, 1) := by decide +kernel
theorem dX7_cutsAll_118 : decode cX7_cutsAll 118 = .ok (.getfield 13, 3) := by decide +kernel
theorem dX7_cutsAll_121 : decode cX7_cutsAll 121 = .ok (.bipush 21, 2) := by decide +kernel
theorem dX7_cutsAll_123 : decode cX7_cutsAll 123 = .ok (.iaload, 1) := by decide +kernel
theorem dX7_cutsAll_124 : decode cX7_cutsAll 124 = .ok (.imul, 1) := by decide +kernel
theorem dX7_cutsAll_125 : decode cX7_cutsAll 125 = .ok (.istore_n 2, 1) := by decide +kernel
theorem dX7_cutsAll_126 : decode cX7_cutsAll 126 = .ok (.iconst 0, 1) := by decide +kernel
theorem dX7_cutsAll_127 : decode cX7_cutsAll 127 = .ok (.istore_n 3, 1) := by decide +kernel
theorem dX7_cutsAll_128 : decode cX7_cutsAll 128 = .ok (.iload_n 3, 1) := by decide +kernel
theorem dX7_cutsAll_129 : decode cX7_cutsAll 129 = .ok (.sipush 160, 3) := by decide +kernel
theorem dX7_cutsAll_132 : decode cX7_cutsAll 132 = .ok (.if_icmp .ge 59, 3) := by decide +kernel
theorem dX7_cutsAll_135 : decode cX7_cutsAll 135 = .ok (.aload_n 0, 1) := by decide +kernel
theorem dX7_cutsAll_136 : decode cX7_cutsAll 136 = .ok (.getfield 34, 3) := by decide +kernel
theorem dX7_cutsAll_139 : decode cX7_cutsAll 139 = .ok (.iload_n 3, 1) := by decide +kernel
theorem dX7_cutsAll_140 : decode cX7_cutsAll 140 = .ok (.iaload, 1) := by decide +kernel
theorem dX7_cutsAll_141 : decode cX7_cutsAll 141 = .ok (.iload_n 1, 1) := by decide +kernel
theorem dX7_cutsAll_142 : decode cX7_cutsAll 142 = .ok (.if_icmp .ne 27, 3) := by decide +kernel
theorem dX7_cutsAll_145 : decode cX7_cutsAll 145 = .ok (.iload_n 2, 1) := by decide +kernel
theorem dX7_cutsAll_146 : decode cX7_cutsAll 146 = .ok (.aload_n 0, 1) := by decide +kernel
theorem dX7_cutsAll_147 : decode cX7_cutsAll 147 = .ok (.getfield 13, 3) := by decide +kernel
theorem dX7_cutsAll_150 : decode cX7_cutsAll 150 = .ok (.bipush 22, 2) := by decide +kernel
theorem dX7_cutsAll_152 : decode cX7_cutsAll 152 = .ok (.iaload, 1) := by decide +kernel
theorem dX7_cutsAll_153 : decode cX7_cutsAll 153 = .ok (.if_icmp .le 16, 3) := by decide +kernel
theorem dX7_cutsAll_156 : decode cX7_cutsAll 156 = .ok (.aload_n 0, 1) := by decide +kernel
theorem dX7_cutsAll_157 : decode cX7_cutsAll 157 = .ok (.dup, 1) := by decide +kernel
theorem dX7_cutsAll_158 : decode cX7_cutsAll 158 = .ok (.getfield 153, 3) := by decide +kernel
theorem dX7_cutsAll_161 : decode cX7_cutsAll 161 = .ok (.iconst 1, 1) := by decide +kernel
theorem dX7_cutsAll_162 : decode cX7_cutsAll 162 = .ok (.iadd, 1) := by decide +kernel
theorem dX7_cutsAll_163 : decode cX7_cutsAll 163 = .ok (.putfield 153, 3) := by decide +kernel
theorem dX7_cutsAll_166 : decode cX7_cutsAll 166 = .ok (.goto 19, 3) := by decide +kernel
theorem dX7_cutsAll_169 : decode cX7_cutsAll 169 = .ok (.aload_n 0, 1) := by decide +kernel
theorem dX7_cutsAll_170 : decode cX7_cutsAll 170 = .ok (.getfield 34, 3) := by decide +kernel
theorem dX7_cutsAll_173 : decode cX7_cutsAll 173 = .ok (.iload_n 3, 1) := by decide +kernel
theorem dX7_cutsAll_174 : decode cX7_cutsAll 174 = .ok (.iaload, 1) := by decide +kernel
theorem dX7_cutsAll_175 : decode cX7_cutsAll 175 = .ok (.iload_n 1, 1) := by decide +kernel
theorem dX7_cutsAll_176 : decode cX7_cutsAll 176 = .ok (.if_icmp .ne 9, 3) := by decide +kernel
theorem dX7_cutsAll_179 : decode cX7_cutsAll 179 = .ok (.aload_n 0, 1) := by decide +kernel
theorem dX7_cutsAll_180 : decode cX7_cutsAll 180 = .ok (.iload_n 2, 1) := by decide +kernel
theorem dX7_cutsAll_181 : decode cX7_cutsAll 181 = .ok (.iload_n 3, 1) := by decide +kernel
theorem dX7_cutsAll_182 : decode cX7_cutsAll 182 = .ok (.invokevirtual 156, 3) := by decide +kernel
theorem dX7_cutsAll_185 : decode cX7_cutsAll 185 = .ok (.iinc 3 1, 3) := by decide +kernel
theorem dX7_cutsAll_188 : decode cX7_cutsAll 188 = .ok (.goto (-60), 3) := by decide +kernel
theorem dX7_cutsAll_191 : decode cX7_cutsAll 191 = .ok (.iinc 1 (-1), 3) := by decide +kernel
theorem dX7_cutsAll_194 : decode cX7_cutsAll 194 = .ok (.goto (-82), 3) := by decide +kernel
theorem dX7_cutsAll_197 : decode cX7_cutsAll 197 = .ok (.return_, 1) := by decide +kernel
theorem dX7_cut_0 : decode cX7_cut 0 = .ok (.iload_n 1, 1) := by decide +kernel
theorem dX7_cut_1 : decode cX7_cut 1 = .ok (.i2l, 1) := by decide +kernel
theorem dX7_cut_2 : decode cX7_cut 2 = .ok (.lconst 0, 1) := by decide +kernel
theorem dX7_cut_3 : decode cX7_cut 3 = .ok (.ldc2_w 159, 3) := by decide +kernel
theorem dX7_cut_6 : decode cX7_cut 6 = .ok (.invokestatic 43, 3) := by decide +kernel
theorem dX7_cut_9 : decode cX7_cut 9 = .ok (.ifCond .ne 5, 3) := by decide +kernel
theorem dX7_cut_12 : decode cX7_cut 12 = .ok (.iconst (-1), 1) := by decide +kernel
theorem dX7_cut_13 : decode cX7_cut 13 = .ok (.ireturn, 1) := by decide +kernel
theorem dX7_cut_14 : decode cX7_cut 14 = .ok (.aload_n 0, 1) := by decide +kernel
theorem dX7_cut_15 : decode cX7_cut 15 = .ok (.invokevirtual 161, 3) := by decide +kernel
theorem dX7_cut_18 : decode cX7_cut 18 = .ok (.iload_n 1, 1) := by decide +kernel
theorem dX7_cut_19 : decode cX7_cut 19 = .ok (.ifCond .ne 10, 3) := by decide +kernel
theorem dX7_cut_22 : decode cX7_cut 22 = .ok (.aload_n 0, 1) := by decide +kernel
theorem dX7_cut_23 : decode cX7_cut 23 = .ok (.getfield 144, 3) := by decide +kernel
theorem dX7_cut_26 : decode cX7_cut 26 = .ok (.goto 74, 3) := by decide +kernel
theorem dX7_cut_29 : decode cX7_cut 29 = .ok (.iload_n 1, 1) := by decide +kernel
theorem dX7_cut_30 : decode cX7_cut 30 = .ok (.iconst 1, 1) := by decide +kernel
theorem dX7_cut_31 : decode cX7_cut 31 = .ok (.if_icmp .ne 10, 3) := by decide +kernel
theorem dX7_cut_34 : decode cX7_cut 34 = .ok (.aload_n 0, 1) := by decide +kernel
theorem dX7_cut_35 : decode cX7_cut 35 = .ok (.getfield 147, 3) := by decide +kernel
theorem dX7_cut_38 : decode cX7_cut 38 = .ok (.goto 62, 3) := by decide +kernel
theorem dX7_cut_41 : decode cX7_cut 41 = .ok (.iload_n 1, 1) := by decide +kernel
theorem dX7_cut_42 : decode cX7_cut 42 = .ok (.iconst 2, 1) := by decide +kernel
theorem dX7_cut_43 : decode cX7_cut 43 = .ok (.if_icmp .ne 10, 3) := by decide +kernel
theorem dX7_cut_46 : decode cX7_cut 46 = .ok (.aload_n 0, 1) := by decide +kernel
theorem dX7_cut_47 : decode cX7_cut 47 = .ok (.getfield 153, 3) := by decide +kernel
theorem dX7_cut_50 : decode cX7_cut 50 = .ok (.goto 50, 3) := by decide +kernel
theorem dX7_cut_53 : decode cX7_cut 53 = .ok (.iload_n 1, 1) := by decide +kernel
theorem dX7_cut_54 : decode cX7_cut 54 = .ok (.iconst 3, 1) := by decide +kernel
theorem dX7_cut_55 : decode cX7_cut 55 = .ok (.if_icmp .ne 28, 3) := by decide +kernel
theorem dX7_cut_58 : decode cX7_cut 58 = .ok (.aload_n 0, 1) := by decide +kernel
theorem dX7_cut_59 : decode cX7_cut 59 = .ok (.getfield 150, 3) := by decide +kernel
theorem dX7_cut_62 : decode cX7_cut 62 = .ok (.aload_n 0, 1) := by decide +kernel
theorem dX7_cut_63 : decode cX7_cut 63 = .ok (.getfield 13, 3) := by decide +kernel
theorem dX7_cut_66 : decode cX7_cut 66 = .ok (.bipush 22, 2) := by decide +kernel
theorem dX7_cut_68 : decode cX7_cut 68 = .ok (.iaload, 1) := by decide +kernel
theorem dX7_cut_69 : decode cX7_cut 69 = .ok (.iadd, 1) := by decide +kernel
theorem dX7_cut_70 : decode cX7_cut 70 = .ok (.iconst 1, 1) := by decide +kernel
theorem dX7_cut_71 : decode cX7_cut 71 = .ok (.isub, 1) := by decide +kernel
theorem dX7_cut_72 : decode cX7_cut 72 = .ok (.aload_n 0, 1) := by decide +kernel
theorem dX7_cut_73 : decode cX7_cut 73 = .ok (.getfield 13, 3) := by decide +kernel
theorem dX7_cut_76 : decode cX7_cut 76 = .ok (.bipush 22, 2) := by decide +kernel
theorem dX7_cut_78 : decode cX7_cut 78 = .ok (.iaload, 1) := by decide +kernel
theorem dX7_cut_79 : decode cX7_cut 79 = .ok (.idiv, 1) := by decide +kernel
theorem dX7_cut_80 : decode cX7_cut 80 = .ok (.goto 20, 3) := by decide +kernel
theorem dX7_cut_83 : decode cX7_cut 83 = .ok (.aload_n 0, 1) := by decide +kernel
theorem dX7_cut_84 : decode cX7_cut 84 = .ok (.getfield 144, 3) := by decide +kernel
theorem dX7_cut_87 : decode cX7_cut 87 = .ok (.aload_n 0, 1) := by decide +kernel
theorem dX7_cut_88 : decode cX7_cut 88 = .ok (.getfield 13, 3) := by decide +kernel
theorem dX7_cut_91 : decode cX7_cut 91 = .ok (.bipush 22, 2) := by decide +kernel
theorem dX7_cut_93 : decode cX7_cut 93 = .ok (.iaload, 1) := by decide +kernel
theorem dX7_cut_94 : decode cX7_cut 94 = .ok (.imul, 1) := by decide +kernel
theorem dX7_cut_95 : decode cX7_cut 95 = .ok (.aload_n 0, 1) := by decide +kernel
theorem dX7_cut_96 : decode cX7_cut 96 = .ok (.getfield 150, 3) := by decide +kernel
theorem dX7_cut_99 : decode cX7_cut 99 = .ok (.isub, 1) := by decide +kernel
theorem dX7_cut_100 : decode cX7_cut 100 = .ok (.ireturn, 1) := by decide +kernel
theorem dX7_board_0 : decode cX7_board 0 = .ok (.aload_n 0, 1) := by decide +kernel
theorem dX7_board_1 : decode cX7_board 1 = .ok (.invokevirtual 161, 3) := by decide +kernel
theorem dX7_board_4 : decode cX7_board 4 = .ok (.iload_n 1, 1) := by decide +kernel
theorem dX7_board_5 : decode cX7_board 5 = .ok (.i2l, 1) := by decide +kernel
theorem dX7_board_6 : decode cX7_board 6 = .ok (.lconst 0, 1) := by decide +kernel
theorem dX7_board_7 : decode cX7_board 7 = .ok (.aload_n 0, 1) := by decide +kernel
theorem dX7_board_8 : decode cX7_board 8 = .ok (.getfield 144, 3) := by decide +kernel
theorem dX7_board_11 : decode cX7_board 11 = .ok (.iconst 1, 1) := by decide +kernel
theorem dX7_board_12 : decode cX7_board 12 = .ok (.isub, 1) := by decide +kernel
theorem dX7_board_13 : decode cX7_board 13 = .ok (.i2l, 1) := by decide +kernel
theorem dX7_board_14 : decode cX7_board 14 = .ok (.invokestatic 43, 3) := by decide +kernel
theorem dX7_board_17 : decode cX7_board 17 = .ok (.ifCond .eq 15, 3) := by decide +kernel
theorem dX7_board_20 : decode cX7_board 20 = .ok (.iload_n 2, 1) := by decide +kernel
theorem dX7_board_21 : decode cX7_board 21 = .ok (.i2l, 1) := by decide +kernel
theorem dX7_board_22 : decode cX7_board 22 = .ok (.lconst 0, 1) := by decide +kernel
theorem dX7_board_23 : decode cX7_board 23 = .ok (.ldc2_w 41, 3) := by decide +kernel
theorem dX7_board_26 : decode cX7_board 26 = .ok (.invokestatic 43, 3) := by decide +kernel
theorem dX7_board_29 : decode cX7_board 29 = .ok (.ifCond .ne 5, 3) := by decide +kernel
theorem dX7_board_32 : decode cX7_board 32 = .ok (.iconst (-1), 1) := by decide +kernel
theorem dX7_board_33 : decode cX7_board 33 = .ok (.ireturn, 1) := by decide +kernel
theorem dX7_board_34 : decode cX7_board 34 = .ok (.iload_n 2, 1) := by decide +kernel
theorem dX7_board_35 : decode cX7_board 35 = .ok (.ifCond .ne 12, 3) := by decide +kernel
theorem dX7_board_38 : decode cX7_board 38 = .ok (.aload_n 0, 1) := by decide +kernel
theorem dX7_board_39 : decode cX7_board 39 = .ok (.getfield 22, 3) := by decide +kernel
theorem dX7_board_42 : decode cX7_board 42 = .ok (.iload_n 1, 1) := by decide +kernel
theorem dX7_board_43 : decode cX7_board 43 = .ok (.iaload, 1) := by decide +kernel
theorem dX7_board_44 : decode cX7_board 44 = .ok (.goto 31, 3) := by decide +kernel
theorem dX7_board_47 : decode cX7_board 47 = .ok (.iload_n 2, 1) := by decide +kernel
theorem dX7_board_48 : decode cX7_board 48 = .ok (.iconst 1, 1) := by decide +kernel
theorem dX7_board_49 : decode cX7_board 49 = .ok (.if_icmp .ne 20, 3) := by decide +kernel
theorem dX7_board_52 : decode cX7_board 52 = .ok (.aload_n 0, 1) := by decide +kernel
theorem dX7_board_53 : decode cX7_board 53 = .ok (.getfield 13, 3) := by decide +kernel
theorem dX7_board_56 : decode cX7_board 56 = .ok (.bipush 22, 2) := by decide +kernel
theorem dX7_board_58 : decode cX7_board 58 = .ok (.iaload, 1) := by decide +kernel
theorem dX7_board_59 : decode cX7_board 59 = .ok (.aload_n 0, 1) := by decide +kernel
theorem dX7_board_60 : decode cX7_board 60 = .ok (.getfield 25, 3) := by decide +kernel
theorem dX7_board_63 : decode cX7_board 63 = .ok (.iload_n 1, 1) := by decide +kernel
theorem dX7_board_64 : decode cX7_board 64 = .ok (.iaload, 1) := by decide +kernel
theorem dX7_board_65 : decode cX7_board 65 = .ok (.isub, 1) := by decide +kernel
theorem dX7_board_66 : decode cX7_board 66 = .ok (.goto 9, 3) := by decide +kernel
theorem dX7_board_69 : decode cX7_board 69 = .ok (.aload_n 0, 1) := by decide +kernel
theorem dX7_board_70 : decode cX7_board 70 = .ok (.getfield 28, 3) := by decide +kernel
theorem dX7_board_73 : decode cX7_board 73 = .ok (.iload_n 1, 1) := by decide +kernel
theorem dX7_board_74 : decode cX7_board 74 = .ok (.iaload, 1) := by decide +kernel
theorem dX7_board_75 : decode cX7_board 75 = .ok (.ireturn, 1) := by decide +kernel
theorem dX7_where_0 : decode cX7_where 0 = .ok (.aload_n 0, 1) := by decide +kernel
theorem dX7_where_1 : decode cX7_where 1 = .ok (.iload_n 1, 1) := by decide +kernel
theorem dX7_where_2 : decode cX7_where 2 = .ok (.invokevirtual 106, 3) := by decide +kernel
theorem dX7_where_5 : decode cX7_where 5 = .ok (.ifCond .eq 25, 3) := by decide +kernel
theorem dX7_where_8 : decode cX7_where 8 = .ok (.iload_n 2, 1) := by decide +kernel
theorem dX7_where_9 : decode cX7_where 9 = .ok (.i2l, 1) := by decide +kernel
theorem dX7_where_10 : decode cX7_where 10 = .ok (.lconst 0, 1) := by decide +kernel
theorem dX7_where_11 : decode cX7_where 11 = .ok (.aload_n 0, 1) := by decide +kernel
theorem dX7_where_12 : decode cX7_where 12 = .ok (.getfield 13, 3) := by decide +kernel
theorem dX7_where_15 : decode cX7_where 15 = .ok (.iconst 5, 1) := by decide +kernel
theorem dX7_where_16 : decode cX7_where 16 = .ok (.iload_n 1, 1) := by decide +kernel
theorem dX7_where_17 : decode cX7_where 17 = .ok (.imul, 1) := by decide +kernel
theorem dX7_where_18 : decode cX7_where 18 = .ok (.iconst 4, 1) := by decide +kernel
theorem dX7_where_19 : decode cX7_where 19 = .ok (.iadd, 1) := by decide +kernel
theorem dX7_where_20 : decode cX7_where 20 = .ok (.iaload, 1) := by decide +kernel
theorem dX7_where_21 : decode cX7_where 21 = .ok (.iconst 1, 1) := by decide +kernel
theorem dX7_where_22 : decode cX7_where 22 = .ok (.isub, 1) := by decide +kernel
theorem dX7_where_23 : decode cX7_where 23 = .ok (.i2l, 1) := by decide +kernel
theorem dX7_where_24 : decode cX7_where 24 = .ok (.invokestatic 43, 3) := by decide +kernel
theorem dX7_where_27 : decode cX7_where 27 = .ok (.ifCond .ne 5, 3) := by decide +kernel
theorem dX7_where_30 : decode cX7_where 30 = .ok (.iconst (-1), 1) := by decide +kernel
theorem dX7_where_31 : decode cX7_where 31 = .ok (.ireturn, 1) := by decide +kernel
theorem dX7_where_32 : decode cX7_where 32 = .ok (.aload_n 0, 1) := by decide +kernel
theorem dX7_where_33 : decode cX7_where 33 = .ok (.invokevirtual 161, 3) := by decide +kernel
theorem dX7_where_36 : decode cX7_where 36 = .ok (.aload_n 0, 1) := by decide +kernel
theorem dX7_where_37 : decode cX7_where 37 = .ok (.getfield 31, 3) := by decide +kernel
theorem dX7_where_40 : decode cX7_where 40 = .ok (.bipush 40, 2) := by decide +kernel
theorem dX7_where_42 : decode cX7_where 42 = .ok (.iload_n 1, 1) := by decide +kernel
theorem dX7_where_43 : decode cX7_where 43 = .ok (.imul, 1) := by decide +kernel
theorem dX7_where_44 : decode cX7_where 44 = .ok (.iload_n 2, 1) := by decide +kernel
theorem dX7_where_45 : decode cX7_where 45 = .ok (.iadd, 1) := by decide +kernel
theorem dX7_where_46 : decode cX7_where 46 = .ok (.iaload, 1) := by decide +kernel
theorem dX7_where_47 : decode cX7_where 47 = .ok (.ireturn, 1) := by decide +kernel
theorem dX7_best_0 : decode cX7_best 0 = .ok (.aload_n 0, 1) := by decide +kernel
theorem dX7_best_1 : decode cX7_best 1 = .ok (.iload_n 1, 1) := by decide +kernel
theorem dX7_best_2 : decode cX7_best 2 = .ok (.invokevirtual 106, 3) := by decide +kernel
theorem dX7_best_5 : decode cX7_best 5 = .ok (.ifCond .eq 13, 3) := by decide +kernel
theorem dX7_best_8 : decode cX7_best 8 = .ok (.iload_n 2, 1) := by decide +kernel
theorem dX7_best_9 : decode cX7_best 9 = .ok (.i2l, 1) := by decide +kernel
theorem dX7_best_10 : decode cX7_best 10 = .ok (.lconst 0, 1) := by decide +kernel
theorem dX7_best_11 : decode cX7_best 11 = .ok (.lconst 1, 1) := by decide +kernel
theorem dX7_best_12 : decode cX7_best 12 = .ok (.invokestatic 43, 3) := by decide +kernel
theorem dX7_best_15 : decode cX7_best 15 = .ok (.ifCond .ne 5, 3) := by decide +kernel
theorem dX7_best_18 : decode cX7_best 18 = .ok (.iconst (-1), 1) := by decide +kernel
theorem dX7_best_19 : decode cX7_best 19 = .ok (.ireturn, 1) := by decide +kernel
theorem dX7_best_20 : decode cX7_best 20 = .ok (.aload_n 0, 1) := by decide +kernel
theorem dX7_best_21 : decode cX7_best 21 = .ok (.getfield 13, 3) := by decide +kernel
theorem dX7_best_24 : decode cX7_best 24 = .ok (.iconst 5, 1) := by decide +kernel
theorem dX7_best_25 : decode cX7_best 25 = .ok (.iload_n 1, 1) := by decide +kernel
theorem dX7_best_26 : decode cX7_best 26 = .ok (.imul, 1) := by decide +kernel
theorem dX7_best_27 : decode cX7_best 27 = .ok (.iconst 3, 1) := by decide +kernel
theorem dX7_best_28 : decode cX7_best 28 = .ok (.iadd, 1) := by decide +kernel
theorem dX7_best_29 : decode cX7_best 29 = .ok (.iaload, 1) := by decide +kernel
theorem dX7_best_30 : decode cX7_best 30 = .ok (.istore_n 3, 1) := by decide +kernel
theorem dX7_best_31 : decode cX7_best 31 = .ok (.iconst 0, 1) := by decide +kernel
theorem dX7_best_32 : decode cX7_best 32 = .ok (.istore 4, 2) := by decide +kernel
theorem dX7_best_34 : decode cX7_best 34 = .ok (.sipush 1000, 3) := by decide +kernel
theorem dX7_best_37 : decode cX7_best 37 = .ok (.istore 5, 2) := by decide +kernel
theorem dX7_best_39 : decode cX7_best 39 = .ok (.sipush 1000, 3) := by decide +kernel
theorem dX7_best_42 : decode cX7_best 42 = .ok (.istore 6, 2) := by decide +kernel
theorem dX7_best_44 : decode cX7_best 44 = .ok (.iconst 0, 1) := by decide +kernel
theorem dX7_best_45 : decode cX7_best 45 = .ok (.istore 7, 2) := by decide +kernel
theorem dX7_best_47 : decode cX7_best 47 = .ok (.iconst 0, 1) := by decide +kernel
theorem dX7_best_48 : decode cX7_best 48 = .ok (.istore 8, 2) := by decide +kernel
theorem dX7_best_50 : decode cX7_best 50 = .ok (.iload 8, 2) := by decide +kernel
theorem dX7_best_52 : decode cX7_best 52 = .ok (.aload_n 0, 1) := by decide +kernel
theorem dX7_best_53 : decode cX7_best 53 = .ok (.getfield 13, 3) := by decide +kernel
theorem dX7_best_56 : decode cX7_best 56 = .ok (.iconst 5, 1) := by decide +kernel
theorem dX7_best_57 : decode cX7_best 57 = .ok (.iload_n 1, 1) := by decide +kernel
theorem dX7_best_58 : decode cX7_best 58 = .ok (.imul, 1) := by decide +kernel
theorem dX7_best_59 : decode cX7_best 59 = .ok (.iconst 1, 1) := by decide +kernel
theorem dX7_best_60 : decode cX7_best 60 = .ok (.iadd, 1) := by decide +kernel
theorem dX7_best_61 : decode cX7_best 61 = .ok (.iaload, 1) := by decide +kernel
theorem dX7_best_62 : decode cX7_best 62 = .ok (.if_icmp .ge 183, 3) := by decide +kernel
theorem dX7_best_65 : decode cX7_best 65 = .ok (.aload_n 0, 1) := by decide +kernel
theorem dX7_best_66 : decode cX7_best 66 = .ok (.getfield 13, 3) := by decide +kernel
theorem dX7_best_69 : decode cX7_best 69 = .ok (.iconst 5, 1) := by decide +kernel
theorem dX7_best_70 : decode cX7_best 70 = .ok (.iload_n 1, 1) := by decide +kernel
theorem dX7_best_71 : decode cX7_best 71 = .ok (.imul, 1) := by decide +kernel
theorem dX7_best_72 : decode cX7_best 72 = .ok (.iconst 3, 1) := by decide +kernel
theorem dX7_best_73 : decode cX7_best 73 = .ok (.iadd, 1) := by decide +kernel
theorem dX7_best_74 : decode cX7_best 74 = .ok (.iload 8, 2) := by decide +kernel
theorem dX7_best_76 : decode cX7_best 76 = .ok (.iastore, 1) := by decide +kernel
theorem dX7_best_77 : decode cX7_best 77 = .ok (.aload_n 0, 1) := by decide +kernel
theorem dX7_best_78 : decode cX7_best 78 = .ok (.invokevirtual 161, 3) := by decide +kernel
theorem dX7_best_81 : decode cX7_best 81 = .ok (.aload_n 0, 1) := by decide +kernel
theorem dX7_best_82 : decode cX7_best 82 = .ok (.getfield 144, 3) := by decide +kernel
theorem dX7_best_85 : decode cX7_best 85 = .ok (.ifCond .ne 7, 3) := by decide +kernel
theorem dX7_best_88 : decode cX7_best 88 = .ok (.iconst 0, 1) := by decide +kernel
theorem dX7_best_89 : decode cX7_best 89 = .ok (.goto 22, 3) := by decide +kernel
theorem dX7_best_92 : decode cX7_best 92 = .ok (.aload_n 0, 1) := by decide +kernel
theorem dX7_best_93 : decode cX7_best 93 = .ok (.getfield 13, 3) := by decide +kernel
theorem dX7_best_96 : decode cX7_best 96 = .ok (.bipush 22, 2) := by decide +kernel
theorem dX7_best_98 : decode cX7_best 98 = .ok (.iaload, 1) := by decide +kernel
theorem dX7_best_99 : decode cX7_best 99 = .ok (.aload_n 0, 1) := by decide +kernel
theorem dX7_best_100 : decode cX7_best 100 = .ok (.getfield 25, 3) := by decide +kernel
theorem dX7_best_103 : decode cX7_best 103 = .ok (.aload_n 0, 1) := by decide +kernel
theorem dX7_best_104 : decode cX7_best 104 = .ok (.getfield 144, 3) := by decide +kernel
theorem dX7_best_107 : decode cX7_best 107 = .ok (.iconst 1, 1) := by decide +kernel
theorem dX7_best_108 : decode cX7_best 108 = .ok (.isub, 1) := by decide +kernel
theorem dX7_best_109 : decode cX7_best 109 = .ok (.iaload, 1) := by decide +kernel
theorem dX7_best_110 : decode cX7_best 110 = .ok (.isub, 1) := by decide +kernel
theorem dX7_best_111 : decode cX7_best 111 = .ok (.istore 9, 2) := by decide +kernel
theorem dX7_best_113 : decode cX7_best 113 = .ok (.aload_n 0, 1) := by decide +kernel
theorem dX7_best_114 : decode cX7_best 114 = .ok (.getfield 153, 3) := by decide +kernel
theorem dX7_best_117 : decode cX7_best 117 = .ok (.iload 5, 2) := by decide +kernel
theorem dX7_best_119 : decode cX7_best 119 = .ok (.if_icmp .eq 20, 3) := by decide +kernel
theorem dX7_best_122 : decode cX7_best 122 = .ok (.aload_n 0, 1) := by decide +kernel
theorem dX7_best_123 : decode cX7_best 123 = .ok (.getfield 153, 3) := by decide +kernel
theorem dX7_best_126 : decode cX7_best 126 = .ok (.iload 5, 2) := by decide +kernel
theorem dX7_best_128 : decode cX7_best 128 = .ok (.if_icmp .ge 7, 3) := by decide +kernel
theorem dX7_best_131 : decode cX7_best 131 = .ok (.iconst 1, 1) := by decide +kernel
theorem dX7_best_132 : decode cX7_best 132 = .ok (.goto 45, 3) := by decide +kernel
theorem dX7_best_135 : decode cX7_best 135 = .ok (.iconst 0, 1) := by decide +kernel
theorem dX7_best_136 : decode cX7_best 136 = .ok (.goto 41, 3) := by decide +kernel
theorem dX7_best_139 : decode cX7_best 139 = .ok (.aload_n 0, 1) := by decide +kernel
theorem dX7_best_140 : decode cX7_best 140 = .ok (.getfield 144, 3) := by decide +kernel
theorem dX7_best_143 : decode cX7_best 143 = .ok (.iload 6, 2) := by decide +kernel
theorem dX7_best_145 : decode cX7_best 145 = .ok (.if_icmp .eq 20, 3) := by decide +kernel
theorem dX7_best_148 : decode cX7_best 148 = .ok (.aload_n 0, 1) := by decide +kernel
theorem dX7_best_149 : decode cX7_best 149 = .ok (.getfield 144, 3) := by decide +kernel
theorem dX7_best_152 : decode cX7_best 152 = .ok (.iload 6, 2) := by decide +kernel
theorem dX7_best_154 : decode cX7_best 154 = .ok (.if_icmp .ge 7, 3) := by decide +kernel
theorem dX7_best_157 : decode cX7_best 157 = .ok (.iconst 1, 1) := by decide +kernel
theorem dX7_best_158 : decode cX7_best 158 = .ok (.goto 19, 3) := by decide +kernel
theorem dX7_best_161 : decode cX7_best 161 = .ok (.iconst 0, 1) := by decide +kernel
theorem dX7_best_162 : decode cX7_best 162 = .ok (.goto 15, 3) := by decide +kernel
theorem dX7_best_165 : decode cX7_best 165 = .ok (.iload 9, 2) := by decide +kernel
theorem dX7_best_167 : decode cX7_best 167 = .ok (.iload 7, 2) := by decide +kernel
theorem dX7_best_169 : decode cX7_best 169 = .ok (.if_icmp .le 7, 3) := by decide +kernel
theorem dX7_best_172 : decode cX7_best 172 = .ok (.iconst 1, 1) := by decide +kernel
theorem dX7_best_173 : decode cX7_best 173 = .ok (.goto 4, 3) := by decide +kernel
theorem dX7_best_176 : decode cX7_best 176 = .ok (.iconst 0, 1) := by decide +kernel
theorem dX7_best_177 : decode cX7_best 177 = .ok (.istore 10, 2) := by decide +kernel
theorem dX7_best_179 : decode cX7_best 179 = .ok (.iload 10, 2) := by decide +kernel
theorem dX7_best_181 : decode cX7_best 181 = .ok (.ifCond .eq 8, 3) := by decide +kernel
theorem dX7_best_184 : decode cX7_best 184 = .ok (.iload 8, 2) := by decide +kernel
theorem dX7_best_186 : decode cX7_best 186 = .ok (.goto 5, 3) := by decide +kernel
theorem dX7_best_189 : decode cX7_best 189 = .ok (.iload 4, 2) := by decide +kernel
theorem dX7_best_191 : decode cX7_best 191 = .ok (.istore 4, 2) := by decide +kernel
theorem dX7_best_193 : decode cX7_best 193 = .ok (.iload 10, 2) := by decide +kernel
theorem dX7_best_195 : decode cX7_best 195 = .ok (.ifCond .eq 10, 3) := by decide +kernel
theorem dX7_best_198 : decode cX7_best 198 = .ok (.aload_n 0, 1) := by decide +kernel
theorem dX7_best_199 : decode cX7_best 199 = .ok (.getfield 153, 3) := by decide +kernel
theorem dX7_best_202 : decode cX7_best 202 = .ok (.goto 5, 3) := by decide +kernel
theorem dX7_best_205 : decode cX7_best 205 = .ok (.iload 5, 2) := by decide +kernel
theorem dX7_best_207 : decode cX7_best 207 = .ok (.istore 5, 2) := by decide +kernel
theorem dX7_best_209 : decode cX7_best 209 = .ok (.iload 10, 2) := by decide +kernel
theorem dX7_best_211 : decode cX7_best 211 = .ok (.ifCond .eq 10, 3) := by decide +kernel
theorem dX7_best_214 : decode cX7_best 214 = .ok (.aload_n 0, 1) := by decide +kernel
theorem dX7_best_215 : decode cX7_best 215 = .ok (.getfield 144, 3) := by decide +kernel
theorem dX7_best_218 : decode cX7_best 218 = .ok (.goto 5, 3) := by decide +kernel
theorem dX7_best_221 : decode cX7_best 221 = .ok (.iload 6, 2) := by decide +kernel
theorem dX7_best_223 : decode cX7_best 223 = .ok (.istore 6, 2) := by decide +kernel
theorem dX7_best_225 : decode cX7_best 225 = .ok (.iload 10, 2) := by decide +kernel
theorem dX7_best_227 : decode cX7_best 227 = .ok (.ifCond .eq 8, 3) := by decide +kernel
theorem dX7_best_230 : decode cX7_best 230 = .ok (.iload 9, 2) := by decide +kernel
theorem dX7_best_232 : decode cX7_best 232 = .ok (.goto 5, 3) := by decide +kernel
theorem dX7_best_235 : decode cX7_best 235 = .ok (.iload 7, 2) := by decide +kernel
theorem dX7_best_237 : decode cX7_best 237 = .ok (.istore 7, 2) := by decide +kernel
theorem dX7_best_239 : decode cX7_best 239 = .ok (.iinc 8 1, 3) := by decide +kernel
theorem dX7_best_242 : decode cX7_best 242 = .ok (.goto (-192), 3) := by decide +kernel
theorem dX7_best_245 : decode cX7_best 245 = .ok (.aload_n 0, 1) := by decide +kernel
theorem dX7_best_246 : decode cX7_best 246 = .ok (.getfield 13, 3) := by decide +kernel
theorem dX7_best_249 : decode cX7_best 249 = .ok (.iconst 5, 1) := by decide +kernel
theorem dX7_best_250 : decode cX7_best 250 = .ok (.iload_n 1, 1) := by decide +kernel
theorem dX7_best_251 : decode cX7_best 251 = .ok (.imul, 1) := by decide +kernel
theorem dX7_best_252 : decode cX7_best 252 = .ok (.iconst 3, 1) := by decide +kernel
theorem dX7_best_253 : decode cX7_best 253 = .ok (.iadd, 1) := by decide +kernel
theorem dX7_best_254 : decode cX7_best 254 = .ok (.iload_n 3, 1) := by decide +kernel
theorem dX7_best_255 : decode cX7_best 255 = .ok (.iastore, 1) := by decide +kernel
theorem dX7_best_256 : decode cX7_best 256 = .ok (.iload_n 2, 1) := by decide +kernel
theorem dX7_best_257 : decode cX7_best 257 = .ok (.ifCond .ne 8, 3) := by decide +kernel
theorem dX7_best_260 : decode cX7_best 260 = .ok (.iload 4, 2) := by decide +kernel
theorem dX7_best_262 : decode cX7_best 262 = .ok (.goto 5, 3) := by decide +kernel
theorem dX7_best_265 : decode cX7_best 265 = .ok (.iload 6, 2) := by decide +kernel
theorem dX7_best_267 : decode cX7_best 267 = .ok (.ireturn, 1) := by decide +kernel
theorem dX7_count_0 : decode cX7_count 0 = .ok (.iconst 0, 1) := by decide +kernel
theorem dX7_count_1 : decode cX7_count 1 = .ok (.istore_n 2, 1) := by decide +kernel
theorem dX7_count_2 : decode cX7_count 2 = .ok (.iconst 0, 1) := by decide +kernel
theorem dX7_count_3 : decode cX7_count 3 = .ok (.istore_n 3, 1) := by decide +kernel
theorem dX7_count_4 : decode cX7_count 4 = .ok (.iload_n 3, 1) := by decide +kernel
theorem dX7_count_5 : decode cX7_count 5 = .ok (.aload_n 0, 1) := by decide +kernel
theorem dX7_count_6 : decode cX7_count 6 = .ok (.getfield 13, 3) := by decide +kernel
theorem dX7_count_9 : decode cX7_count 9 = .ok (.bipush 20, 2) := by decide +kernel
theorem dX7_count_11 : decode cX7_count 11 = .ok (.iaload, 1) := by decide +kernel
theorem dX7_count_12 : decode cX7_count 12 = .ok (.if_icmp .ge 22, 3) := by decide +kernel
theorem dX7_count_15 : decode cX7_count 15 = .ok (.iload_n 2, 1) := by decide +kernel
theorem dX7_count_16 : decode cX7_count 16 = .ok (.aload_n 0, 1) := by decide +kernel
theorem dX7_count_17 : decode cX7_count 17 = .ok (.getfield 13, 3) := by decide +kernel
theorem dX7_count_20 : decode cX7_count 20 = .ok (.iconst 5, 1) := by decide +kernel
theorem dX7_count_21 : decode cX7_count 21 = .ok (.iload_n 3, 1) := by decide +kernel
theorem dX7_count_22 : decode cX7_count 22 = .ok (.imul, 1) := by decide +kernel
theorem dX7_count_23 : decode cX7_count 23 = .ok (.iconst 4, 1) := by decide +kernel
theorem dX7_count_24 : decode cX7_count 24 = .ok (.iadd, 1) := by decide +kernel
theorem dX7_count_25 : decode cX7_count 25 = .ok (.iaload, 1) := by decide +kernel
theorem dX7_count_26 : decode cX7_count 26 = .ok (.iadd, 1) := by decide +kernel
theorem dX7_count_27 : decode cX7_count 27 = .ok (.istore_n 2, 1) := by decide +kernel
theorem dX7_count_28 : decode cX7_count 28 = .ok (.iinc 3 1, 3) := by decide +kernel
theorem dX7_count_31 : decode cX7_count 31 = .ok (.goto (-27), 3) := by decide +kernel
theorem dX7_count_34 : decode cX7_count 34 = .ok (.iload_n 1, 1) := by decide +kernel
theorem dX7_count_35 : decode cX7_count 35 = .ok (.tableswitch 73 0 6 #[41, 49, 49, 49, 61, 66, 71], 41) := by decide +kernel
theorem dX7_count_76 : decode cX7_count 76 = .ok (.aload_n 0, 1) := by decide +kernel
theorem dX7_count_77 : decode cX7_count 77 = .ok (.getfield 13, 3) := by decide +kernel
theorem dX7_count_80 : decode cX7_count 80 = .ok (.bipush 20, 2) := by decide +kernel
theorem dX7_count_82 : decode cX7_count 82 = .ok (.iaload, 1) := by decide +kernel
theorem dX7_count_83 : decode cX7_count 83 = .ok (.ireturn, 1) := by decide +kernel
theorem dX7_count_84 : decode cX7_count 84 = .ok (.aload_n 0, 1) := by decide +kernel
theorem dX7_count_85 : decode cX7_count 85 = .ok (.getfield 13, 3) := by decide +kernel
theorem dX7_count_88 : decode cX7_count 88 = .ok (.bipush 21, 2) := by decide +kernel
theorem dX7_count_90 : decode cX7_count 90 = .ok (.iload_n 1, 1) := by decide +kernel
theorem dX7_count_91 : decode cX7_count 91 = .ok (.iadd, 1) := by decide +kernel
theorem dX7_count_92 : decode cX7_count 92 = .ok (.iconst 1, 1) := by decide +kernel
theorem dX7_count_93 : decode cX7_count 93 = .ok (.isub, 1) := by decide +kernel
theorem dX7_count_94 : decode cX7_count 94 = .ok (.iaload, 1) := by decide +kernel
theorem dX7_count_95 : decode cX7_count 95 = .ok (.ireturn, 1) := by decide +kernel
theorem dX7_count_96 : decode cX7_count 96 = .ok (.aload_n 0, 1) := by decide +kernel
theorem dX7_count_97 : decode cX7_count 97 = .ok (.getfield 100, 3) := by decide +kernel
theorem dX7_count_100 : decode cX7_count 100 = .ok (.ireturn, 1) := by decide +kernel
theorem dX7_count_101 : decode cX7_count 101 = .ok (.aload_n 0, 1) := by decide +kernel
theorem dX7_count_102 : decode cX7_count 102 = .ok (.getfield 65, 3) := by decide +kernel
theorem dX7_count_105 : decode cX7_count 105 = .ok (.ireturn, 1) := by decide +kernel
theorem dX7_count_106 : decode cX7_count 106 = .ok (.iload_n 2, 1) := by decide +kernel
theorem dX7_count_107 : decode cX7_count 107 = .ok (.ireturn, 1) := by decide +kernel
theorem dX7_count_108 : decode cX7_count 108 = .ok (.iconst (-1), 1) := by decide +kernel
theorem dX7_count_109 : decode cX7_count 109 = .ok (.ireturn, 1) := by decide +kernel
theorem dJ6_bitCount_0f7a4_0 : decode cJ6_bitCount_0f7a4 0 = .ok (.iload_n 0, 1) := by decide +kernel
theorem dJ6_bitCount_0f7a4_1 : decode cJ6_bitCount_0f7a4 1 = .ok (.iload_n 0, 1) := by decide +kernel
theorem dJ6_bitCount_0f7a4_2 : decode cJ6_bitCount_0f7a4 2 = .ok (.iconst 1, 1) := by decide +kernel
theorem dJ6_bitCount_0f7a4_3 : decode cJ6_bitCount_0f7a4 3 = .ok (.iushr, 1) := by decide +kernel
theorem dJ6_bitCount_0f7a4_4 : decode cJ6_bitCount_0f7a4 4 = .ok (.ldc_w 265, 3) := by decide +kernel
theorem dJ6_bitCount_0f7a4_7 : decode cJ6_bitCount_0f7a4 7 = .ok (.iand, 1) := by decide +kernel
theorem dJ6_bitCount_0f7a4_8 : decode cJ6_bitCount_0f7a4 8 = .ok (.isub, 1) := by decide +kernel
theorem dJ6_bitCount_0f7a4_9 : decode cJ6_bitCount_0f7a4 9 = .ok (.istore_n 0, 1) := by decide +kernel
theorem dJ6_bitCount_0f7a4_10 : decode cJ6_bitCount_0f7a4 10 = .ok (.iload_n 0, 1) := by decide +kernel
theorem dJ6_bitCount_0f7a4_11 : decode cJ6_bitCount_0f7a4 11 = .ok (.ldc_w 266, 3) := by decide +kernel
theorem dJ6_bitCount_0f7a4_14 : decode cJ6_bitCount_0f7a4 14 = .ok (.iand, 1) := by decide +kernel
theorem dJ6_bitCount_0f7a4_15 : decode cJ6_bitCount_0f7a4 15 = .ok (.iload_n 0, 1) := by decide +kernel
theorem dJ6_bitCount_0f7a4_16 : decode cJ6_bitCount_0f7a4 16 = .ok (.iconst 2, 1) := by decide +kernel
theorem dJ6_bitCount_0f7a4_17 : decode cJ6_bitCount_0f7a4 17 = .ok (.iushr, 1) := by decide +kernel
theorem dJ6_bitCount_0f7a4_18 : decode cJ6_bitCount_0f7a4 18 = .ok (.ldc_w 266, 3) := by decide +kernel
theorem dJ6_bitCount_0f7a4_21 : decode cJ6_bitCount_0f7a4 21 = .ok (.iand, 1) := by decide +kernel
theorem dJ6_bitCount_0f7a4_22 : decode cJ6_bitCount_0f7a4 22 = .ok (.iadd, 1) := by decide +kernel
theorem dJ6_bitCount_0f7a4_23 : decode cJ6_bitCount_0f7a4 23 = .ok (.istore_n 0, 1) := by decide +kernel
theorem dJ6_bitCount_0f7a4_24 : decode cJ6_bitCount_0f7a4 24 = .ok (.iload_n 0, 1) := by decide +kernel
theorem dJ6_bitCount_0f7a4_25 : decode cJ6_bitCount_0f7a4 25 = .ok (.iload_n 0, 1) := by decide +kernel
theorem dJ6_bitCount_0f7a4_26 : decode cJ6_bitCount_0f7a4 26 = .ok (.iconst 4, 1) := by decide +kernel
theorem dJ6_bitCount_0f7a4_27 : decode cJ6_bitCount_0f7a4 27 = .ok (.iushr, 1) := by decide +kernel
theorem dJ6_bitCount_0f7a4_28 : decode cJ6_bitCount_0f7a4 28 = .ok (.iadd, 1) := by decide +kernel
theorem dJ6_bitCount_0f7a4_29 : decode cJ6_bitCount_0f7a4 29 = .ok (.ldc_w 267, 3) := by decide +kernel
theorem dJ6_bitCount_0f7a4_32 : decode cJ6_bitCount_0f7a4 32 = .ok (.iand, 1) := by decide +kernel
theorem dJ6_bitCount_0f7a4_33 : decode cJ6_bitCount_0f7a4 33 = .ok (.istore_n 0, 1) := by decide +kernel
theorem dJ6_bitCount_0f7a4_34 : decode cJ6_bitCount_0f7a4 34 = .ok (.iload_n 0, 1) := by decide +kernel
theorem dJ6_bitCount_0f7a4_35 : decode cJ6_bitCount_0f7a4 35 = .ok (.iload_n 0, 1) := by decide +kernel
theorem dJ6_bitCount_0f7a4_36 : decode cJ6_bitCount_0f7a4 36 = .ok (.bipush 8, 2) := by decide +kernel
theorem dJ6_bitCount_0f7a4_38 : decode cJ6_bitCount_0f7a4 38 = .ok (.iushr, 1) := by decide +kernel
theorem dJ6_bitCount_0f7a4_39 : decode cJ6_bitCount_0f7a4 39 = .ok (.iadd, 1) := by decide +kernel
theorem dJ6_bitCount_0f7a4_40 : decode cJ6_bitCount_0f7a4 40 = .ok (.istore_n 0, 1) := by decide +kernel
theorem dJ6_bitCount_0f7a4_41 : decode cJ6_bitCount_0f7a4 41 = .ok (.iload_n 0, 1) := by decide +kernel
theorem dJ6_bitCount_0f7a4_42 : decode cJ6_bitCount_0f7a4 42 = .ok (.iload_n 0, 1) := by decide +kernel
theorem dJ6_bitCount_0f7a4_43 : decode cJ6_bitCount_0f7a4 43 = .ok (.bipush 16, 2) := by decide +kernel
theorem dJ6_bitCount_0f7a4_45 : decode cJ6_bitCount_0f7a4 45 = .ok (.iushr, 1) := by decide +kernel
theorem dJ6_bitCount_0f7a4_46 : decode cJ6_bitCount_0f7a4 46 = .ok (.iadd, 1) := by decide +kernel
theorem dJ6_bitCount_0f7a4_47 : decode cJ6_bitCount_0f7a4 47 = .ok (.istore_n 0, 1) := by decide +kernel
theorem dJ6_bitCount_0f7a4_48 : decode cJ6_bitCount_0f7a4 48 = .ok (.iload_n 0, 1) := by decide +kernel
theorem dJ6_bitCount_0f7a4_49 : decode cJ6_bitCount_0f7a4 49 = .ok (.bipush 63, 2) := by decide +kernel
theorem dJ6_bitCount_0f7a4_51 : decode cJ6_bitCount_0f7a4 51 = .ok (.iand, 1) := by decide +kernel
theorem dJ6_bitCount_0f7a4_52 : decode cJ6_bitCount_0f7a4 52 = .ok (.ireturn, 1) := by decide +kernel
theorem dJ9_max_7cf53_0 : decode cJ9_max_7cf53 0 = .ok (.iload_n 0, 1) := by decide +kernel
theorem dJ9_max_7cf53_1 : decode cJ9_max_7cf53 1 = .ok (.iload_n 1, 1) := by decide +kernel
theorem dJ9_max_7cf53_2 : decode cJ9_max_7cf53 2 = .ok (.if_icmp .lt 7, 3) := by decide +kernel
theorem dJ9_max_7cf53_5 : decode cJ9_max_7cf53 5 = .ok (.iload_n 0, 1) := by decide +kernel
theorem dJ9_max_7cf53_6 : decode cJ9_max_7cf53 6 = .ok (.goto 4, 3) := by decide +kernel
theorem dJ9_max_7cf53_9 : decode cJ9_max_7cf53 9 = .ok (.iload_n 1, 1) := by decide +kernel
theorem dJ9_max_7cf53_10 : decode cJ9_max_7cf53 10 = .ok (.ireturn, 1) := by decide +kernel
theorem dJ9_min_7cf53_0 : decode cJ9_min_7cf53 0 = .ok (.iload_n 0, 1) := by decide +kernel
theorem dJ9_min_7cf53_1 : decode cJ9_min_7cf53 1 = .ok (.iload_n 1, 1) := by decide +kernel
theorem dJ9_min_7cf53_2 : decode cJ9_min_7cf53 2 = .ok (.if_icmp .gt 7, 3) := by decide +kernel
theorem dJ9_min_7cf53_5 : decode cJ9_min_7cf53 5 = .ok (.iload_n 0, 1) := by decide +kernel
theorem dJ9_min_7cf53_6 : decode cJ9_min_7cf53 6 = .ok (.goto 4, 3) := by decide +kernel
theorem dJ9_min_7cf53_9 : decode cJ9_min_7cf53 9 = .ok (.iload_n 1, 1) := by decide +kernel
theorem dJ9_min_7cf53_10 : decode cJ9_min_7cf53 10 = .ok (.ireturn, 1) := by decide +kernel
theorem dJ7_fill_53178_0 : decode cJ7_fill_53178 0 = .ok (.iconst 0, 1) := by decide +kernel
theorem dJ7_fill_53178_1 : decode cJ7_fill_53178 1 = .ok (.istore_n 2, 1) := by decide +kernel
theorem dJ7_fill_53178_2 : decode cJ7_fill_53178 2 = .ok (.aload_n 0, 1) := by decide +kernel
theorem dJ7_fill_53178_3 : decode cJ7_fill_53178 3 = .ok (.arraylength, 1) := by decide +kernel
theorem dJ7_fill_53178_4 : decode cJ7_fill_53178 4 = .ok (.istore_n 3, 1) := by decide +kernel
theorem dJ7_fill_53178_5 : decode cJ7_fill_53178 5 = .ok (.iload_n 2, 1) := by decide +kernel
theorem dJ7_fill_53178_6 : decode cJ7_fill_53178 6 = .ok (.iload_n 3, 1) := by decide +kernel
theorem dJ7_fill_53178_7 : decode cJ7_fill_53178 7 = .ok (.if_icmp .ge 13, 3) := by decide +kernel
theorem dJ7_fill_53178_10 : decode cJ7_fill_53178 10 = .ok (.aload_n 0, 1) := by decide +kernel
theorem dJ7_fill_53178_11 : decode cJ7_fill_53178 11 = .ok (.iload_n 2, 1) := by decide +kernel
theorem dJ7_fill_53178_12 : decode cJ7_fill_53178 12 = .ok (.iload_n 1, 1) := by decide +kernel
theorem dJ7_fill_53178_13 : decode cJ7_fill_53178 13 = .ok (.iastore, 1) := by decide +kernel
theorem dJ7_fill_53178_14 : decode cJ7_fill_53178 14 = .ok (.iinc 2 1, 3) := by decide +kernel
theorem dJ7_fill_53178_17 : decode cJ7_fill_53178 17 = .ok (.goto (-12), 3) := by decide +kernel
theorem dJ7_fill_53178_20 : decode cJ7_fill_53178 20 = .ok (.return_, 1) := by decide +kernel
end
section
set_option maxRecDepth 20000 in
theorem dL_law_0 : decode cL_law 0 = .ok (.new 7, 3) := by decide +kernel
set_option maxRecDepth 20000 in
theorem dL_law_3 : decode cL_law 3 = .ok (.dup, 1) := by decide +kernel
set_option maxRecDepth 20000 in
theorem dL_law_4 : decode cL_law 4 = .ok (.invokespecial 9, 3) := by decide +kernel
set_option maxRecDepth 20000 in
theorem dL_law_7 : decode cL_law 7 = .ok (.astore_n 1, 1) := by decide +kernel
set_option maxRecDepth 20000 in
theorem dL_law_8 : decode cL_law 8 = .ok (.new 10, 3) := by decide +kernel
set_option maxRecDepth 20000 in
theorem dL_law_11 : decode cL_law 11 = .ok (.dup, 1) := by decide +kernel
set_option maxRecDepth 20000 in
theorem dL_law_12 : decode cL_law 12 = .ok (.invokespecial 12, 3) := by decide +kernel
set_option maxRecDepth 20000 in
theorem dL_law_15 : decode cL_law 15 = .ok (.astore_n 2, 1) := by decide +kernel
set_option maxRecDepth 20000 in
theorem dL_law_16 : decode cL_law 16 = .ok (.iconst 0, 1) := by decide +kernel
set_option maxRecDepth 20000 in
theorem dL_law_17 : decode cL_law 17 = .ok (.istore_n 3, 1) := by decide +kernel
set_option maxRecDepth 20000 in
theorem dL_law_18 : decode cL_law 18 = .ok (.iload_n 3, 1) := by decide +kernel
set_option maxRecDepth 20000 in
theorem dL_law_19 : decode cL_law 19 = .ok (.aload_n 0, 1) := by decide +kernel
set_option maxRecDepth 20000 in
theorem dL_law_20 : decode cL_law 20 = .ok (.arraylength, 1) := by decide +kernel
set_option maxRecDepth 20000 in
theorem dL_law_21 : decode cL_law 21 = .ok (.iconst 4, 1) := by decide +kernel
set_option maxRecDepth 20000 in
theorem dL_law_22 : decode cL_law 22 = .ok (.isub, 1) := by decide +kernel
set_option maxRecDepth 20000 in
theorem dL_law_23 : decode cL_law 23 = .ok (.if_icmp .gt 745, 3) := by decide +kernel
set_option maxRecDepth 20000 in
theorem dL_law_26 : decode cL_law 26 = .ok (.aload_n 0, 1) := by decide +kernel
set_option maxRecDepth 20000 in
theorem dL_law_27 : decode cL_law 27 = .ok (.iload_n 3, 1) := by decide +kernel
set_option maxRecDepth 20000 in
theorem dL_law_28 : decode cL_law 28 = .ok (.iaload, 1) := by decide +kernel
set_option maxRecDepth 20000 in
theorem dL_law_29 : decode cL_law 29 = .ok (.bipush 31, 2) := by decide +kernel
set_option maxRecDepth 20000 in
theorem dL_law_31 : decode cL_law 31 = .ok (.iand, 1) := by decide +kernel
set_option maxRecDepth 20000 in
theorem dL_law_32 : decode cL_law 32 = .ok (.tableswitch 730 0 21 #[104, 127, 140, 153, 166, 209, 242, 265, 278, 301, 334, 367, 400, 433, 466, 509, 552, 585, 608, 641, 674, 707], 104) := by decide +kernel
set_option maxRecDepth 20000 in
theorem dL_law_136 : decode cL_law 136 = .ok (.aload_n 1, 1) := by decide +kernel
set_option maxRecDepth 20000 in
theorem dL_law_137 : decode cL_law 137 = .ok (.aload_n 0, 1) := by decide +kernel
set_option maxRecDepth 20000 in
theorem dL_law_138 : decode cL_law 138 = .ok (.iload_n 3, 1) := by decide +kernel
set_option maxRecDepth 20000 in
theorem dL_law_139 : decode cL_law 139 = .ok (.iconst 1, 1) := by decide +kernel
set_option maxRecDepth 20000 in
theorem dL_law_140 : decode cL_law 140 = .ok (.iadd, 1) := by decide +kernel
set_option maxRecDepth 20000 in
theorem dL_law_141 : decode cL_law 141 = .ok (.iaload, 1) := by decide +kernel
set_option maxRecDepth 20000 in
theorem dL_law_142 : decode cL_law 142 = .ok (.invokevirtual 13, 3) := by decide +kernel
set_option maxRecDepth 20000 in
theorem dL_law_145 : decode cL_law 145 = .ok (.aload_n 2, 1) := by decide +kernel
set_option maxRecDepth 20000 in
theorem dL_law_146 : decode cL_law 146 = .ok (.aload_n 0, 1) := by decide +kernel
set_option maxRecDepth 20000 in
theorem dL_law_147 : decode cL_law 147 = .ok (.iload_n 3, 1) := by decide +kernel
set_option maxRecDepth 20000 in
theorem dL_law_148 : decode cL_law 148 = .ok (.iconst 1, 1) := by decide +kernel
set_option maxRecDepth 20000 in
theorem dL_law_149 : decode cL_law 149 = .ok (.iadd, 1) := by decide +kernel
set_option maxRecDepth 20000 in
theorem dL_law_150 : decode cL_law 150 = .ok (.iaload, 1) := by decide +kernel
set_option maxRecDepth 20000 in
theorem dL_law_151 : decode cL_law 151 = .ok (.invokevirtual 17, 3) := by decide +kernel
set_option maxRecDepth 20000 in
theorem dL_law_154 : decode cL_law 154 = .ok (.if_icmp .eq 608, 3) := by decide +kernel
set_option maxRecDepth 20000 in
theorem dL_law_157 : decode cL_law 157 = .ok (.iconst 0, 1) := by decide +kernel
set_option maxRecDepth 20000 in
theorem dL_law_158 : decode cL_law 158 = .ok (.ireturn, 1) := by decide +kernel
set_option maxRecDepth 20000 in
theorem dL_law_159 : decode cL_law 159 = .ok (.aload_n 1, 1) := by decide +kernel
set_option maxRecDepth 20000 in
theorem dL_law_160 : decode cL_law 160 = .ok (.invokevirtual 18, 3) := by decide +kernel
set_option maxRecDepth 20000 in
theorem dL_law_163 : decode cL_law 163 = .ok (.aload_n 2, 1) := by decide +kernel
set_option maxRecDepth 20000 in
theorem dL_law_164 : decode cL_law 164 = .ok (.invokevirtual 22, 3) := by decide +kernel
set_option maxRecDepth 20000 in
theorem dL_law_167 : decode cL_law 167 = .ok (.if_icmp .eq 595, 3) := by decide +kernel
set_option maxRecDepth 20000 in
theorem dL_law_170 : decode cL_law 170 = .ok (.iconst 0, 1) := by decide +kernel
set_option maxRecDepth 20000 in
theorem dL_law_171 : decode cL_law 171 = .ok (.ireturn, 1) := by decide +kernel
set_option maxRecDepth 20000 in
theorem dL_law_172 : decode cL_law 172 = .ok (.aload_n 1, 1) := by decide +kernel
set_option maxRecDepth 20000 in
theorem dL_law_173 : decode cL_law 173 = .ok (.invokevirtual 23, 3) := by decide +kernel
set_option maxRecDepth 20000 in
theorem dL_law_176 : decode cL_law 176 = .ok (.aload_n 2, 1) := by decide +kernel
set_option maxRecDepth 20000 in
theorem dL_law_177 : decode cL_law 177 = .ok (.invokevirtual 26, 3) := by decide +kernel
set_option maxRecDepth 20000 in
theorem dL_law_180 : decode cL_law 180 = .ok (.if_icmp .eq 582, 3) := by decide +kernel
set_option maxRecDepth 20000 in
theorem dL_law_183 : decode cL_law 183 = .ok (.iconst 0, 1) := by decide +kernel
set_option maxRecDepth 20000 in
theorem dL_law_184 : decode cL_law 184 = .ok (.ireturn, 1) := by decide +kernel
set_option maxRecDepth 20000 in
theorem dL_law_185 : decode cL_law 185 = .ok (.aload_n 1, 1) := by decide +kernel
set_option maxRecDepth 20000 in
theorem dL_law_186 : decode cL_law 186 = .ok (.invokevirtual 27, 3) := by decide +kernel
set_option maxRecDepth 20000 in
theorem dL_law_189 : decode cL_law 189 = .ok (.aload_n 2, 1) := by decide +kernel
set_option maxRecDepth 20000 in
theorem dL_law_190 : decode cL_law 190 = .ok (.invokevirtual 30, 3) := by decide +kernel
set_option maxRecDepth 20000 in
theorem dL_law_193 : decode cL_law 193 = .ok (.if_icmp .eq 569, 3) := by decide +kernel
set_option maxRecDepth 20000 in
theorem dL_law_196 : decode cL_law 196 = .ok (.iconst 0, 1) := by decide +kernel
set_option maxRecDepth 20000 in
theorem dL_law_197 : decode cL_law 197 = .ok (.ireturn, 1) := by decide +kernel
set_option maxRecDepth 20000 in
theorem dL_law_198 : decode cL_law 198 = .ok (.aload_n 1, 1) := by decide +kernel
set_option maxRecDepth 20000 in
theorem dL_law_199 : decode cL_law 199 = .ok (.aload_n 0, 1) := by decide +kernel
set_option maxRecDepth 20000 in
theorem dL_law_200 : decode cL_law 200 = .ok (.iload_n 3, 1) := by decide +kernel
set_option maxRecDepth 20000 in
theorem dL_law_201 : decode cL_law 201 = .ok (.iconst 1, 1) := by decide +kernel
set_option maxRecDepth 20000 in
theorem dL_law_202 : decode cL_law 202 = .ok (.iadd, 1) := by decide +kernel
set_option maxRecDepth 20000 in
theorem dL_law_203 : decode cL_law 203 = .ok (.iaload, 1) := by decide +kernel
set_option maxRecDepth 20000 in
theorem dL_law_204 : decode cL_law 204 = .ok (.aload_n 0, 1) := by decide +kernel
set_option maxRecDepth 20000 in
theorem dL_law_205 : decode cL_law 205 = .ok (.iload_n 3, 1) := by decide +kernel
set_option maxRecDepth 20000 in
theorem dL_law_206 : decode cL_law 206 = .ok (.iconst 2, 1) := by decide +kernel
set_option maxRecDepth 20000 in
theorem dL_law_207 : decode cL_law 207 = .ok (.iadd, 1) := by decide +kernel
set_option maxRecDepth 20000 in
theorem dL_law_208 : decode cL_law 208 = .ok (.iaload, 1) := by decide +kernel
set_option maxRecDepth 20000 in
theorem dL_law_209 : decode cL_law 209 = .ok (.aload_n 0, 1) := by decide +kernel
set_option maxRecDepth 20000 in
theorem dL_law_210 : decode cL_law 210 = .ok (.iload_n 3, 1) := by decide +kernel
set_option maxRecDepth 20000 in
theorem dL_law_211 : decode cL_law 211 = .ok (.iconst 3, 1) := by decide +kernel
set_option maxRecDepth 20000 in
theorem dL_law_212 : decode cL_law 212 = .ok (.iadd, 1) := by decide +kernel
set_option maxRecDepth 20000 in
theorem dL_law_213 : decode cL_law 213 = .ok (.iaload, 1) := by decide +kernel
set_option maxRecDepth 20000 in
theorem dL_law_214 : decode cL_law 214 = .ok (.invokevirtual 31, 3) := by decide +kernel
set_option maxRecDepth 20000 in
theorem dL_law_217 : decode cL_law 217 = .ok (.aload_n 2, 1) := by decide +kernel
set_option maxRecDepth 20000 in
theorem dL_law_218 : decode cL_law 218 = .ok (.aload_n 0, 1) := by decide +kernel
set_option maxRecDepth 20000 in
theorem dL_law_219 : decode cL_law 219 = .ok (.iload_n 3, 1) := by decide +kernel
set_option maxRecDepth 20000 in
theorem dL_law_220 : decode cL_law 220 = .ok (.iconst 1, 1) := by decide +kernel
set_option maxRecDepth 20000 in
theorem dL_law_221 : decode cL_law 221 = .ok (.iadd, 1) := by decide +kernel
set_option maxRecDepth 20000 in
theorem dL_law_222 : decode cL_law 222 = .ok (.iaload, 1) := by decide +kernel
set_option maxRecDepth 20000 in
theorem dL_law_223 : decode cL_law 223 = .ok (.aload_n 0, 1) := by decide +kernel
set_option maxRecDepth 20000 in
theorem dL_law_224 : decode cL_law 224 = .ok (.iload_n 3, 1) := by decide +kernel
set_option maxRecDepth 20000 in
theorem dL_law_225 : decode cL_law 225 = .ok (.iconst 2, 1) := by decide +kernel
set_option maxRecDepth 20000 in
theorem dL_law_226 : decode cL_law 226 = .ok (.iadd, 1) := by decide +kernel
set_option maxRecDepth 20000 in
theorem dL_law_227 : decode cL_law 227 = .ok (.iaload, 1) := by decide +kernel
set_option maxRecDepth 20000 in
theorem dL_law_228 : decode cL_law 228 = .ok (.aload_n 0, 1) := by decide +kernel
set_option maxRecDepth 20000 in
theorem dL_law_229 : decode cL_law 229 = .ok (.iload_n 3, 1) := by decide +kernel
set_option maxRecDepth 20000 in
theorem dL_law_230 : decode cL_law 230 = .ok (.iconst 3, 1) := by decide +kernel
set_option maxRecDepth 20000 in
theorem dL_law_231 : decode cL_law 231 = .ok (.iadd, 1) := by decide +kernel
set_option maxRecDepth 20000 in
theorem dL_law_232 : decode cL_law 232 = .ok (.iaload, 1) := by decide +kernel
set_option maxRecDepth 20000 in
theorem dL_law_233 : decode cL_law 233 = .ok (.invokevirtual 35, 3) := by decide +kernel
set_option maxRecDepth 20000 in
theorem dL_law_236 : decode cL_law 236 = .ok (.if_icmp .eq 526, 3) := by decide +kernel
set_option maxRecDepth 20000 in
theorem dL_law_239 : decode cL_law 239 = .ok (.iconst 0, 1) := by decide +kernel
set_option maxRecDepth 20000 in
theorem dL_law_240 : decode cL_law 240 = .ok (.ireturn, 1) := by decide +kernel
set_option maxRecDepth 20000 in
theorem dL_law_241 : decode cL_law 241 = .ok (.aload_n 1, 1) := by decide +kernel
set_option maxRecDepth 20000 in
theorem dL_law_242 : decode cL_law 242 = .ok (.aload_n 0, 1) := by decide +kernel
set_option maxRecDepth 20000 in
theorem dL_law_243 : decode cL_law 243 = .ok (.iload_n 3, 1) := by decide +kernel
set_option maxRecDepth 20000 in
theorem dL_law_244 : decode cL_law 244 = .ok (.iconst 1, 1) := by decide +kernel
set_option maxRecDepth 20000 in
theorem dL_law_245 : decode cL_law 245 = .ok (.iadd, 1) := by decide +kernel
set_option maxRecDepth 20000 in
theorem dL_law_246 : decode cL_law 246 = .ok (.iaload, 1) := by decide +kernel
set_option maxRecDepth 20000 in
theorem dL_law_247 : decode cL_law 247 = .ok (.aload_n 0, 1) := by decide +kernel
set_option maxRecDepth 20000 in
theorem dL_law_248 : decode cL_law 248 = .ok (.iload_n 3, 1) := by decide +kernel
set_option maxRecDepth 20000 in
theorem dL_law_249 : decode cL_law 249 = .ok (.iconst 2, 1) := by decide +kernel
set_option maxRecDepth 20000 in
theorem dL_law_250 : decode cL_law 250 = .ok (.iadd, 1) := by decide +kernel
set_option maxRecDepth 20000 in
theorem dL_law_251 : decode cL_law 251 = .ok (.iaload, 1) := by decide +kernel
set_option maxRecDepth 20000 in
theorem dL_law_252 : decode cL_law 252 = .ok (.invokevirtual 36, 3) := by decide +kernel
set_option maxRecDepth 20000 in
theorem dL_law_255 : decode cL_law 255 = .ok (.aload_n 2, 1) := by decide +kernel
set_option maxRecDepth 20000 in
theorem dL_law_256 : decode cL_law 256 = .ok (.aload_n 0, 1) := by decide +kernel
set_option maxRecDepth 20000 in
theorem dL_law_257 : decode cL_law 257 = .ok (.iload_n 3, 1) := by decide +kernel
set_option maxRecDepth 20000 in
theorem dL_law_258 : decode cL_law 258 = .ok (.iconst 1, 1) := by decide +kernel
set_option maxRecDepth 20000 in
theorem dL_law_259 : decode cL_law 259 = .ok (.iadd, 1) := by decide +kernel
set_option maxRecDepth 20000 in
theorem dL_law_260 : decode cL_law 260 = .ok (.iaload, 1) := by decide +kernel
set_option maxRecDepth 20000 in
theorem dL_law_261 : decode cL_law 261 = .ok (.aload_n 0, 1) := by decide +kernel
set_option maxRecDepth 20000 in
theorem dL_law_262 : decode cL_law 262 = .ok (.iload_n 3, 1) := by decide +kernel
set_option maxRecDepth 20000 in
theorem dL_law_263 : decode cL_law 263 = .ok (.iconst 2, 1) := by decide +kernel
set_option maxRecDepth 20000 in
theorem dL_law_264 : decode cL_law 264 = .ok (.iadd, 1) := by decide +kernel
set_option maxRecDepth 20000 in
theorem dL_law_265 : decode cL_law 265 = .ok (.iaload, 1) := by decide +kernel
set_option maxRecDepth 20000 in
theorem dL_law_266 : decode cL_law 266 = .ok (.invokevirtual 40, 3) := by decide +kernel
set_option maxRecDepth 20000 in
theorem dL_law_269 : decode cL_law 269 = .ok (.if_icmp .eq 493, 3) := by decide +kernel
set_option maxRecDepth 20000 in
theorem dL_law_272 : decode cL_law 272 = .ok (.iconst 0, 1) := by decide +kernel
set_option maxRecDepth 20000 in
theorem dL_law_273 : decode cL_law 273 = .ok (.ireturn, 1) := by decide +kernel
set_option maxRecDepth 20000 in
theorem dL_law_274 : decode cL_law 274 = .ok (.aload_n 1, 1) := by decide +kernel
set_option maxRecDepth 20000 in
theorem dL_law_275 : decode cL_law 275 = .ok (.aload_n 0, 1) := by decide +kernel
set_option maxRecDepth 20000 in
theorem dL_law_276 : decode cL_law 276 = .ok (.iload_n 3, 1) := by decide +kernel
set_option maxRecDepth 20000 in
theorem dL_law_277 : decode cL_law 277 = .ok (.iconst 1, 1) := by decide +kernel
set_option maxRecDepth 20000 in
theorem dL_law_278 : decode cL_law 278 = .ok (.iadd, 1) := by decide +kernel
set_option maxRecDepth 20000 in
theorem dL_law_279 : decode cL_law 279 = .ok (.iaload, 1) := by decide +kernel
set_option maxRecDepth 20000 in
theorem dL_law_280 : decode cL_law 280 = .ok (.invokevirtual 41, 3) := by decide +kernel
set_option maxRecDepth 20000 in
theorem dL_law_283 : decode cL_law 283 = .ok (.aload_n 2, 1) := by decide +kernel
set_option maxRecDepth 20000 in
theorem dL_law_284 : decode cL_law 284 = .ok (.aload_n 0, 1) := by decide +kernel
set_option maxRecDepth 20000 in
theorem dL_law_285 : decode cL_law 285 = .ok (.iload_n 3, 1) := by decide +kernel
set_option maxRecDepth 20000 in
theorem dL_law_286 : decode cL_law 286 = .ok (.iconst 1, 1) := by decide +kernel
set_option maxRecDepth 20000 in
theorem dL_law_287 : decode cL_law 287 = .ok (.iadd, 1) := by decide +kernel
set_option maxRecDepth 20000 in
theorem dL_law_288 : decode cL_law 288 = .ok (.iaload, 1) := by decide +kernel
set_option maxRecDepth 20000 in
theorem dL_law_289 : decode cL_law 289 = .ok (.invokevirtual 44, 3) := by decide +kernel
set_option maxRecDepth 20000 in
theorem dL_law_292 : decode cL_law 292 = .ok (.if_icmp .eq 470, 3) := by decide +kernel
set_option maxRecDepth 20000 in
theorem dL_law_295 : decode cL_law 295 = .ok (.iconst 0, 1) := by decide +kernel
set_option maxRecDepth 20000 in
theorem dL_law_296 : decode cL_law 296 = .ok (.ireturn, 1) := by decide +kernel
set_option maxRecDepth 20000 in
theorem dL_law_297 : decode cL_law 297 = .ok (.aload_n 1, 1) := by decide +kernel
set_option maxRecDepth 20000 in
theorem dL_law_298 : decode cL_law 298 = .ok (.invokevirtual 45, 3) := by decide +kernel
set_option maxRecDepth 20000 in
theorem dL_law_301 : decode cL_law 301 = .ok (.aload_n 2, 1) := by decide +kernel
set_option maxRecDepth 20000 in
theorem dL_law_302 : decode cL_law 302 = .ok (.invokevirtual 48, 3) := by decide +kernel
set_option maxRecDepth 20000 in
theorem dL_law_305 : decode cL_law 305 = .ok (.if_icmp .eq 457, 3) := by decide +kernel
set_option maxRecDepth 20000 in
theorem dL_law_308 : decode cL_law 308 = .ok (.iconst 0, 1) := by decide +kernel
set_option maxRecDepth 20000 in
theorem dL_law_309 : decode cL_law 309 = .ok (.ireturn, 1) := by decide +kernel
set_option maxRecDepth 20000 in
theorem dL_law_310 : decode cL_law 310 = .ok (.aload_n 1, 1) := by decide +kernel
set_option maxRecDepth 20000 in
theorem dL_law_311 : decode cL_law 311 = .ok (.aload_n 0, 1) := by decide +kernel
set_option maxRecDepth 20000 in
theorem dL_law_312 : decode cL_law 312 = .ok (.iload_n 3, 1) := by decide +kernel
set_option maxRecDepth 20000 in
theorem dL_law_313 : decode cL_law 313 = .ok (.iconst 1, 1) := by decide +kernel
set_option maxRecDepth 20000 in
theorem dL_law_314 : decode cL_law 314 = .ok (.iadd, 1) := by decide +kernel
set_option maxRecDepth 20000 in
theorem dL_law_315 : decode cL_law 315 = .ok (.iaload, 1) := by decide +kernel
set_option maxRecDepth 20000 in
theorem dL_law_316 : decode cL_law 316 = .ok (.invokevirtual 49, 3) := by decide +kernel
set_option maxRecDepth 20000 in
theorem dL_law_319 : decode cL_law 319 = .ok (.aload_n 2, 1) := by decide +kernel
set_option maxRecDepth 20000 in
theorem dL_law_320 : decode cL_law 320 = .ok (.aload_n 0, 1) := by decide +kernel
set_option maxRecDepth 20000 in
theorem dL_law_321 : decode cL_law 321 = .ok (.iload_n 3, 1) := by decide +kernel
set_option maxRecDepth 20000 in
theorem dL_law_322 : decode cL_law 322 = .ok (.iconst 1, 1) := by decide +kernel
set_option maxRecDepth 20000 in
theorem dL_law_323 : decode cL_law 323 = .ok (.iadd, 1) := by decide +kernel
set_option maxRecDepth 20000 in
theorem dL_law_324 : decode cL_law 324 = .ok (.iaload, 1) := by decide +kernel
set_option maxRecDepth 20000 in
theorem dL_law_325 : decode cL_law 325 = .ok (.invokevirtual 52, 3) := by decide +kernel
set_option maxRecDepth 20000 in
theorem dL_law_328 : decode cL_law 328 = .ok (.if_icmp .eq 434, 3) := by decide +kernel
set_option maxRecDepth 20000 in
theorem dL_law_331 : decode cL_law 331 = .ok (.iconst 0, 1) := by decide +kernel
set_option maxRecDepth 20000 in
theorem dL_law_332 : decode cL_law 332 = .ok (.ireturn, 1) := by decide +kernel
set_option maxRecDepth 20000 in
theorem dL_law_333 : decode cL_law 333 = .ok (.aload_n 1, 1) := by decide +kernel
set_option maxRecDepth 20000 in
theorem dL_law_334 : decode cL_law 334 = .ok (.aload_n 0, 1) := by decide +kernel
set_option maxRecDepth 20000 in
theorem dL_law_335 : decode cL_law 335 = .ok (.iload_n 3, 1) := by decide +kernel
set_option maxRecDepth 20000 in
theorem dL_law_336 : decode cL_law 336 = .ok (.iconst 1, 1) := by decide +kernel
set_option maxRecDepth 20000 in
theorem dL_law_337 : decode cL_law 337 = .ok (.iadd, 1) := by decide +kernel
set_option maxRecDepth 20000 in
theorem dL_law_338 : decode cL_law 338 = .ok (.iaload, 1) := by decide +kernel
set_option maxRecDepth 20000 in
theorem dL_law_339 : decode cL_law 339 = .ok (.aload_n 0, 1) := by decide +kernel
set_option maxRecDepth 20000 in
theorem dL_law_340 : decode cL_law 340 = .ok (.iload_n 3, 1) := by decide +kernel
set_option maxRecDepth 20000 in
theorem dL_law_341 : decode cL_law 341 = .ok (.iconst 2, 1) := by decide +kernel
set_option maxRecDepth 20000 in
theorem dL_law_342 : decode cL_law 342 = .ok (.iadd, 1) := by decide +kernel
set_option maxRecDepth 20000 in
theorem dL_law_343 : decode cL_law 343 = .ok (.iaload, 1) := by decide +kernel
set_option maxRecDepth 20000 in
theorem dL_law_344 : decode cL_law 344 = .ok (.invokevirtual 53, 3) := by decide +kernel
set_option maxRecDepth 20000 in
theorem dL_law_347 : decode cL_law 347 = .ok (.aload_n 2, 1) := by decide +kernel
set_option maxRecDepth 20000 in
theorem dL_law_348 : decode cL_law 348 = .ok (.aload_n 0, 1) := by decide +kernel
set_option maxRecDepth 20000 in
theorem dL_law_349 : decode cL_law 349 = .ok (.iload_n 3, 1) := by decide +kernel
set_option maxRecDepth 20000 in
theorem dL_law_350 : decode cL_law 350 = .ok (.iconst 1, 1) := by decide +kernel
set_option maxRecDepth 20000 in
theorem dL_law_351 : decode cL_law 351 = .ok (.iadd, 1) := by decide +kernel
set_option maxRecDepth 20000 in
theorem dL_law_352 : decode cL_law 352 = .ok (.iaload, 1) := by decide +kernel
set_option maxRecDepth 20000 in
theorem dL_law_353 : decode cL_law 353 = .ok (.aload_n 0, 1) := by decide +kernel
set_option maxRecDepth 20000 in
theorem dL_law_354 : decode cL_law 354 = .ok (.iload_n 3, 1) := by decide +kernel
set_option maxRecDepth 20000 in
theorem dL_law_355 : decode cL_law 355 = .ok (.iconst 2, 1) := by decide +kernel
set_option maxRecDepth 20000 in
theorem dL_law_356 : decode cL_law 356 = .ok (.iadd, 1) := by decide +kernel
set_option maxRecDepth 20000 in
theorem dL_law_357 : decode cL_law 357 = .ok (.iaload, 1) := by decide +kernel
set_option maxRecDepth 20000 in
theorem dL_law_358 : decode cL_law 358 = .ok (.invokevirtual 56, 3) := by decide +kernel
set_option maxRecDepth 20000 in
theorem dL_law_361 : decode cL_law 361 = .ok (.if_icmp .eq 401, 3) := by decide +kernel
set_option maxRecDepth 20000 in
theorem dL_law_364 : decode cL_law 364 = .ok (.iconst 0, 1) := by decide +kernel
set_option maxRecDepth 20000 in
theorem dL_law_365 : decode cL_law 365 = .ok (.ireturn, 1) := by decide +kernel
set_option maxRecDepth 20000 in
theorem dL_law_366 : decode cL_law 366 = .ok (.aload_n 1, 1) := by decide +kernel
set_option maxRecDepth 20000 in
theorem dL_law_367 : decode cL_law 367 = .ok (.aload_n 0, 1) := by decide +kernel
set_option maxRecDepth 20000 in
theorem dL_law_368 : decode cL_law 368 = .ok (.iload_n 3, 1) := by decide +kernel
set_option maxRecDepth 20000 in
theorem dL_law_369 : decode cL_law 369 = .ok (.iconst 1, 1) := by decide +kernel
set_option maxRecDepth 20000 in
theorem dL_law_370 : decode cL_law 370 = .ok (.iadd, 1) := by decide +kernel
set_option maxRecDepth 20000 in
theorem dL_law_371 : decode cL_law 371 = .ok (.iaload, 1) := by decide +kernel
set_option maxRecDepth 20000 in
theorem dL_law_372 : decode cL_law 372 = .ok (.aload_n 0, 1) := by decide +kernel
set_option maxRecDepth 20000 in
theorem dL_law_373 : decode cL_law 373 = .ok (.iload_n 3, 1) := by decide +kernel
set_option maxRecDepth 20000 in
theorem dL_law_374 : decode cL_law 374 = .ok (.iconst 2, 1) := by decide +kernel
set_option maxRecDepth 20000 in
theorem dL_law_375 : decode cL_law 375 = .ok (.iadd, 1) := by decide +kernel
set_option maxRecDepth 20000 in
theorem dL_law_376 : decode cL_law 376 = .ok (.iaload, 1) := by decide +kernel
set_option maxRecDepth 20000 in
theorem dL_law_377 : decode cL_law 377 = .ok (.invokevirtual 57, 3) := by decide +kernel
set_option maxRecDepth 20000 in
theorem dL_law_380 : decode cL_law 380 = .ok (.aload_n 2, 1) := by decide +kernel
set_option maxRecDepth 20000 in
theorem dL_law_381 : decode cL_law 381 = .ok (.aload_n 0, 1) := by decide +kernel
set_option maxRecDepth 20000 in
theorem dL_law_382 : decode cL_law 382 = .ok (.iload_n 3, 1) := by decide +kernel
set_option maxRecDepth 20000 in
theorem dL_law_383 : decode cL_law 383 = .ok (.iconst 1, 1) := by decide +kernel
set_option maxRecDepth 20000 in
theorem dL_law_384 : decode cL_law 384 = .ok (.iadd, 1) := by decide +kernel
set_option maxRecDepth 20000 in
theorem dL_law_385 : decode cL_law 385 = .ok (.iaload, 1) := by decide +kernel
set_option maxRecDepth 20000 in
theorem dL_law_386 : decode cL_law 386 = .ok (.aload_n 0, 1) := by decide +kernel
set_option maxRecDepth 20000 in
theorem dL_law_387 : decode cL_law 387 = .ok (.iload_n 3, 1) := by decide +kernel
set_option maxRecDepth 20000 in
theorem dL_law_388 : decode cL_law 388 = .ok (.iconst 2, 1) := by decide +kernel
set_option maxRecDepth 20000 in
theorem dL_law_389 : decode cL_law 389 = .ok (.iadd, 1) := by decide +kernel
set_option maxRecDepth 20000 in
theorem dL_law_390 : decode cL_law 390 = .ok (.iaload, 1) := by decide +kernel
set_option maxRecDepth 20000 in
theorem dL_law_391 : decode cL_law 391 = .ok (.invokevirtual 60, 3) := by decide +kernel
set_option maxRecDepth 20000 in
theorem dL_law_394 : decode cL_law 394 = .ok (.if_icmp .eq 368, 3) := by decide +kernel
set_option maxRecDepth 20000 in
theorem dL_law_397 : decode cL_law 397 = .ok (.iconst 0, 1) := by decide +kernel
set_option maxRecDepth 20000 in
theorem dL_law_398 : decode cL_law 398 = .ok (.ireturn, 1) := by decide +kernel
set_option maxRecDepth 20000 in
theorem dL_law_399 : decode cL_law 399 = .ok (.aload_n 1, 1) := by decide +kernel
set_option maxRecDepth 20000 in
theorem dL_law_400 : decode cL_law 400 = .ok (.aload_n 0, 1) := by decide +kernel
set_option maxRecDepth 20000 in
theorem dL_law_401 : decode cL_law 401 = .ok (.iload_n 3, 1) := by decide +kernel
set_option maxRecDepth 20000 in
theorem dL_law_402 : decode cL_law 402 = .ok (.iconst 1, 1) := by decide +kernel
set_option maxRecDepth 20000 in
theorem dL_law_403 : decode cL_law 403 = .ok (.iadd, 1) := by decide +kernel
set_option maxRecDepth 20000 in
theorem dL_law_404 : decode cL_law 404 = .ok (.iaload, 1) := by decide +kernel
set_option maxRecDepth 20000 in
theorem dL_law_405 : decode cL_law 405 = .ok (.aload_n 0, 1) := by decide +kernel
set_option maxRecDepth 20000 in
theorem dL_law_406 : decode cL_law 406 = .ok (.iload_n 3, 1) := by decide +kernel
set_option maxRecDepth 20000 in
theorem dL_law_407 : decode cL_law 407 = .ok (.iconst 2, 1) := by decide +kernel
set_option maxRecDepth 20000 in
theorem dL_law_408 : decode cL_law 408 = .ok (.iadd, 1) := by decide +kernel
set_option maxRecDepth 20000 in
theorem dL_law_409 : decode cL_law 409 = .ok (.iaload, 1) := by decide +kernel
set_option maxRecDepth 20000 in
theorem dL_law_410 : decode cL_law 410 = .ok (.invokevirtual 61, 3) := by decide +kernel
set_option maxRecDepth 20000 in
theorem dL_law_413 : decode cL_law 413 = .ok (.aload_n 2, 1) := by decide +kernel
set_option maxRecDepth 20000 in
theorem dL_law_414 : decode cL_law 414 = .ok (.aload_n 0, 1) := by decide +kernel
set_option maxRecDepth 20000 in
theorem dL_law_415 : decode cL_law 415 = .ok (.iload_n 3, 1) := by decide +kernel
set_option maxRecDepth 20000 in
theorem dL_law_416 : decode cL_law 416 = .ok (.iconst 1, 1) := by decide +kernel
set_option maxRecDepth 20000 in
theorem dL_law_417 : decode cL_law 417 = .ok (.iadd, 1) := by decide +kernel
set_option maxRecDepth 20000 in
theorem dL_law_418 : decode cL_law 418 = .ok (.iaload, 1) := by decide +kernel
set_option maxRecDepth 20000 in
theorem dL_law_419 : decode cL_law 419 = .ok (.aload_n 0, 1) := by decide +kernel
set_option maxRecDepth 20000 in
theorem dL_law_420 : decode cL_law 420 = .ok (.iload_n 3, 1) := by decide +kernel
set_option maxRecDepth 20000 in
theorem dL_law_421 : decode cL_law 421 = .ok (.iconst 2, 1) := by decide +kernel
set_option maxRecDepth 20000 in
theorem dL_law_422 : decode cL_law 422 = .ok (.iadd, 1) := by decide +kernel
set_option maxRecDepth 20000 in
theorem dL_law_423 : decode cL_law 423 = .ok (.iaload, 1) := by decide +kernel
set_option maxRecDepth 20000 in
theorem dL_law_424 : decode cL_law 424 = .ok (.invokevirtual 64, 3) := by decide +kernel
set_option maxRecDepth 20000 in
theorem dL_law_427 : decode cL_law 427 = .ok (.if_icmp .eq 335, 3) := by decide +kernel
set_option maxRecDepth 20000 in
theorem dL_law_430 : decode cL_law 430 = .ok (.iconst 0, 1) := by decide +kernel
set_option maxRecDepth 20000 in
theorem dL_law_431 : decode cL_law 431 = .ok (.ireturn, 1) := by decide +kernel
set_option maxRecDepth 20000 in
theorem dL_law_432 : decode cL_law 432 = .ok (.aload_n 1, 1) := by decide +kernel
set_option maxRecDepth 20000 in
theorem dL_law_433 : decode cL_law 433 = .ok (.aload_n 0, 1) := by decide +kernel
set_option maxRecDepth 20000 in
theorem dL_law_434 : decode cL_law 434 = .ok (.iload_n 3, 1) := by decide +kernel
set_option maxRecDepth 20000 in
theorem dL_law_435 : decode cL_law 435 = .ok (.iconst 1, 1) := by decide +kernel
set_option maxRecDepth 20000 in
theorem dL_law_436 : decode cL_law 436 = .ok (.iadd, 1) := by decide +kernel
set_option maxRecDepth 20000 in
theorem dL_law_437 : decode cL_law 437 = .ok (.iaload, 1) := by decide +kernel
set_option maxRecDepth 20000 in
theorem dL_law_438 : decode cL_law 438 = .ok (.aload_n 0, 1) := by decide +kernel
set_option maxRecDepth 20000 in
theorem dL_law_439 : decode cL_law 439 = .ok (.iload_n 3, 1) := by decide +kernel
set_option maxRecDepth 20000 in
theorem dL_law_440 : decode cL_law 440 = .ok (.iconst 2, 1) := by decide +kernel
set_option maxRecDepth 20000 in
theorem dL_law_441 : decode cL_law 441 = .ok (.iadd, 1) := by decide +kernel
set_option maxRecDepth 20000 in
theorem dL_law_442 : decode cL_law 442 = .ok (.iaload, 1) := by decide +kernel
set_option maxRecDepth 20000 in
theorem dL_law_443 : decode cL_law 443 = .ok (.invokevirtual 65, 3) := by decide +kernel
set_option maxRecDepth 20000 in
theorem dL_law_446 : decode cL_law 446 = .ok (.aload_n 2, 1) := by decide +kernel
set_option maxRecDepth 20000 in
theorem dL_law_447 : decode cL_law 447 = .ok (.aload_n 0, 1) := by decide +kernel
set_option maxRecDepth 20000 in
theorem dL_law_448 : decode cL_law 448 = .ok (.iload_n 3, 1) := by decide +kernel
set_option maxRecDepth 20000 in
theorem dL_law_449 : decode cL_law 449 = .ok (.iconst 1, 1) := by decide +kernel
set_option maxRecDepth 20000 in
theorem dL_law_450 : decode cL_law 450 = .ok (.iadd, 1) := by decide +kernel
set_option maxRecDepth 20000 in
theorem dL_law_451 : decode cL_law 451 = .ok (.iaload, 1) := by decide +kernel
set_option maxRecDepth 20000 in
theorem dL_law_452 : decode cL_law 452 = .ok (.aload_n 0, 1) := by decide +kernel
set_option maxRecDepth 20000 in
theorem dL_law_453 : decode cL_law 453 = .ok (.iload_n 3, 1) := by decide +kernel
set_option maxRecDepth 20000 in
theorem dL_law_454 : decode cL_law 454 = .ok (.iconst 2, 1) := by decide +kernel
set_option maxRecDepth 20000 in
theorem dL_law_455 : decode cL_law 455 = .ok (.iadd, 1) := by decide +kernel
set_option maxRecDepth 20000 in
theorem dL_law_456 : decode cL_law 456 = .ok (.iaload, 1) := by decide +kernel
set_option maxRecDepth 20000 in
theorem dL_law_457 : decode cL_law 457 = .ok (.invokevirtual 68, 3) := by decide +kernel
set_option maxRecDepth 20000 in
theorem dL_law_460 : decode cL_law 460 = .ok (.if_icmp .eq 302, 3) := by decide +kernel
set_option maxRecDepth 20000 in
theorem dL_law_463 : decode cL_law 463 = .ok (.iconst 0, 1) := by decide +kernel
set_option maxRecDepth 20000 in
theorem dL_law_464 : decode cL_law 464 = .ok (.ireturn, 1) := by decide +kernel
set_option maxRecDepth 20000 in
theorem dL_law_465 : decode cL_law 465 = .ok (.aload_n 1, 1) := by decide +kernel
set_option maxRecDepth 20000 in
theorem dL_law_466 : decode cL_law 466 = .ok (.aload_n 0, 1) := by decide +kernel
set_option maxRecDepth 20000 in
theorem dL_law_467 : decode cL_law 467 = .ok (.iload_n 3, 1) := by decide +kernel
set_option maxRecDepth 20000 in
theorem dL_law_468 : decode cL_law 468 = .ok (.iconst 1, 1) := by decide +kernel
set_option maxRecDepth 20000 in
theorem dL_law_469 : decode cL_law 469 = .ok (.iadd, 1) := by decide +kernel
set_option maxRecDepth 20000 in
theorem dL_law_470 : decode cL_law 470 = .ok (.iaload, 1) := by decide +kernel
set_option maxRecDepth 20000 in
theorem dL_law_471 : decode cL_law 471 = .ok (.aload_n 0, 1) := by decide +kernel
set_option maxRecDepth 20000 in
theorem dL_law_472 : decode cL_law 472 = .ok (.iload_n 3, 1) := by decide +kernel
set_option maxRecDepth 20000 in
theorem dL_law_473 : decode cL_law 473 = .ok (.iconst 2, 1) := by decide +kernel
set_option maxRecDepth 20000 in
theorem dL_law_474 : decode cL_law 474 = .ok (.iadd, 1) := by decide +kernel
set_option maxRecDepth 20000 in
theorem dL_law_475 : decode cL_law 475 = .ok (.iaload, 1) := by decide +kernel
set_option maxRecDepth 20000 in
theorem dL_law_476 : decode cL_law 476 = .ok (.invokevirtual 69, 3) := by decide +kernel
set_option maxRecDepth 20000 in
theorem dL_law_479 : decode cL_law 479 = .ok (.aload_n 2, 1) := by decide +kernel
set_option maxRecDepth 20000 in
theorem dL_law_480 : decode cL_law 480 = .ok (.aload_n 0, 1) := by decide +kernel
set_option maxRecDepth 20000 in
theorem dL_law_481 : decode cL_law 481 = .ok (.iload_n 3, 1) := by decide +kernel
set_option maxRecDepth 20000 in
theorem dL_law_482 : decode cL_law 482 = .ok (.iconst 1, 1) := by decide +kernel
set_option maxRecDepth 20000 in
theorem dL_law_483 : decode cL_law 483 = .ok (.iadd, 1) := by decide +kernel
set_option maxRecDepth 20000 in
theorem dL_law_484 : decode cL_law 484 = .ok (.iaload, 1) := by decide +kernel
set_option maxRecDepth 20000 in
theorem dL_law_485 : decode cL_law 485 = .ok (.aload_n 0, 1) := by decide +kernel
set_option maxRecDepth 20000 in
theorem dL_law_486 : decode cL_law 486 = .ok (.iload_n 3, 1) := by decide +kernel
set_option maxRecDepth 20000 in
theorem dL_law_487 : decode cL_law 487 = .ok (.iconst 2, 1) := by decide +kernel
set_option maxRecDepth 20000 in
theorem dL_law_488 : decode cL_law 488 = .ok (.iadd, 1) := by decide +kernel
set_option maxRecDepth 20000 in
theorem dL_law_489 : decode cL_law 489 = .ok (.iaload, 1) := by decide +kernel
set_option maxRecDepth 20000 in
theorem dL_law_490 : decode cL_law 490 = .ok (.invokevirtual 72, 3) := by decide +kernel
set_option maxRecDepth 20000 in
theorem dL_law_493 : decode cL_law 493 = .ok (.if_icmp .eq 269, 3) := by decide +kernel
set_option maxRecDepth 20000 in
theorem dL_law_496 : decode cL_law 496 = .ok (.iconst 0, 1) := by decide +kernel
set_option maxRecDepth 20000 in
theorem dL_law_497 : decode cL_law 497 = .ok (.ireturn, 1) := by decide +kernel
set_option maxRecDepth 20000 in
theorem dL_law_498 : decode cL_law 498 = .ok (.aload_n 1, 1) := by decide +kernel
set_option maxRecDepth 20000 in
theorem dL_law_499 : decode cL_law 499 = .ok (.aload_n 0, 1) := by decide +kernel
set_option maxRecDepth 20000 in
theorem dL_law_500 : decode cL_law 500 = .ok (.iload_n 3, 1) := by decide +kernel
set_option maxRecDepth 20000 in
theorem dL_law_501 : decode cL_law 501 = .ok (.iconst 1, 1) := by decide +kernel
set_option maxRecDepth 20000 in
theorem dL_law_502 : decode cL_law 502 = .ok (.iadd, 1) := by decide +kernel
set_option maxRecDepth 20000 in
theorem dL_law_503 : decode cL_law 503 = .ok (.iaload, 1) := by decide +kernel
set_option maxRecDepth 20000 in
theorem dL_law_504 : decode cL_law 504 = .ok (.aload_n 0, 1) := by decide +kernel
set_option maxRecDepth 20000 in
theorem dL_law_505 : decode cL_law 505 = .ok (.iload_n 3, 1) := by decide +kernel
set_option maxRecDepth 20000 in
theorem dL_law_506 : decode cL_law 506 = .ok (.iconst 2, 1) := by decide +kernel
set_option maxRecDepth 20000 in
theorem dL_law_507 : decode cL_law 507 = .ok (.iadd, 1) := by decide +kernel
set_option maxRecDepth 20000 in
theorem dL_law_508 : decode cL_law 508 = .ok (.iaload, 1) := by decide +kernel
set_option maxRecDepth 20000 in
theorem dL_law_509 : decode cL_law 509 = .ok (.aload_n 0, 1) := by decide +kernel
set_option maxRecDepth 20000 in
theorem dL_law_510 : decode cL_law 510 = .ok (.iload_n 3, 1) := by decide +kernel
set_option maxRecDepth 20000 in
theorem dL_law_511 : decode cL_law 511 = .ok (.iconst 3, 1) := by decide +kernel
set_option maxRecDepth 20000 in
theorem dL_law_512 : decode cL_law 512 = .ok (.iadd, 1) := by decide +kernel
set_option maxRecDepth 20000 in
theorem dL_law_513 : decode cL_law 513 = .ok (.iaload, 1) := by decide +kernel
set_option maxRecDepth 20000 in
theorem dL_law_514 : decode cL_law 514 = .ok (.invokevirtual 73, 3) := by decide +kernel
set_option maxRecDepth 20000 in
theorem dL_law_517 : decode cL_law 517 = .ok (.aload_n 2, 1) := by decide +kernel
set_option maxRecDepth 20000 in
theorem dL_law_518 : decode cL_law 518 = .ok (.aload_n 0, 1) := by decide +kernel
set_option maxRecDepth 20000 in
theorem dL_law_519 : decode cL_law 519 = .ok (.iload_n 3, 1) := by decide +kernel
set_option maxRecDepth 20000 in
theorem dL_law_520 : decode cL_law 520 = .ok (.iconst 1, 1) := by decide +kernel
set_option maxRecDepth 20000 in
theorem dL_law_521 : decode cL_law 521 = .ok (.iadd, 1) := by decide +kernel
set_option maxRecDepth 20000 in
theorem dL_law_522 : decode cL_law 522 = .ok (.iaload, 1) := by decide +kernel
set_option maxRecDepth 20000 in
theorem dL_law_523 : decode cL_law 523 = .ok (.aload_n 0, 1) := by decide +kernel
set_option maxRecDepth 20000 in
theorem dL_law_524 : decode cL_law 524 = .ok (.iload_n 3, 1) := by decide +kernel
set_option maxRecDepth 20000 in
theorem dL_law_525 : decode cL_law 525 = .ok (.iconst 2, 1) := by decide +kernel
set_option maxRecDepth 20000 in
theorem dL_law_526 : decode cL_law 526 = .ok (.iadd, 1) := by decide +kernel
set_option maxRecDepth 20000 in
theorem dL_law_527 : decode cL_law 527 = .ok (.iaload, 1) := by decide +kernel
set_option maxRecDepth 20000 in
theorem dL_law_528 : decode cL_law 528 = .ok (.aload_n 0, 1) := by decide +kernel
set_option maxRecDepth 20000 in
theorem dL_law_529 : decode cL_law 529 = .ok (.iload_n 3, 1) := by decide +kernel
set_option maxRecDepth 20000 in
theorem dL_law_530 : decode cL_law 530 = .ok (.iconst 3, 1) := by decide +kernel
set_option maxRecDepth 20000 in
theorem dL_law_531 : decode cL_law 531 = .ok (.iadd, 1) := by decide +kernel
set_option maxRecDepth 20000 in
theorem dL_law_532 : decode cL_law 532 = .ok (.iaload, 1) := by decide +kernel
set_option maxRecDepth 20000 in
theorem dL_law_533 : decode cL_law 533 = .ok (.invokevirtual 76, 3) := by decide +kernel
set_option maxRecDepth 20000 in
theorem dL_law_536 : decode cL_law 536 = .ok (.if_icmp .eq 226, 3) := by decide +kernel
set_option maxRecDepth 20000 in
theorem dL_law_539 : decode cL_law 539 = .ok (.iconst 0, 1) := by decide +kernel
set_option maxRecDepth 20000 in
theorem dL_law_540 : decode cL_law 540 = .ok (.ireturn, 1) := by decide +kernel
set_option maxRecDepth 20000 in
theorem dL_law_541 : decode cL_law 541 = .ok (.aload_n 1, 1) := by decide +kernel
set_option maxRecDepth 20000 in
theorem dL_law_542 : decode cL_law 542 = .ok (.aload_n 0, 1) := by decide +kernel
set_option maxRecDepth 20000 in
theorem dL_law_543 : decode cL_law 543 = .ok (.iload_n 3, 1) := by decide +kernel
set_option maxRecDepth 20000 in
theorem dL_law_544 : decode cL_law 544 = .ok (.iconst 1, 1) := by decide +kernel
set_option maxRecDepth 20000 in
theorem dL_law_545 : decode cL_law 545 = .ok (.iadd, 1) := by decide +kernel
set_option maxRecDepth 20000 in
theorem dL_law_546 : decode cL_law 546 = .ok (.iaload, 1) := by decide +kernel
set_option maxRecDepth 20000 in
theorem dL_law_547 : decode cL_law 547 = .ok (.aload_n 0, 1) := by decide +kernel
set_option maxRecDepth 20000 in
theorem dL_law_548 : decode cL_law 548 = .ok (.iload_n 3, 1) := by decide +kernel
set_option maxRecDepth 20000 in
theorem dL_law_549 : decode cL_law 549 = .ok (.iconst 2, 1) := by decide +kernel
set_option maxRecDepth 20000 in
theorem dL_law_550 : decode cL_law 550 = .ok (.iadd, 1) := by decide +kernel
set_option maxRecDepth 20000 in
theorem dL_law_551 : decode cL_law 551 = .ok (.iaload, 1) := by decide +kernel
set_option maxRecDepth 20000 in
theorem dL_law_552 : decode cL_law 552 = .ok (.aload_n 0, 1) := by decide +kernel
set_option maxRecDepth 20000 in
theorem dL_law_553 : decode cL_law 553 = .ok (.iload_n 3, 1) := by decide +kernel
set_option maxRecDepth 20000 in
theorem dL_law_554 : decode cL_law 554 = .ok (.iconst 3, 1) := by decide +kernel
set_option maxRecDepth 20000 in
theorem dL_law_555 : decode cL_law 555 = .ok (.iadd, 1) := by decide +kernel
set_option maxRecDepth 20000 in
theorem dL_law_556 : decode cL_law 556 = .ok (.iaload, 1) := by decide +kernel
set_option maxRecDepth 20000 in
theorem dL_law_557 : decode cL_law 557 = .ok (.invokevirtual 77, 3) := by decide +kernel
set_option maxRecDepth 20000 in
theorem dL_law_560 : decode cL_law 560 = .ok (.aload_n 2, 1) := by decide +kernel
set_option maxRecDepth 20000 in
theorem dL_law_561 : decode cL_law 561 = .ok (.aload_n 0, 1) := by decide +kernel
set_option maxRecDepth 20000 in
theorem dL_law_562 : decode cL_law 562 = .ok (.iload_n 3, 1) := by decide +kernel
set_option maxRecDepth 20000 in
theorem dL_law_563 : decode cL_law 563 = .ok (.iconst 1, 1) := by decide +kernel
set_option maxRecDepth 20000 in
theorem dL_law_564 : decode cL_law 564 = .ok (.iadd, 1) := by decide +kernel
set_option maxRecDepth 20000 in
theorem dL_law_565 : decode cL_law 565 = .ok (.iaload, 1) := by decide +kernel
set_option maxRecDepth 20000 in
theorem dL_law_566 : decode cL_law 566 = .ok (.aload_n 0, 1) := by decide +kernel
set_option maxRecDepth 20000 in
theorem dL_law_567 : decode cL_law 567 = .ok (.iload_n 3, 1) := by decide +kernel
set_option maxRecDepth 20000 in
theorem dL_law_568 : decode cL_law 568 = .ok (.iconst 2, 1) := by decide +kernel
set_option maxRecDepth 20000 in
theorem dL_law_569 : decode cL_law 569 = .ok (.iadd, 1) := by decide +kernel
set_option maxRecDepth 20000 in
theorem dL_law_570 : decode cL_law 570 = .ok (.iaload, 1) := by decide +kernel
set_option maxRecDepth 20000 in
theorem dL_law_571 : decode cL_law 571 = .ok (.aload_n 0, 1) := by decide +kernel
set_option maxRecDepth 20000 in
theorem dL_law_572 : decode cL_law 572 = .ok (.iload_n 3, 1) := by decide +kernel
set_option maxRecDepth 20000 in
theorem dL_law_573 : decode cL_law 573 = .ok (.iconst 3, 1) := by decide +kernel
set_option maxRecDepth 20000 in
theorem dL_law_574 : decode cL_law 574 = .ok (.iadd, 1) := by decide +kernel
set_option maxRecDepth 20000 in
theorem dL_law_575 : decode cL_law 575 = .ok (.iaload, 1) := by decide +kernel
set_option maxRecDepth 20000 in
theorem dL_law_576 : decode cL_law 576 = .ok (.invokevirtual 80, 3) := by decide +kernel
set_option maxRecDepth 20000 in
theorem dL_law_579 : decode cL_law 579 = .ok (.if_icmp .eq 183, 3) := by decide +kernel
set_option maxRecDepth 20000 in
theorem dL_law_582 : decode cL_law 582 = .ok (.iconst 0, 1) := by decide +kernel
set_option maxRecDepth 20000 in
theorem dL_law_583 : decode cL_law 583 = .ok (.ireturn, 1) := by decide +kernel
set_option maxRecDepth 20000 in
theorem dL_law_584 : decode cL_law 584 = .ok (.aload_n 1, 1) := by decide +kernel
set_option maxRecDepth 20000 in
theorem dL_law_585 : decode cL_law 585 = .ok (.aload_n 0, 1) := by decide +kernel
set_option maxRecDepth 20000 in
theorem dL_law_586 : decode cL_law 586 = .ok (.iload_n 3, 1) := by decide +kernel
set_option maxRecDepth 20000 in
theorem dL_law_587 : decode cL_law 587 = .ok (.iconst 1, 1) := by decide +kernel
set_option maxRecDepth 20000 in
theorem dL_law_588 : decode cL_law 588 = .ok (.iadd, 1) := by decide +kernel
set_option maxRecDepth 20000 in
theorem dL_law_589 : decode cL_law 589 = .ok (.iaload, 1) := by decide +kernel
set_option maxRecDepth 20000 in
theorem dL_law_590 : decode cL_law 590 = .ok (.aload_n 0, 1) := by decide +kernel
set_option maxRecDepth 20000 in
theorem dL_law_591 : decode cL_law 591 = .ok (.iload_n 3, 1) := by decide +kernel
set_option maxRecDepth 20000 in
theorem dL_law_592 : decode cL_law 592 = .ok (.iconst 2, 1) := by decide +kernel
set_option maxRecDepth 20000 in
theorem dL_law_593 : decode cL_law 593 = .ok (.iadd, 1) := by decide +kernel
set_option maxRecDepth 20000 in
theorem dL_law_594 : decode cL_law 594 = .ok (.iaload, 1) := by decide +kernel
set_option maxRecDepth 20000 in
theorem dL_law_595 : decode cL_law 595 = .ok (.invokevirtual 81, 3) := by decide +kernel
set_option maxRecDepth 20000 in
theorem dL_law_598 : decode cL_law 598 = .ok (.aload_n 2, 1) := by decide +kernel
set_option maxRecDepth 20000 in
theorem dL_law_599 : decode cL_law 599 = .ok (.aload_n 0, 1) := by decide +kernel
set_option maxRecDepth 20000 in
theorem dL_law_600 : decode cL_law 600 = .ok (.iload_n 3, 1) := by decide +kernel
set_option maxRecDepth 20000 in
theorem dL_law_601 : decode cL_law 601 = .ok (.iconst 1, 1) := by decide +kernel
set_option maxRecDepth 20000 in
theorem dL_law_602 : decode cL_law 602 = .ok (.iadd, 1) := by decide +kernel
set_option maxRecDepth 20000 in
theorem dL_law_603 : decode cL_law 603 = .ok (.iaload, 1) := by decide +kernel
set_option maxRecDepth 20000 in
theorem dL_law_604 : decode cL_law 604 = .ok (.aload_n 0, 1) := by decide +kernel
set_option maxRecDepth 20000 in
theorem dL_law_605 : decode cL_law 605 = .ok (.iload_n 3, 1) := by decide +kernel
set_option maxRecDepth 20000 in
theorem dL_law_606 : decode cL_law 606 = .ok (.iconst 2, 1) := by decide +kernel
set_option maxRecDepth 20000 in
theorem dL_law_607 : decode cL_law 607 = .ok (.iadd, 1) := by decide +kernel
set_option maxRecDepth 20000 in
theorem dL_law_608 : decode cL_law 608 = .ok (.iaload, 1) := by decide +kernel
set_option maxRecDepth 20000 in
theorem dL_law_609 : decode cL_law 609 = .ok (.invokevirtual 84, 3) := by decide +kernel
set_option maxRecDepth 20000 in
theorem dL_law_612 : decode cL_law 612 = .ok (.if_icmp .eq 150, 3) := by decide +kernel
set_option maxRecDepth 20000 in
theorem dL_law_615 : decode cL_law 615 = .ok (.iconst 0, 1) := by decide +kernel
set_option maxRecDepth 20000 in
theorem dL_law_616 : decode cL_law 616 = .ok (.ireturn, 1) := by decide +kernel
set_option maxRecDepth 20000 in
theorem dL_law_617 : decode cL_law 617 = .ok (.aload_n 1, 1) := by decide +kernel
set_option maxRecDepth 20000 in
theorem dL_law_618 : decode cL_law 618 = .ok (.aload_n 0, 1) := by decide +kernel
set_option maxRecDepth 20000 in
theorem dL_law_619 : decode cL_law 619 = .ok (.iload_n 3, 1) := by decide +kernel
set_option maxRecDepth 20000 in
theorem dL_law_620 : decode cL_law 620 = .ok (.iconst 1, 1) := by decide +kernel
set_option maxRecDepth 20000 in
theorem dL_law_621 : decode cL_law 621 = .ok (.iadd, 1) := by decide +kernel
set_option maxRecDepth 20000 in
theorem dL_law_622 : decode cL_law 622 = .ok (.iaload, 1) := by decide +kernel
set_option maxRecDepth 20000 in
theorem dL_law_623 : decode cL_law 623 = .ok (.invokevirtual 85, 3) := by decide +kernel
set_option maxRecDepth 20000 in
theorem dL_law_626 : decode cL_law 626 = .ok (.aload_n 2, 1) := by decide +kernel
set_option maxRecDepth 20000 in
theorem dL_law_627 : decode cL_law 627 = .ok (.aload_n 0, 1) := by decide +kernel
set_option maxRecDepth 20000 in
theorem dL_law_628 : decode cL_law 628 = .ok (.iload_n 3, 1) := by decide +kernel
set_option maxRecDepth 20000 in
theorem dL_law_629 : decode cL_law 629 = .ok (.iconst 1, 1) := by decide +kernel
set_option maxRecDepth 20000 in
theorem dL_law_630 : decode cL_law 630 = .ok (.iadd, 1) := by decide +kernel
set_option maxRecDepth 20000 in
theorem dL_law_631 : decode cL_law 631 = .ok (.iaload, 1) := by decide +kernel
set_option maxRecDepth 20000 in
theorem dL_law_632 : decode cL_law 632 = .ok (.invokevirtual 88, 3) := by decide +kernel
set_option maxRecDepth 20000 in
theorem dL_law_635 : decode cL_law 635 = .ok (.if_icmp .eq 127, 3) := by decide +kernel
set_option maxRecDepth 20000 in
theorem dL_law_638 : decode cL_law 638 = .ok (.iconst 0, 1) := by decide +kernel
set_option maxRecDepth 20000 in
theorem dL_law_639 : decode cL_law 639 = .ok (.ireturn, 1) := by decide +kernel
set_option maxRecDepth 20000 in
theorem dL_law_640 : decode cL_law 640 = .ok (.aload_n 1, 1) := by decide +kernel
set_option maxRecDepth 20000 in
theorem dL_law_641 : decode cL_law 641 = .ok (.aload_n 0, 1) := by decide +kernel
set_option maxRecDepth 20000 in
theorem dL_law_642 : decode cL_law 642 = .ok (.iload_n 3, 1) := by decide +kernel
set_option maxRecDepth 20000 in
theorem dL_law_643 : decode cL_law 643 = .ok (.iconst 1, 1) := by decide +kernel
set_option maxRecDepth 20000 in
theorem dL_law_644 : decode cL_law 644 = .ok (.iadd, 1) := by decide +kernel
set_option maxRecDepth 20000 in
theorem dL_law_645 : decode cL_law 645 = .ok (.iaload, 1) := by decide +kernel
set_option maxRecDepth 20000 in
theorem dL_law_646 : decode cL_law 646 = .ok (.aload_n 0, 1) := by decide +kernel
set_option maxRecDepth 20000 in
theorem dL_law_647 : decode cL_law 647 = .ok (.iload_n 3, 1) := by decide +kernel
set_option maxRecDepth 20000 in
theorem dL_law_648 : decode cL_law 648 = .ok (.iconst 2, 1) := by decide +kernel
set_option maxRecDepth 20000 in
theorem dL_law_649 : decode cL_law 649 = .ok (.iadd, 1) := by decide +kernel
set_option maxRecDepth 20000 in
theorem dL_law_650 : decode cL_law 650 = .ok (.iaload, 1) := by decide +kernel
set_option maxRecDepth 20000 in
theorem dL_law_651 : decode cL_law 651 = .ok (.invokevirtual 89, 3) := by decide +kernel
set_option maxRecDepth 20000 in
theorem dL_law_654 : decode cL_law 654 = .ok (.aload_n 2, 1) := by decide +kernel
set_option maxRecDepth 20000 in
theorem dL_law_655 : decode cL_law 655 = .ok (.aload_n 0, 1) := by decide +kernel
set_option maxRecDepth 20000 in
theorem dL_law_656 : decode cL_law 656 = .ok (.iload_n 3, 1) := by decide +kernel
set_option maxRecDepth 20000 in
theorem dL_law_657 : decode cL_law 657 = .ok (.iconst 1, 1) := by decide +kernel
set_option maxRecDepth 20000 in
theorem dL_law_658 : decode cL_law 658 = .ok (.iadd, 1) := by decide +kernel
set_option maxRecDepth 20000 in
theorem dL_law_659 : decode cL_law 659 = .ok (.iaload, 1) := by decide +kernel
set_option maxRecDepth 20000 in
theorem dL_law_660 : decode cL_law 660 = .ok (.aload_n 0, 1) := by decide +kernel
set_option maxRecDepth 20000 in
theorem dL_law_661 : decode cL_law 661 = .ok (.iload_n 3, 1) := by decide +kernel
set_option maxRecDepth 20000 in
theorem dL_law_662 : decode cL_law 662 = .ok (.iconst 2, 1) := by decide +kernel
set_option maxRecDepth 20000 in
theorem dL_law_663 : decode cL_law 663 = .ok (.iadd, 1) := by decide +kernel
set_option maxRecDepth 20000 in
theorem dL_law_664 : decode cL_law 664 = .ok (.iaload, 1) := by decide +kernel
set_option maxRecDepth 20000 in
theorem dL_law_665 : decode cL_law 665 = .ok (.invokevirtual 92, 3) := by decide +kernel
set_option maxRecDepth 20000 in
theorem dL_law_668 : decode cL_law 668 = .ok (.if_icmp .eq 94, 3) := by decide +kernel
set_option maxRecDepth 20000 in
theorem dL_law_671 : decode cL_law 671 = .ok (.iconst 0, 1) := by decide +kernel
set_option maxRecDepth 20000 in
theorem dL_law_672 : decode cL_law 672 = .ok (.ireturn, 1) := by decide +kernel
set_option maxRecDepth 20000 in
theorem dL_law_673 : decode cL_law 673 = .ok (.aload_n 1, 1) := by decide +kernel
set_option maxRecDepth 20000 in
theorem dL_law_674 : decode cL_law 674 = .ok (.aload_n 0, 1) := by decide +kernel
set_option maxRecDepth 20000 in
theorem dL_law_675 : decode cL_law 675 = .ok (.iload_n 3, 1) := by decide +kernel
set_option maxRecDepth 20000 in
theorem dL_law_676 : decode cL_law 676 = .ok (.iconst 1, 1) := by decide +kernel
set_option maxRecDepth 20000 in
theorem dL_law_677 : decode cL_law 677 = .ok (.iadd, 1) := by decide +kernel
set_option maxRecDepth 20000 in
theorem dL_law_678 : decode cL_law 678 = .ok (.iaload, 1) := by decide +kernel
set_option maxRecDepth 20000 in
theorem dL_law_679 : decode cL_law 679 = .ok (.aload_n 0, 1) := by decide +kernel
set_option maxRecDepth 20000 in
theorem dL_law_680 : decode cL_law 680 = .ok (.iload_n 3, 1) := by decide +kernel
set_option maxRecDepth 20000 in
theorem dL_law_681 : decode cL_law 681 = .ok (.iconst 2, 1) := by decide +kernel
set_option maxRecDepth 20000 in
theorem dL_law_682 : decode cL_law 682 = .ok (.iadd, 1) := by decide +kernel
set_option maxRecDepth 20000 in
theorem dL_law_683 : decode cL_law 683 = .ok (.iaload, 1) := by decide +kernel
set_option maxRecDepth 20000 in
theorem dL_law_684 : decode cL_law 684 = .ok (.invokevirtual 93, 3) := by decide +kernel
set_option maxRecDepth 20000 in
theorem dL_law_687 : decode cL_law 687 = .ok (.aload_n 2, 1) := by decide +kernel
set_option maxRecDepth 20000 in
theorem dL_law_688 : decode cL_law 688 = .ok (.aload_n 0, 1) := by decide +kernel
set_option maxRecDepth 20000 in
theorem dL_law_689 : decode cL_law 689 = .ok (.iload_n 3, 1) := by decide +kernel
set_option maxRecDepth 20000 in
theorem dL_law_690 : decode cL_law 690 = .ok (.iconst 1, 1) := by decide +kernel
set_option maxRecDepth 20000 in
theorem dL_law_691 : decode cL_law 691 = .ok (.iadd, 1) := by decide +kernel
set_option maxRecDepth 20000 in
theorem dL_law_692 : decode cL_law 692 = .ok (.iaload, 1) := by decide +kernel
set_option maxRecDepth 20000 in
theorem dL_law_693 : decode cL_law 693 = .ok (.aload_n 0, 1) := by decide +kernel
set_option maxRecDepth 20000 in
theorem dL_law_694 : decode cL_law 694 = .ok (.iload_n 3, 1) := by decide +kernel
set_option maxRecDepth 20000 in
theorem dL_law_695 : decode cL_law 695 = .ok (.iconst 2, 1) := by decide +kernel
set_option maxRecDepth 20000 in
theorem dL_law_696 : decode cL_law 696 = .ok (.iadd, 1) := by decide +kernel
set_option maxRecDepth 20000 in
theorem dL_law_697 : decode cL_law 697 = .ok (.iaload, 1) := by decide +kernel
set_option maxRecDepth 20000 in
theorem dL_law_698 : decode cL_law 698 = .ok (.invokevirtual 96, 3) := by decide +kernel
set_option maxRecDepth 20000 in
theorem dL_law_701 : decode cL_law 701 = .ok (.if_icmp .eq 61, 3) := by decide +kernel
set_option maxRecDepth 20000 in
theorem dL_law_704 : decode cL_law 704 = .ok (.iconst 0, 1) := by decide +kernel
set_option maxRecDepth 20000 in
theorem dL_law_705 : decode cL_law 705 = .ok (.ireturn, 1) := by decide +kernel
set_option maxRecDepth 20000 in
theorem dL_law_706 : decode cL_law 706 = .ok (.aload_n 1, 1) := by decide +kernel
set_option maxRecDepth 20000 in
theorem dL_law_707 : decode cL_law 707 = .ok (.aload_n 0, 1) := by decide +kernel
set_option maxRecDepth 20000 in
theorem dL_law_708 : decode cL_law 708 = .ok (.iload_n 3, 1) := by decide +kernel
set_option maxRecDepth 20000 in
theorem dL_law_709 : decode cL_law 709 = .ok (.iconst 1, 1) := by decide +kernel
set_option maxRecDepth 20000 in
theorem dL_law_710 : decode cL_law 710 = .ok (.iadd, 1) := by decide +kernel
set_option maxRecDepth 20000 in
theorem dL_law_711 : decode cL_law 711 = .ok (.iaload, 1) := by decide +kernel
set_option maxRecDepth 20000 in
theorem dL_law_712 : decode cL_law 712 = .ok (.aload_n 0, 1) := by decide +kernel
set_option maxRecDepth 20000 in
theorem dL_law_713 : decode cL_law 713 = .ok (.iload_n 3, 1) := by decide +kernel
set_option maxRecDepth 20000 in
theorem dL_law_714 : decode cL_law 714 = .ok (.iconst 2, 1) := by decide +kernel
set_option maxRecDepth 20000 in
theorem dL_law_715 : decode cL_law 715 = .ok (.iadd, 1) := by decide +kernel
set_option maxRecDepth 20000 in
theorem dL_law_716 : decode cL_law 716 = .ok (.iaload, 1) := by decide +kernel
set_option maxRecDepth 20000 in
theorem dL_law_717 : decode cL_law 717 = .ok (.invokevirtual 97, 3) := by decide +kernel
set_option maxRecDepth 20000 in
theorem dL_law_720 : decode cL_law 720 = .ok (.aload_n 2, 1) := by decide +kernel
set_option maxRecDepth 20000 in
theorem dL_law_721 : decode cL_law 721 = .ok (.aload_n 0, 1) := by decide +kernel
set_option maxRecDepth 20000 in
theorem dL_law_722 : decode cL_law 722 = .ok (.iload_n 3, 1) := by decide +kernel
set_option maxRecDepth 20000 in
theorem dL_law_723 : decode cL_law 723 = .ok (.iconst 1, 1) := by decide +kernel
set_option maxRecDepth 20000 in
theorem dL_law_724 : decode cL_law 724 = .ok (.iadd, 1) := by decide +kernel
set_option maxRecDepth 20000 in
theorem dL_law_725 : decode cL_law 725 = .ok (.iaload, 1) := by decide +kernel
set_option maxRecDepth 20000 in
theorem dL_law_726 : decode cL_law 726 = .ok (.aload_n 0, 1) := by decide +kernel
set_option maxRecDepth 20000 in
theorem dL_law_727 : decode cL_law 727 = .ok (.iload_n 3, 1) := by decide +kernel
set_option maxRecDepth 20000 in
theorem dL_law_728 : decode cL_law 728 = .ok (.iconst 2, 1) := by decide +kernel
set_option maxRecDepth 20000 in
theorem dL_law_729 : decode cL_law 729 = .ok (.iadd, 1) := by decide +kernel
set_option maxRecDepth 20000 in
theorem dL_law_730 : decode cL_law 730 = .ok (.iaload, 1) := by decide +kernel
set_option maxRecDepth 20000 in
theorem dL_law_731 : decode cL_law 731 = .ok (.invokevirtual 100, 3) := by decide +kernel
set_option maxRecDepth 20000 in
theorem dL_law_734 : decode cL_law 734 = .ok (.if_icmp .eq 28, 3) := by decide +kernel
set_option maxRecDepth 20000 in
theorem dL_law_737 : decode cL_law 737 = .ok (.iconst 0, 1) := by decide +kernel
set_option maxRecDepth 20000 in
theorem dL_law_738 : decode cL_law 738 = .ok (.ireturn, 1) := by decide +kernel
set_option maxRecDepth 20000 in
theorem dL_law_739 : decode cL_law 739 = .ok (.aload_n 1, 1) := by decide +kernel
set_option maxRecDepth 20000 in
theorem dL_law_740 : decode cL_law 740 = .ok (.aload_n 0, 1) := by decide +kernel
set_option maxRecDepth 20000 in
theorem dL_law_741 : decode cL_law 741 = .ok (.iload_n 3, 1) := by decide +kernel
set_option maxRecDepth 20000 in
theorem dL_law_742 : decode cL_law 742 = .ok (.iconst 1, 1) := by decide +kernel
set_option maxRecDepth 20000 in
theorem dL_law_743 : decode cL_law 743 = .ok (.iadd, 1) := by decide +kernel
set_option maxRecDepth 20000 in
theorem dL_law_744 : decode cL_law 744 = .ok (.iaload, 1) := by decide +kernel
set_option maxRecDepth 20000 in
theorem dL_law_745 : decode cL_law 745 = .ok (.invokevirtual 101, 3) := by decide +kernel
set_option maxRecDepth 20000 in
theorem dL_law_748 : decode cL_law 748 = .ok (.aload_n 2, 1) := by decide +kernel
set_option maxRecDepth 20000 in
theorem dL_law_749 : decode cL_law 749 = .ok (.aload_n 0, 1) := by decide +kernel
set_option maxRecDepth 20000 in
theorem dL_law_750 : decode cL_law 750 = .ok (.iload_n 3, 1) := by decide +kernel
set_option maxRecDepth 20000 in
theorem dL_law_751 : decode cL_law 751 = .ok (.iconst 1, 1) := by decide +kernel
set_option maxRecDepth 20000 in
theorem dL_law_752 : decode cL_law 752 = .ok (.iadd, 1) := by decide +kernel
set_option maxRecDepth 20000 in
theorem dL_law_753 : decode cL_law 753 = .ok (.iaload, 1) := by decide +kernel
set_option maxRecDepth 20000 in
theorem dL_law_754 : decode cL_law 754 = .ok (.invokevirtual 104, 3) := by decide +kernel
set_option maxRecDepth 20000 in
theorem dL_law_757 : decode cL_law 757 = .ok (.if_icmp .eq 5, 3) := by decide +kernel
set_option maxRecDepth 20000 in
theorem dL_law_760 : decode cL_law 760 = .ok (.iconst 0, 1) := by decide +kernel
set_option maxRecDepth 20000 in
theorem dL_law_761 : decode cL_law 761 = .ok (.ireturn, 1) := by decide +kernel
set_option maxRecDepth 20000 in
theorem dL_law_762 : decode cL_law 762 = .ok (.iinc 3 4, 3) := by decide +kernel
set_option maxRecDepth 20000 in
theorem dL_law_765 : decode cL_law 765 = .ok (.goto (-747), 3) := by decide +kernel
set_option maxRecDepth 20000 in
theorem dL_law_768 : decode cL_law 768 = .ok (.iconst 1, 1) := by decide +kernel
set_option maxRecDepth 20000 in
theorem dL_law_769 : decode cL_law 769 = .ok (.ireturn, 1) := by decide +kernel
end
section
/-- the words of the tables that travel to callees -/
def TB : List Cond := lw_tbl.filter goodWord
theorem tb_in {w : Cond} (h : w ∈ TB) : w ∈ lw_tbl := (List.mem_filter.mp h).1
theorem tb_0 : (Jvm.Cond.initialized "SoundWellsLaw") ∈ TB := List.mem_filter.mpr ⟨List.mem_append_right _ (List.mem_of_getElem? (i := 0) (by decide +kernel)), (by decide +kernel)⟩
theorem tb_1 : (Jvm.Cond.initialized "SoundWells") ∈ TB := List.mem_filter.mpr ⟨List.mem_append_right _ (List.mem_of_getElem? (i := 1) (by decide +kernel)), (by decide +kernel)⟩
theorem tb_2 : (Jvm.Cond.initialized "SoundWells$Reader") ∈ TB := List.mem_filter.mpr ⟨List.mem_append_right _ (List.mem_of_getElem? (i := 2) (by decide +kernel)), (by decide +kernel)⟩
theorem tb_3 : (Jvm.Cond.initialized "SoundWells$Past") ∈ TB := List.mem_filter.mpr ⟨List.mem_append_right _ (List.mem_of_getElem? (i := 3) (by decide +kernel)), (by decide +kernel)⟩
theorem tb_4 : (Jvm.Cond.initialized "SoundWells$Saw") ∈ TB := List.mem_filter.mpr ⟨List.mem_append_right _ (List.mem_of_getElem? (i := 4) (by decide +kernel)), (by decide +kernel)⟩
theorem tb_5 : (Jvm.Cond.initialized "SoundWells$Panel") ∈ TB := List.mem_filter.mpr ⟨List.mem_append_right _ (List.mem_of_getElem? (i := 5) (by decide +kernel)), (by decide +kernel)⟩
theorem tb_6 : (Jvm.Cond.initialized "SoundWells$Numbers") ∈ TB := List.mem_filter.mpr ⟨List.mem_append_right _ (List.mem_of_getElem? (i := 6) (by decide +kernel)), (by decide +kernel)⟩
theorem tb_7 : (Jvm.Cond.initialized "SoundWells$Plan") ∈ TB := List.mem_filter.mpr ⟨List.mem_append_right _ (List.mem_of_getElem? (i := 7) (by decide +kernel)), (by decide +kernel)⟩
theorem tb_8 : (Jvm.Cond.initialized "SoundWellsModel") ∈ TB := List.mem_filter.mpr ⟨List.mem_append_right _ (List.mem_of_getElem? (i := 8) (by decide +kernel)), (by decide +kernel)⟩
theorem tb_9 : (Jvm.Cond.initialized "java/lang/Math") ∈ TB := List.mem_filter.mpr ⟨List.mem_append_right _ (List.mem_of_getElem? (i := 9) (by decide +kernel)), (by decide +kernel)⟩
theorem tb_10 : (Jvm.Cond.initialized "java/lang/Integer") ∈ TB := List.mem_filter.mpr ⟨List.mem_append_right _ (List.mem_of_getElem? (i := 10) (by decide +kernel)), (by decide +kernel)⟩
theorem tb_11 : (Jvm.Cond.initialized "java/util/Arrays") ∈ TB := List.mem_filter.mpr ⟨List.mem_append_right _ (List.mem_of_getElem? (i := 11) (by decide +kernel)), (by decide +kernel)⟩
theorem tb_12 : (Jvm.Cond.classLink "SoundWellsLaw" (7 : Nat) "SoundWells") ∈ TB := List.mem_filter.mpr ⟨List.mem_append_right _ (List.mem_of_getElem? (i := 12) (by decide +kernel)), (by decide +kernel)⟩
theorem tb_13 : (Jvm.Cond.instantiable "SoundWells" (6 : Nat)) ∈ TB := List.mem_filter.mpr ⟨List.mem_append_right _ (List.mem_of_getElem? (i := 13) (by decide +kernel)), (by decide +kernel)⟩
theorem tb_14 : (Jvm.Cond.methodLink "SoundWellsLaw" (9 : Nat) ({ cls := "SoundWells", name := "<init>", desc := "()V" } : Jvm.MethodName)) ∈ TB := List.mem_filter.mpr ⟨List.mem_append_right _ (List.mem_of_getElem? (i := 14) (by decide +kernel)), (by decide +kernel)⟩
theorem tb_15 : (Jvm.Cond.instanceMethod ({ cls := "SoundWells", name := "<init>", desc := "()V" } : Jvm.MethodName)) ∈ TB := List.mem_filter.mpr ⟨List.mem_append_right _ (List.mem_of_getElem? (i := 15) (by decide +kernel)), (by decide +kernel)⟩
theorem tb_16 : (Jvm.Cond.code ({ cls := "SoundWells", name := "<init>", desc := "()V" } : Jvm.MethodName) prog_1_method_1_code (2 : Nat) (Option.none : Option Jvm.ClassFile.FieldType)) ∈ TB := List.mem_filter.mpr ⟨List.mem_append_right _ (List.mem_of_getElem? (i := 16) (by decide +kernel)), (by decide +kernel)⟩
theorem tb_17 : (Jvm.Cond.methodLink "SoundWells" (1 : Nat) ({ cls := "java/lang/Object", name := "<init>", desc := "()V" } : Jvm.MethodName)) ∈ TB := List.mem_filter.mpr ⟨List.mem_append_right _ (List.mem_of_getElem? (i := 17) (by decide +kernel)), (by decide +kernel)⟩
theorem tb_18 : (Jvm.Cond.instanceMethod ({ cls := "java/lang/Object", name := "<init>", desc := "()V" } : Jvm.MethodName)) ∈ TB := List.mem_filter.mpr ⟨List.mem_append_right _ (List.mem_of_getElem? (i := 18) (by decide +kernel)), (by decide +kernel)⟩
theorem tb_19 : (Jvm.Cond.code ({ cls := "java/lang/Object", name := "<init>", desc := "()V" } : Jvm.MethodName) object_method_1_code (1 : Nat) (Option.none : Option Jvm.ClassFile.FieldType)) ∈ TB := List.mem_filter.mpr ⟨List.mem_append_right _ (List.mem_of_getElem? (i := 19) (by decide +kernel)), (by decide +kernel)⟩
theorem tb_20 : (Jvm.Cond.classLink "SoundWells" (13 : Nat) "SoundWells$Reader") ∈ TB := List.mem_filter.mpr ⟨List.mem_append_right _ (List.mem_of_getElem? (i := 20) (by decide +kernel)), (by decide +kernel)⟩
theorem tb_21 : (Jvm.Cond.instantiable "SoundWells$Reader" (8 : Nat)) ∈ TB := List.mem_filter.mpr ⟨List.mem_append_right _ (List.mem_of_getElem? (i := 21) (by decide +kernel)), (by decide +kernel)⟩
theorem tb_23 : (Jvm.Cond.instanceMethod ({ cls := "SoundWells$Reader", name := "<init>", desc := "()V" } : Jvm.MethodName)) ∈ TB := List.mem_filter.mpr ⟨List.mem_append_right _ (List.mem_of_getElem? (i := 23) (by decide +kernel)), (by decide +kernel)⟩
theorem tb_24 : (Jvm.Cond.code ({ cls := "SoundWells$Reader", name := "<init>", desc := "()V" } : Jvm.MethodName) prog_6_method_1_code (1 : Nat) (Option.none : Option Jvm.ClassFile.FieldType)) ∈ TB := List.mem_filter.mpr ⟨List.mem_append_right _ (List.mem_of_getElem? (i := 24) (by decide +kernel)), (by decide +kernel)⟩
theorem tb_25 : (Jvm.Cond.methodLink "SoundWells$Reader" (3 : Nat) ({ cls := "java/lang/Object", name := "<init>", desc := "()V" } : Jvm.MethodName)) ∈ TB := List.mem_filter.mpr ⟨List.mem_append_right _ (List.mem_of_getElem? (i := 25) (by decide +kernel)), (by decide +kernel)⟩
theorem tb_26 : (Jvm.Cond.classLink "SoundWells$Reader" (9 : Nat) "SoundWells$Panel") ∈ TB := List.mem_filter.mpr ⟨List.mem_append_right _ (List.mem_of_getElem? (i := 26) (by decide +kernel)), (by decide +kernel)⟩
theorem tb_28 : (Jvm.Cond.fieldLink "SoundWells$Reader" (11 : Nat) "SoundWells$Reader" "panels" "[LSoundWells$Panel;") ∈ TB := List.mem_filter.mpr ⟨List.mem_append_right _ (List.mem_of_getElem? (i := 28) (by decide +kernel)), (by decide +kernel)⟩
theorem tb_29 : (Jvm.Cond.fieldLink "SoundWells$Reader" (17 : Nat) "SoundWells$Reader" "numbers" "[I") ∈ TB := List.mem_filter.mpr ⟨List.mem_append_right _ (List.mem_of_getElem? (i := 29) (by decide +kernel)), (by decide +kernel)⟩
theorem tb_30 : (Jvm.Cond.fieldLink "SoundWells$Reader" (21 : Nat) "SoundWells$Reader" "text" "[C") ∈ TB := List.mem_filter.mpr ⟨List.mem_append_right _ (List.mem_of_getElem? (i := 30) (by decide +kernel)), (by decide +kernel)⟩
theorem tb_31 : (Jvm.Cond.fieldLink "SoundWells$Reader" (25 : Nat) "SoundWells$Reader" "letters" "I") ∈ TB := List.mem_filter.mpr ⟨List.mem_append_right _ (List.mem_of_getElem? (i := 31) (by decide +kernel)), (by decide +kernel)⟩
theorem tb_32 : (Jvm.Cond.fieldLink "SoundWells$Reader" (29 : Nat) "SoundWells$Reader" "panelCount" "I") ∈ TB := List.mem_filter.mpr ⟨List.mem_append_right _ (List.mem_of_getElem? (i := 32) (by decide +kernel)), (by decide +kernel)⟩
theorem tb_33 : (Jvm.Cond.fieldLink "SoundWells$Reader" (32 : Nat) "SoundWells$Reader" "unit" "I") ∈ TB := List.mem_filter.mpr ⟨List.mem_append_right _ (List.mem_of_getElem? (i := 33) (by decide +kernel)), (by decide +kernel)⟩
theorem tb_34 : (Jvm.Cond.fieldLink "SoundWells$Reader" (35 : Nat) "SoundWells$Reader" "boardLength" "I") ∈ TB := List.mem_filter.mpr ⟨List.mem_append_right _ (List.mem_of_getElem? (i := 34) (by decide +kernel)), (by decide +kernel)⟩
theorem tb_35 : (Jvm.Cond.fieldLink "SoundWells$Reader" (38 : Nat) "SoundWells$Reader" "cutWidth" "I") ∈ TB := List.mem_filter.mpr ⟨List.mem_append_right _ (List.mem_of_getElem? (i := 35) (by decide +kernel)), (by decide +kernel)⟩
theorem tb_36 : (Jvm.Cond.laysFinal "SoundWells$Reader" "SoundWells$Reader" "panels" "[LSoundWells$Panel;") ∈ TB := List.mem_filter.mpr ⟨List.mem_append_right _ (List.mem_of_getElem? (i := 36) (by decide +kernel)), (by decide +kernel)⟩
theorem tb_37 : (Jvm.Cond.soleField "SoundWells$Reader" "panels") ∈ TB := List.mem_filter.mpr ⟨List.mem_append_right _ (List.mem_of_getElem? (i := 37) (by decide +kernel)), (by decide +kernel)⟩
theorem tb_38 : (Jvm.Cond.laysFinal "SoundWells$Reader" "SoundWells$Reader" "numbers" "[I") ∈ TB := List.mem_filter.mpr ⟨List.mem_append_right _ (List.mem_of_getElem? (i := 38) (by decide +kernel)), (by decide +kernel)⟩
theorem tb_39 : (Jvm.Cond.soleField "SoundWells$Reader" "numbers") ∈ TB := List.mem_filter.mpr ⟨List.mem_append_right _ (List.mem_of_getElem? (i := 39) (by decide +kernel)), (by decide +kernel)⟩
theorem tb_40 : (Jvm.Cond.lays "SoundWells$Reader" "SoundWells$Reader" "text" "[C") ∈ TB := List.mem_filter.mpr ⟨List.mem_append_right _ (List.mem_of_getElem? (i := 40) (by decide +kernel)), (by decide +kernel)⟩
theorem tb_41 : (Jvm.Cond.soleField "SoundWells$Reader" "text") ∈ TB := List.mem_filter.mpr ⟨List.mem_append_right _ (List.mem_of_getElem? (i := 41) (by decide +kernel)), (by decide +kernel)⟩
theorem tb_42 : (Jvm.Cond.lays "SoundWells$Reader" "SoundWells$Reader" "letters" "I") ∈ TB := List.mem_filter.mpr ⟨List.mem_append_right _ (List.mem_of_getElem? (i := 42) (by decide +kernel)), (by decide +kernel)⟩
theorem tb_43 : (Jvm.Cond.soleField "SoundWells$Reader" "letters") ∈ TB := List.mem_filter.mpr ⟨List.mem_append_right _ (List.mem_of_getElem? (i := 43) (by decide +kernel)), (by decide +kernel)⟩
theorem tb_44 : (Jvm.Cond.lays "SoundWells$Reader" "SoundWells$Reader" "panelCount" "I") ∈ TB := List.mem_filter.mpr ⟨List.mem_append_right _ (List.mem_of_getElem? (i := 44) (by decide +kernel)), (by decide +kernel)⟩
theorem tb_45 : (Jvm.Cond.soleField "SoundWells$Reader" "panelCount") ∈ TB := List.mem_filter.mpr ⟨List.mem_append_right _ (List.mem_of_getElem? (i := 45) (by decide +kernel)), (by decide +kernel)⟩
theorem tb_46 : (Jvm.Cond.lays "SoundWells$Reader" "SoundWells$Reader" "unit" "I") ∈ TB := List.mem_filter.mpr ⟨List.mem_append_right _ (List.mem_of_getElem? (i := 46) (by decide +kernel)), (by decide +kernel)⟩
theorem tb_47 : (Jvm.Cond.soleField "SoundWells$Reader" "unit") ∈ TB := List.mem_filter.mpr ⟨List.mem_append_right _ (List.mem_of_getElem? (i := 47) (by decide +kernel)), (by decide +kernel)⟩
theorem tb_48 : (Jvm.Cond.lays "SoundWells$Reader" "SoundWells$Reader" "boardLength" "I") ∈ TB := List.mem_filter.mpr ⟨List.mem_append_right _ (List.mem_of_getElem? (i := 48) (by decide +kernel)), (by decide +kernel)⟩
theorem tb_49 : (Jvm.Cond.soleField "SoundWells$Reader" "boardLength") ∈ TB := List.mem_filter.mpr ⟨List.mem_append_right _ (List.mem_of_getElem? (i := 49) (by decide +kernel)), (by decide +kernel)⟩
theorem tb_50 : (Jvm.Cond.lays "SoundWells$Reader" "SoundWells$Reader" "cutWidth" "I") ∈ TB := List.mem_filter.mpr ⟨List.mem_append_right _ (List.mem_of_getElem? (i := 50) (by decide +kernel)), (by decide +kernel)⟩
theorem tb_51 : (Jvm.Cond.soleField "SoundWells$Reader" "cutWidth") ∈ TB := List.mem_filter.mpr ⟨List.mem_append_right _ (List.mem_of_getElem? (i := 51) (by decide +kernel)), (by decide +kernel)⟩
theorem tb_52 : (Jvm.Cond.superclass "SoundWells$Reader" "java/lang/Object") ∈ TB := List.mem_filter.mpr ⟨List.mem_append_right _ (List.mem_of_getElem? (i := 52) (by decide +kernel)), (by decide +kernel)⟩
theorem tb_53 : (Jvm.Cond.arrayClass Jvm.ClassFile.FieldType.char) ∈ TB := List.mem_filter.mpr ⟨List.mem_append_right _ (List.mem_of_getElem? (i := 53) (by decide +kernel)), (by decide +kernel)⟩
theorem tb_54 : (Jvm.Cond.arrayClass Jvm.ClassFile.FieldType.int) ∈ TB := List.mem_filter.mpr ⟨List.mem_append_right _ (List.mem_of_getElem? (i := 54) (by decide +kernel)), (by decide +kernel)⟩
theorem tb_55 : (Jvm.Cond.classLink "SoundWells" (20 : Nat) "SoundWells$Past") ∈ TB := List.mem_filter.mpr ⟨List.mem_append_right _ (List.mem_of_getElem? (i := 55) (by decide +kernel)), (by decide +kernel)⟩
theorem tb_56 : (Jvm.Cond.instantiable "SoundWells$Past" (2 : Nat)) ∈ TB := List.mem_filter.mpr ⟨List.mem_append_right _ (List.mem_of_getElem? (i := 56) (by decide +kernel)), (by decide +kernel)⟩
theorem tb_58 : (Jvm.Cond.instanceMethod ({ cls := "SoundWells$Past", name := "<init>", desc := "()V" } : Jvm.MethodName)) ∈ TB := List.mem_filter.mpr ⟨List.mem_append_right _ (List.mem_of_getElem? (i := 58) (by decide +kernel)), (by decide +kernel)⟩
theorem tb_59 : (Jvm.Cond.code ({ cls := "SoundWells$Past", name := "<init>", desc := "()V" } : Jvm.MethodName) prog_4_method_1_code (1 : Nat) (Option.none : Option Jvm.ClassFile.FieldType)) ∈ TB := List.mem_filter.mpr ⟨List.mem_append_right _ (List.mem_of_getElem? (i := 59) (by decide +kernel)), (by decide +kernel)⟩
theorem tb_60 : (Jvm.Cond.methodLink "SoundWells$Past" (3 : Nat) ({ cls := "java/lang/Object", name := "<init>", desc := "()V" } : Jvm.MethodName)) ∈ TB := List.mem_filter.mpr ⟨List.mem_append_right _ (List.mem_of_getElem? (i := 60) (by decide +kernel)), (by decide +kernel)⟩
theorem tb_61 : (Jvm.Cond.classLink "SoundWells$Past" (9 : Nat) "SoundWells$Plan") ∈ TB := List.mem_filter.mpr ⟨List.mem_append_right _ (List.mem_of_getElem? (i := 61) (by decide +kernel)), (by decide +kernel)⟩
theorem tb_63 : (Jvm.Cond.fieldLink "SoundWells$Past" (11 : Nat) "SoundWells$Past" "plans" "[LSoundWells$Plan;") ∈ TB := List.mem_filter.mpr ⟨List.mem_append_right _ (List.mem_of_getElem? (i := 63) (by decide +kernel)), (by decide +kernel)⟩
theorem tb_64 : (Jvm.Cond.fieldLink "SoundWells$Past" (17 : Nat) "SoundWells$Past" "kept" "I") ∈ TB := List.mem_filter.mpr ⟨List.mem_append_right _ (List.mem_of_getElem? (i := 64) (by decide +kernel)), (by decide +kernel)⟩
theorem tb_65 : (Jvm.Cond.fieldLink "SoundWells" (103 : Nat) "SoundWells$Past" "kept" "I") ∈ TB := List.mem_filter.mpr ⟨List.mem_append_right _ (List.mem_of_getElem? (i := 65) (by decide +kernel)), (by decide +kernel)⟩
theorem tb_66 : (Jvm.Cond.laysFinal "SoundWells$Past" "SoundWells$Past" "plans" "[LSoundWells$Plan;") ∈ TB := List.mem_filter.mpr ⟨List.mem_append_right _ (List.mem_of_getElem? (i := 66) (by decide +kernel)), (by decide +kernel)⟩
theorem tb_67 : (Jvm.Cond.soleField "SoundWells$Past" "plans") ∈ TB := List.mem_filter.mpr ⟨List.mem_append_right _ (List.mem_of_getElem? (i := 67) (by decide +kernel)), (by decide +kernel)⟩
theorem tb_68 : (Jvm.Cond.lays "SoundWells$Past" "SoundWells$Past" "kept" "I") ∈ TB := List.mem_filter.mpr ⟨List.mem_append_right _ (List.mem_of_getElem? (i := 68) (by decide +kernel)), (by decide +kernel)⟩
theorem tb_69 : (Jvm.Cond.soleField "SoundWells$Past" "kept") ∈ TB := List.mem_filter.mpr ⟨List.mem_append_right _ (List.mem_of_getElem? (i := 69) (by decide +kernel)), (by decide +kernel)⟩
theorem tb_70 : (Jvm.Cond.superclass "SoundWells$Past" "java/lang/Object") ∈ TB := List.mem_filter.mpr ⟨List.mem_append_right _ (List.mem_of_getElem? (i := 70) (by decide +kernel)), (by decide +kernel)⟩
theorem tb_71 : (Jvm.Cond.classLink "SoundWells" (27 : Nat) "SoundWells$Saw") ∈ TB := List.mem_filter.mpr ⟨List.mem_append_right _ (List.mem_of_getElem? (i := 71) (by decide +kernel)), (by decide +kernel)⟩
theorem tb_72 : (Jvm.Cond.instantiable "SoundWells$Saw" (14 : Nat)) ∈ TB := List.mem_filter.mpr ⟨List.mem_append_right _ (List.mem_of_getElem? (i := 72) (by decide +kernel)), (by decide +kernel)⟩
theorem tb_74 : (Jvm.Cond.instanceMethod ({ cls := "SoundWells$Saw", name := "<init>", desc := "()V" } : Jvm.MethodName)) ∈ TB := List.mem_filter.mpr ⟨List.mem_append_right _ (List.mem_of_getElem? (i := 74) (by decide +kernel)), (by decide +kernel)⟩
theorem tb_75 : (Jvm.Cond.code ({ cls := "SoundWells$Saw", name := "<init>", desc := "()V" } : Jvm.MethodName) prog_7_method_1_code (1 : Nat) (Option.none : Option Jvm.ClassFile.FieldType)) ∈ TB := List.mem_filter.mpr ⟨List.mem_append_right _ (List.mem_of_getElem? (i := 75) (by decide +kernel)), (by decide +kernel)⟩
theorem tb_76 : (Jvm.Cond.methodLink "SoundWells$Saw" (3 : Nat) ({ cls := "java/lang/Object", name := "<init>", desc := "()V" } : Jvm.MethodName)) ∈ TB := List.mem_filter.mpr ⟨List.mem_append_right _ (List.mem_of_getElem? (i := 76) (by decide +kernel)), (by decide +kernel)⟩
theorem tb_77 : (Jvm.Cond.fieldLink "SoundWells$Saw" (9 : Nat) "SoundWells$Saw" "depths" "[I") ∈ TB := List.mem_filter.mpr ⟨List.mem_append_right _ (List.mem_of_getElem? (i := 77) (by decide +kernel)), (by decide +kernel)⟩
theorem tb_78 : (Jvm.Cond.fieldLink "SoundWells$Saw" (15 : Nat) "SoundWells$Saw" "alike" "[I") ∈ TB := List.mem_filter.mpr ⟨List.mem_append_right _ (List.mem_of_getElem? (i := 78) (by decide +kernel)), (by decide +kernel)⟩
theorem tb_79 : (Jvm.Cond.fieldLink "SoundWells$Saw" (18 : Nat) "SoundWells$Saw" "boardOf" "[I") ∈ TB := List.mem_filter.mpr ⟨List.mem_append_right _ (List.mem_of_getElem? (i := 79) (by decide +kernel)), (by decide +kernel)⟩
theorem tb_80 : (Jvm.Cond.fieldLink "SoundWells$Saw" (21 : Nat) "SoundWells$Saw" "used" "[I") ∈ TB := List.mem_filter.mpr ⟨List.mem_append_right _ (List.mem_of_getElem? (i := 80) (by decide +kernel)), (by decide +kernel)⟩
theorem tb_81 : (Jvm.Cond.fieldLink "SoundWells$Saw" (24 : Nat) "SoundWells$Saw" "pieces" "[I") ∈ TB := List.mem_filter.mpr ⟨List.mem_append_right _ (List.mem_of_getElem? (i := 81) (by decide +kernel)), (by decide +kernel)⟩
theorem tb_82 : (Jvm.Cond.fieldLink "SoundWells" (202 : Nat) "SoundWells$Saw" "pieces" "[I") ∈ TB := List.mem_filter.mpr ⟨List.mem_append_right _ (List.mem_of_getElem? (i := 82) (by decide +kernel)), (by decide +kernel)⟩
theorem tb_83 : (Jvm.Cond.fieldLink "SoundWells$Saw" (27 : Nat) "SoundWells$Saw" "longest" "[I") ∈ TB := List.mem_filter.mpr ⟨List.mem_append_right _ (List.mem_of_getElem? (i := 83) (by decide +kernel)), (by decide +kernel)⟩
theorem tb_84 : (Jvm.Cond.fieldLink "SoundWells" (209 : Nat) "SoundWells$Saw" "longest" "[I") ∈ TB := List.mem_filter.mpr ⟨List.mem_append_right _ (List.mem_of_getElem? (i := 84) (by decide +kernel)), (by decide +kernel)⟩
theorem tb_85 : (Jvm.Cond.fieldLink "SoundWells$Saw" (77 : Nat) "SoundWells$Saw" "wells" "I") ∈ TB := List.mem_filter.mpr ⟨List.mem_append_right _ (List.mem_of_getElem? (i := 85) (by decide +kernel)), (by decide +kernel)⟩
theorem tb_86 : (Jvm.Cond.fieldLink "SoundWells$Saw" (58 : Nat) "SoundWells$Saw" "unit" "I") ∈ TB := List.mem_filter.mpr ⟨List.mem_append_right _ (List.mem_of_getElem? (i := 86) (by decide +kernel)), (by decide +kernel)⟩
theorem tb_87 : (Jvm.Cond.fieldLink "SoundWells$Saw" (61 : Nat) "SoundWells$Saw" "boardLength" "I") ∈ TB := List.mem_filter.mpr ⟨List.mem_append_right _ (List.mem_of_getElem? (i := 87) (by decide +kernel)), (by decide +kernel)⟩
theorem tb_88 : (Jvm.Cond.fieldLink "SoundWells$Saw" (76 : Nat) "SoundWells$Saw" "cutWidth" "I") ∈ TB := List.mem_filter.mpr ⟨List.mem_append_right _ (List.mem_of_getElem? (i := 88) (by decide +kernel)), (by decide +kernel)⟩
theorem tb_89 : (Jvm.Cond.fieldLink "SoundWells$Saw" (80 : Nat) "SoundWells$Saw" "boards" "I") ∈ TB := List.mem_filter.mpr ⟨List.mem_append_right _ (List.mem_of_getElem? (i := 89) (by decide +kernel)), (by decide +kernel)⟩
theorem tb_90 : (Jvm.Cond.fieldLink "SoundWells" (184 : Nat) "SoundWells$Saw" "boards" "I") ∈ TB := List.mem_filter.mpr ⟨List.mem_append_right _ (List.mem_of_getElem? (i := 90) (by decide +kernel)), (by decide +kernel)⟩
theorem tb_91 : (Jvm.Cond.fieldLink "SoundWells$Saw" (83 : Nat) "SoundWells$Saw" "blocks" "I") ∈ TB := List.mem_filter.mpr ⟨List.mem_append_right _ (List.mem_of_getElem? (i := 91) (by decide +kernel)), (by decide +kernel)⟩
theorem tb_92 : (Jvm.Cond.fieldLink "SoundWells" (187 : Nat) "SoundWells$Saw" "blocks" "I") ∈ TB := List.mem_filter.mpr ⟨List.mem_append_right _ (List.mem_of_getElem? (i := 92) (by decide +kernel)), (by decide +kernel)⟩
theorem tb_93 : (Jvm.Cond.fieldLink "SoundWells$Saw" (64 : Nat) "SoundWells$Saw" "lost" "I") ∈ TB := List.mem_filter.mpr ⟨List.mem_append_right _ (List.mem_of_getElem? (i := 93) (by decide +kernel)), (by decide +kernel)⟩
theorem tb_94 : (Jvm.Cond.fieldLink "SoundWells" (190 : Nat) "SoundWells$Saw" "lost" "I") ∈ TB := List.mem_filter.mpr ⟨List.mem_append_right _ (List.mem_of_getElem? (i := 94) (by decide +kernel)), (by decide +kernel)⟩
theorem tb_95 : (Jvm.Cond.fieldLink "SoundWells$Saw" (86 : Nat) "SoundWells$Saw" "lengths" "I") ∈ TB := List.mem_filter.mpr ⟨List.mem_append_right _ (List.mem_of_getElem? (i := 95) (by decide +kernel)), (by decide +kernel)⟩
theorem tb_96 : (Jvm.Cond.fieldLink "SoundWells" (193 : Nat) "SoundWells$Saw" "lengths" "I") ∈ TB := List.mem_filter.mpr ⟨List.mem_append_right _ (List.mem_of_getElem? (i := 96) (by decide +kernel)), (by decide +kernel)⟩
theorem tb_97 : (Jvm.Cond.laysFinal "SoundWells$Saw" "SoundWells$Saw" "depths" "[I") ∈ TB := List.mem_filter.mpr ⟨List.mem_append_right _ (List.mem_of_getElem? (i := 97) (by decide +kernel)), (by decide +kernel)⟩
theorem tb_98 : (Jvm.Cond.soleField "SoundWells$Saw" "depths") ∈ TB := List.mem_filter.mpr ⟨List.mem_append_right _ (List.mem_of_getElem? (i := 98) (by decide +kernel)), (by decide +kernel)⟩
theorem tb_99 : (Jvm.Cond.laysFinal "SoundWells$Saw" "SoundWells$Saw" "alike" "[I") ∈ TB := List.mem_filter.mpr ⟨List.mem_append_right _ (List.mem_of_getElem? (i := 99) (by decide +kernel)), (by decide +kernel)⟩
theorem tb_100 : (Jvm.Cond.soleField "SoundWells$Saw" "alike") ∈ TB := List.mem_filter.mpr ⟨List.mem_append_right _ (List.mem_of_getElem? (i := 100) (by decide +kernel)), (by decide +kernel)⟩
theorem tb_101 : (Jvm.Cond.laysFinal "SoundWells$Saw" "SoundWells$Saw" "boardOf" "[I") ∈ TB := List.mem_filter.mpr ⟨List.mem_append_right _ (List.mem_of_getElem? (i := 101) (by decide +kernel)), (by decide +kernel)⟩
theorem tb_102 : (Jvm.Cond.soleField "SoundWells$Saw" "boardOf") ∈ TB := List.mem_filter.mpr ⟨List.mem_append_right _ (List.mem_of_getElem? (i := 102) (by decide +kernel)), (by decide +kernel)⟩
theorem tb_103 : (Jvm.Cond.laysFinal "SoundWells$Saw" "SoundWells$Saw" "used" "[I") ∈ TB := List.mem_filter.mpr ⟨List.mem_append_right _ (List.mem_of_getElem? (i := 103) (by decide +kernel)), (by decide +kernel)⟩
theorem tb_104 : (Jvm.Cond.soleField "SoundWells$Saw" "used") ∈ TB := List.mem_filter.mpr ⟨List.mem_append_right _ (List.mem_of_getElem? (i := 104) (by decide +kernel)), (by decide +kernel)⟩
theorem tb_105 : (Jvm.Cond.laysFinal "SoundWells$Saw" "SoundWells$Saw" "pieces" "[I") ∈ TB := List.mem_filter.mpr ⟨List.mem_append_right _ (List.mem_of_getElem? (i := 105) (by decide +kernel)), (by decide +kernel)⟩
theorem tb_106 : (Jvm.Cond.soleField "SoundWells$Saw" "pieces") ∈ TB := List.mem_filter.mpr ⟨List.mem_append_right _ (List.mem_of_getElem? (i := 106) (by decide +kernel)), (by decide +kernel)⟩
theorem tb_107 : (Jvm.Cond.laysFinal "SoundWells$Saw" "SoundWells$Saw" "longest" "[I") ∈ TB := List.mem_filter.mpr ⟨List.mem_append_right _ (List.mem_of_getElem? (i := 107) (by decide +kernel)), (by decide +kernel)⟩
theorem tb_108 : (Jvm.Cond.soleField "SoundWells$Saw" "longest") ∈ TB := List.mem_filter.mpr ⟨List.mem_append_right _ (List.mem_of_getElem? (i := 108) (by decide +kernel)), (by decide +kernel)⟩
theorem tb_109 : (Jvm.Cond.lays "SoundWells$Saw" "SoundWells$Saw" "wells" "I") ∈ TB := List.mem_filter.mpr ⟨List.mem_append_right _ (List.mem_of_getElem? (i := 109) (by decide +kernel)), (by decide +kernel)⟩
theorem tb_110 : (Jvm.Cond.soleField "SoundWells$Saw" "wells") ∈ TB := List.mem_filter.mpr ⟨List.mem_append_right _ (List.mem_of_getElem? (i := 110) (by decide +kernel)), (by decide +kernel)⟩
theorem tb_111 : (Jvm.Cond.lays "SoundWells$Saw" "SoundWells$Saw" "unit" "I") ∈ TB := List.mem_filter.mpr ⟨List.mem_append_right _ (List.mem_of_getElem? (i := 111) (by decide +kernel)), (by decide +kernel)⟩
theorem tb_112 : (Jvm.Cond.soleField "SoundWells$Saw" "unit") ∈ TB := List.mem_filter.mpr ⟨List.mem_append_right _ (List.mem_of_getElem? (i := 112) (by decide +kernel)), (by decide +kernel)⟩
theorem tb_113 : (Jvm.Cond.lays "SoundWells$Saw" "SoundWells$Saw" "boardLength" "I") ∈ TB := List.mem_filter.mpr ⟨List.mem_append_right _ (List.mem_of_getElem? (i := 113) (by decide +kernel)), (by decide +kernel)⟩
theorem tb_114 : (Jvm.Cond.soleField "SoundWells$Saw" "boardLength") ∈ TB := List.mem_filter.mpr ⟨List.mem_append_right _ (List.mem_of_getElem? (i := 114) (by decide +kernel)), (by decide +kernel)⟩
theorem tb_115 : (Jvm.Cond.lays "SoundWells$Saw" "SoundWells$Saw" "cutWidth" "I") ∈ TB := List.mem_filter.mpr ⟨List.mem_append_right _ (List.mem_of_getElem? (i := 115) (by decide +kernel)), (by decide +kernel)⟩
theorem tb_116 : (Jvm.Cond.soleField "SoundWells$Saw" "cutWidth") ∈ TB := List.mem_filter.mpr ⟨List.mem_append_right _ (List.mem_of_getElem? (i := 116) (by decide +kernel)), (by decide +kernel)⟩
theorem tb_117 : (Jvm.Cond.lays "SoundWells$Saw" "SoundWells$Saw" "boards" "I") ∈ TB := List.mem_filter.mpr ⟨List.mem_append_right _ (List.mem_of_getElem? (i := 117) (by decide +kernel)), (by decide +kernel)⟩
theorem tb_118 : (Jvm.Cond.soleField "SoundWells$Saw" "boards") ∈ TB := List.mem_filter.mpr ⟨List.mem_append_right _ (List.mem_of_getElem? (i := 118) (by decide +kernel)), (by decide +kernel)⟩
theorem tb_119 : (Jvm.Cond.lays "SoundWells$Saw" "SoundWells$Saw" "blocks" "I") ∈ TB := List.mem_filter.mpr ⟨List.mem_append_right _ (List.mem_of_getElem? (i := 119) (by decide +kernel)), (by decide +kernel)⟩
theorem tb_120 : (Jvm.Cond.soleField "SoundWells$Saw" "blocks") ∈ TB := List.mem_filter.mpr ⟨List.mem_append_right _ (List.mem_of_getElem? (i := 120) (by decide +kernel)), (by decide +kernel)⟩
theorem tb_121 : (Jvm.Cond.lays "SoundWells$Saw" "SoundWells$Saw" "lost" "I") ∈ TB := List.mem_filter.mpr ⟨List.mem_append_right _ (List.mem_of_getElem? (i := 121) (by decide +kernel)), (by decide +kernel)⟩
theorem tb_122 : (Jvm.Cond.soleField "SoundWells$Saw" "lost") ∈ TB := List.mem_filter.mpr ⟨List.mem_append_right _ (List.mem_of_getElem? (i := 122) (by decide +kernel)), (by decide +kernel)⟩
theorem tb_123 : (Jvm.Cond.lays "SoundWells$Saw" "SoundWells$Saw" "lengths" "I") ∈ TB := List.mem_filter.mpr ⟨List.mem_append_right _ (List.mem_of_getElem? (i := 123) (by decide +kernel)), (by decide +kernel)⟩
theorem tb_124 : (Jvm.Cond.soleField "SoundWells$Saw" "lengths") ∈ TB := List.mem_filter.mpr ⟨List.mem_append_right _ (List.mem_of_getElem? (i := 124) (by decide +kernel)), (by decide +kernel)⟩
theorem tb_125 : (Jvm.Cond.superclass "SoundWells$Saw" "java/lang/Object") ∈ TB := List.mem_filter.mpr ⟨List.mem_append_right _ (List.mem_of_getElem? (i := 125) (by decide +kernel)), (by decide +kernel)⟩
theorem tb_126 : (Jvm.Cond.classLink "SoundWells" (34 : Nat) "SoundWells$Panel") ∈ TB := List.mem_filter.mpr ⟨List.mem_append_right _ (List.mem_of_getElem? (i := 126) (by decide +kernel)), (by decide +kernel)⟩
theorem tb_127 : (Jvm.Cond.instantiable "SoundWells$Panel" (7 : Nat)) ∈ TB := List.mem_filter.mpr ⟨List.mem_append_right _ (List.mem_of_getElem? (i := 127) (by decide +kernel)), (by decide +kernel)⟩
theorem tb_128 : (Jvm.Cond.methodLink "SoundWells" (36 : Nat) ({ cls := "SoundWells$Panel", name := "<init>", desc := "(IIIII)V" } : Jvm.MethodName)) ∈ TB := List.mem_filter.mpr ⟨List.mem_append_right _ (List.mem_of_getElem? (i := 128) (by decide +kernel)), (by decide +kernel)⟩
theorem tb_129 : (Jvm.Cond.instanceMethod ({ cls := "SoundWells$Panel", name := "<init>", desc := "(IIIII)V" } : Jvm.MethodName)) ∈ TB := List.mem_filter.mpr ⟨List.mem_append_right _ (List.mem_of_getElem? (i := 129) (by decide +kernel)), (by decide +kernel)⟩
theorem tb_130 : (Jvm.Cond.code ({ cls := "SoundWells$Panel", name := "<init>", desc := "(IIIII)V" } : Jvm.MethodName) prog_3_method_1_code (6 : Nat) (Option.none : Option Jvm.ClassFile.FieldType)) ∈ TB := List.mem_filter.mpr ⟨List.mem_append_right _ (List.mem_of_getElem? (i := 130) (by decide +kernel)), (by decide +kernel)⟩
theorem tb_131 : (Jvm.Cond.methodLink "SoundWells$Panel" (3 : Nat) ({ cls := "java/lang/Object", name := "<init>", desc := "()V" } : Jvm.MethodName)) ∈ TB := List.mem_filter.mpr ⟨List.mem_append_right _ (List.mem_of_getElem? (i := 131) (by decide +kernel)), (by decide +kernel)⟩
theorem tb_132 : (Jvm.Cond.methodLink "SoundWells$Panel" (30 : Nat) ({ cls := "SoundWells$Panel", name := "rowOf", desc := "(III)[I" } : Jvm.MethodName)) ∈ TB := List.mem_filter.mpr ⟨List.mem_append_right _ (List.mem_of_getElem? (i := 132) (by decide +kernel)), (by decide +kernel)⟩
theorem tb_133 : (Jvm.Cond.static ({ cls := "SoundWells$Panel", name := "rowOf", desc := "(III)[I" } : Jvm.MethodName)) ∈ TB := List.mem_filter.mpr ⟨List.mem_append_right _ (List.mem_of_getElem? (i := 133) (by decide +kernel)), (by decide +kernel)⟩
theorem tb_134 : (Jvm.Cond.code ({ cls := "SoundWells$Panel", name := "rowOf", desc := "(III)[I" } : Jvm.MethodName) prog_3_method_2_code (7 : Nat) (Option.some (Jvm.ClassFile.FieldType.array Jvm.ClassFile.FieldType.int))) ∈ TB := List.mem_filter.mpr ⟨List.mem_append_right _ (List.mem_of_getElem? (i := 134) (by decide +kernel)), (by decide +kernel)⟩
theorem tb_135 : (Jvm.Cond.methodLink "SoundWells$Panel" (38 : Nat) ({ cls := "SoundWells$Numbers", name := "squareBits", desc := "(I)I" } : Jvm.MethodName)) ∈ TB := List.mem_filter.mpr ⟨List.mem_append_right _ (List.mem_of_getElem? (i := 135) (by decide +kernel)), (by decide +kernel)⟩
theorem tb_136 : (Jvm.Cond.static ({ cls := "SoundWells$Numbers", name := "squareBits", desc := "(I)I" } : Jvm.MethodName)) ∈ TB := List.mem_filter.mpr ⟨List.mem_append_right _ (List.mem_of_getElem? (i := 136) (by decide +kernel)), (by decide +kernel)⟩
theorem tb_137 : (Jvm.Cond.code ({ cls := "SoundWells$Numbers", name := "squareBits", desc := "(I)I" } : Jvm.MethodName) prog_2_method_5_code (3 : Nat) (Option.some Jvm.ClassFile.FieldType.int)) ∈ TB := List.mem_filter.mpr ⟨List.mem_append_right _ (List.mem_of_getElem? (i := 137) (by decide +kernel)), (by decide +kernel)⟩
theorem tb_138 : (Jvm.Cond.methodLink "SoundWells$Panel" (44 : Nat) ({ cls := "SoundWells$Numbers", name := "rest", desc := "(II)I" } : Jvm.MethodName)) ∈ TB := List.mem_filter.mpr ⟨List.mem_append_right _ (List.mem_of_getElem? (i := 138) (by decide +kernel)), (by decide +kernel)⟩
theorem tb_139 : (Jvm.Cond.static ({ cls := "SoundWells$Numbers", name := "rest", desc := "(II)I" } : Jvm.MethodName)) ∈ TB := List.mem_filter.mpr ⟨List.mem_append_right _ (List.mem_of_getElem? (i := 139) (by decide +kernel)), (by decide +kernel)⟩
theorem tb_140 : (Jvm.Cond.code ({ cls := "SoundWells$Numbers", name := "rest", desc := "(II)I" } : Jvm.MethodName) prog_2_method_3_code (3 : Nat) (Option.some Jvm.ClassFile.FieldType.int)) ∈ TB := List.mem_filter.mpr ⟨List.mem_append_right _ (List.mem_of_getElem? (i := 140) (by decide +kernel)), (by decide +kernel)⟩
theorem tb_141 : (Jvm.Cond.fieldLink "SoundWells$Panel" (9 : Nat) "SoundWells$Panel" "kind" "I") ∈ TB := List.mem_filter.mpr ⟨List.mem_append_right _ (List.mem_of_getElem? (i := 141) (by decide +kernel)), (by decide +kernel)⟩
theorem tb_142 : (Jvm.Cond.fieldLink "SoundWells" (128 : Nat) "SoundWells$Panel" "kind" "I") ∈ TB := List.mem_filter.mpr ⟨List.mem_append_right _ (List.mem_of_getElem? (i := 142) (by decide +kernel)), (by decide +kernel)⟩
theorem tb_143 : (Jvm.Cond.fieldLink "SoundWells$Panel" (15 : Nat) "SoundWells$Panel" "prime" "I") ∈ TB := List.mem_filter.mpr ⟨List.mem_append_right _ (List.mem_of_getElem? (i := 143) (by decide +kernel)), (by decide +kernel)⟩
theorem tb_144 : (Jvm.Cond.fieldLink "SoundWells" (131 : Nat) "SoundWells$Panel" "prime" "I") ∈ TB := List.mem_filter.mpr ⟨List.mem_append_right _ (List.mem_of_getElem? (i := 144) (by decide +kernel)), (by decide +kernel)⟩
theorem tb_145 : (Jvm.Cond.fieldLink "SoundWells$Panel" (18 : Nat) "SoundWells$Panel" "factor" "I") ∈ TB := List.mem_filter.mpr ⟨List.mem_append_right _ (List.mem_of_getElem? (i := 145) (by decide +kernel)), (by decide +kernel)⟩
theorem tb_146 : (Jvm.Cond.fieldLink "SoundWells" (134 : Nat) "SoundWells$Panel" "factor" "I") ∈ TB := List.mem_filter.mpr ⟨List.mem_append_right _ (List.mem_of_getElem? (i := 146) (by decide +kernel)), (by decide +kernel)⟩
theorem tb_147 : (Jvm.Cond.fieldLink "SoundWells$Panel" (21 : Nat) "SoundWells$Panel" "offset" "I") ∈ TB := List.mem_filter.mpr ⟨List.mem_append_right _ (List.mem_of_getElem? (i := 147) (by decide +kernel)), (by decide +kernel)⟩
theorem tb_148 : (Jvm.Cond.fieldLink "SoundWells$Saw" (48 : Nat) "SoundWells$Panel" "offset" "I") ∈ TB := List.mem_filter.mpr ⟨List.mem_append_right _ (List.mem_of_getElem? (i := 148) (by decide +kernel)), (by decide +kernel)⟩
theorem tb_149 : (Jvm.Cond.fieldLink "SoundWells" (137 : Nat) "SoundWells$Panel" "offset" "I") ∈ TB := List.mem_filter.mpr ⟨List.mem_append_right _ (List.mem_of_getElem? (i := 149) (by decide +kernel)), (by decide +kernel)⟩
theorem tb_150 : (Jvm.Cond.fieldLink "SoundWells$Panel" (24 : Nat) "SoundWells$Panel" "wells" "I") ∈ TB := List.mem_filter.mpr ⟨List.mem_append_right _ (List.mem_of_getElem? (i := 150) (by decide +kernel)), (by decide +kernel)⟩
theorem tb_151 : (Jvm.Cond.fieldLink "SoundWells$Plan" (23 : Nat) "SoundWells$Panel" "wells" "I") ∈ TB := List.mem_filter.mpr ⟨List.mem_append_right _ (List.mem_of_getElem? (i := 151) (by decide +kernel)), (by decide +kernel)⟩
theorem tb_152 : (Jvm.Cond.fieldLink "SoundWells$Saw" (95 : Nat) "SoundWells$Panel" "wells" "I") ∈ TB := List.mem_filter.mpr ⟨List.mem_append_right _ (List.mem_of_getElem? (i := 152) (by decide +kernel)), (by decide +kernel)⟩
theorem tb_153 : (Jvm.Cond.fieldLink "SoundWells" (140 : Nat) "SoundWells$Panel" "wells" "I") ∈ TB := List.mem_filter.mpr ⟨List.mem_append_right _ (List.mem_of_getElem? (i := 153) (by decide +kernel)), (by decide +kernel)⟩
theorem tb_154 : (Jvm.Cond.fieldLink "SoundWells$Panel" (27 : Nat) "SoundWells$Panel" "period" "I") ∈ TB := List.mem_filter.mpr ⟨List.mem_append_right _ (List.mem_of_getElem? (i := 154) (by decide +kernel)), (by decide +kernel)⟩
theorem tb_155 : (Jvm.Cond.fieldLink "SoundWells" (143 : Nat) "SoundWells$Panel" "period" "I") ∈ TB := List.mem_filter.mpr ⟨List.mem_append_right _ (List.mem_of_getElem? (i := 155) (by decide +kernel)), (by decide +kernel)⟩
theorem tb_156 : (Jvm.Cond.fieldLink "SoundWells$Panel" (34 : Nat) "SoundWells$Panel" "row" "[I") ∈ TB := List.mem_filter.mpr ⟨List.mem_append_right _ (List.mem_of_getElem? (i := 156) (by decide +kernel)), (by decide +kernel)⟩
theorem tb_157 : (Jvm.Cond.laysFinal "SoundWells$Panel" "SoundWells$Panel" "kind" "I") ∈ TB := List.mem_filter.mpr ⟨List.mem_append_right _ (List.mem_of_getElem? (i := 157) (by decide +kernel)), (by decide +kernel)⟩
theorem tb_158 : (Jvm.Cond.soleField "SoundWells$Panel" "kind") ∈ TB := List.mem_filter.mpr ⟨List.mem_append_right _ (List.mem_of_getElem? (i := 158) (by decide +kernel)), (by decide +kernel)⟩
theorem tb_159 : (Jvm.Cond.laysFinal "SoundWells$Panel" "SoundWells$Panel" "prime" "I") ∈ TB := List.mem_filter.mpr ⟨List.mem_append_right _ (List.mem_of_getElem? (i := 159) (by decide +kernel)), (by decide +kernel)⟩
theorem tb_160 : (Jvm.Cond.soleField "SoundWells$Panel" "prime") ∈ TB := List.mem_filter.mpr ⟨List.mem_append_right _ (List.mem_of_getElem? (i := 160) (by decide +kernel)), (by decide +kernel)⟩
theorem tb_161 : (Jvm.Cond.laysFinal "SoundWells$Panel" "SoundWells$Panel" "factor" "I") ∈ TB := List.mem_filter.mpr ⟨List.mem_append_right _ (List.mem_of_getElem? (i := 161) (by decide +kernel)), (by decide +kernel)⟩
theorem tb_162 : (Jvm.Cond.soleField "SoundWells$Panel" "factor") ∈ TB := List.mem_filter.mpr ⟨List.mem_append_right _ (List.mem_of_getElem? (i := 162) (by decide +kernel)), (by decide +kernel)⟩
theorem tb_163 : (Jvm.Cond.laysFinal "SoundWells$Panel" "SoundWells$Panel" "offset" "I") ∈ TB := List.mem_filter.mpr ⟨List.mem_append_right _ (List.mem_of_getElem? (i := 163) (by decide +kernel)), (by decide +kernel)⟩
theorem tb_164 : (Jvm.Cond.soleField "SoundWells$Panel" "offset") ∈ TB := List.mem_filter.mpr ⟨List.mem_append_right _ (List.mem_of_getElem? (i := 164) (by decide +kernel)), (by decide +kernel)⟩
theorem tb_165 : (Jvm.Cond.laysFinal "SoundWells$Panel" "SoundWells$Panel" "wells" "I") ∈ TB := List.mem_filter.mpr ⟨List.mem_append_right _ (List.mem_of_getElem? (i := 165) (by decide +kernel)), (by decide +kernel)⟩
theorem tb_166 : (Jvm.Cond.soleField "SoundWells$Panel" "wells") ∈ TB := List.mem_filter.mpr ⟨List.mem_append_right _ (List.mem_of_getElem? (i := 166) (by decide +kernel)), (by decide +kernel)⟩
theorem tb_167 : (Jvm.Cond.laysFinal "SoundWells$Panel" "SoundWells$Panel" "period" "I") ∈ TB := List.mem_filter.mpr ⟨List.mem_append_right _ (List.mem_of_getElem? (i := 167) (by decide +kernel)), (by decide +kernel)⟩
theorem tb_168 : (Jvm.Cond.soleField "SoundWells$Panel" "period") ∈ TB := List.mem_filter.mpr ⟨List.mem_append_right _ (List.mem_of_getElem? (i := 168) (by decide +kernel)), (by decide +kernel)⟩
theorem tb_169 : (Jvm.Cond.laysFinal "SoundWells$Panel" "SoundWells$Panel" "row" "[I") ∈ TB := List.mem_filter.mpr ⟨List.mem_append_right _ (List.mem_of_getElem? (i := 169) (by decide +kernel)), (by decide +kernel)⟩
theorem tb_170 : (Jvm.Cond.soleField "SoundWells$Panel" "row") ∈ TB := List.mem_filter.mpr ⟨List.mem_append_right _ (List.mem_of_getElem? (i := 170) (by decide +kernel)), (by decide +kernel)⟩
theorem tb_171 : (Jvm.Cond.superclass "SoundWells$Panel" "java/lang/Object") ∈ TB := List.mem_filter.mpr ⟨List.mem_append_right _ (List.mem_of_getElem? (i := 171) (by decide +kernel)), (by decide +kernel)⟩
theorem tb_172 : (Jvm.Cond.classLink "SoundWells" (39 : Nat) "SoundWells$Plan") ∈ TB := List.mem_filter.mpr ⟨List.mem_append_right _ (List.mem_of_getElem? (i := 172) (by decide +kernel)), (by decide +kernel)⟩
theorem tb_173 : (Jvm.Cond.instantiable "SoundWells$Plan" (4 : Nat)) ∈ TB := List.mem_filter.mpr ⟨List.mem_append_right _ (List.mem_of_getElem? (i := 173) (by decide +kernel)), (by decide +kernel)⟩
theorem tb_174 : (Jvm.Cond.methodLink "SoundWells" (41 : Nat) ({ cls := "SoundWells$Plan", name := "<init>", desc := "([LSoundWells$Panel;III)V" } : Jvm.MethodName)) ∈ TB := List.mem_filter.mpr ⟨List.mem_append_right _ (List.mem_of_getElem? (i := 174) (by decide +kernel)), (by decide +kernel)⟩
theorem tb_175 : (Jvm.Cond.instanceMethod ({ cls := "SoundWells$Plan", name := "<init>", desc := "([LSoundWells$Panel;III)V" } : Jvm.MethodName)) ∈ TB := List.mem_filter.mpr ⟨List.mem_append_right _ (List.mem_of_getElem? (i := 175) (by decide +kernel)), (by decide +kernel)⟩
theorem tb_176 : (Jvm.Cond.code ({ cls := "SoundWells$Plan", name := "<init>", desc := "([LSoundWells$Panel;III)V" } : Jvm.MethodName) prog_5_method_1_code (5 : Nat) (Option.none : Option Jvm.ClassFile.FieldType)) ∈ TB := List.mem_filter.mpr ⟨List.mem_append_right _ (List.mem_of_getElem? (i := 176) (by decide +kernel)), (by decide +kernel)⟩
theorem tb_177 : (Jvm.Cond.methodLink "SoundWells$Plan" (1 : Nat) ({ cls := "java/lang/Object", name := "<init>", desc := "()V" } : Jvm.MethodName)) ∈ TB := List.mem_filter.mpr ⟨List.mem_append_right _ (List.mem_of_getElem? (i := 177) (by decide +kernel)), (by decide +kernel)⟩
theorem tb_178 : (Jvm.Cond.fieldLink "SoundWells$Plan" (7 : Nat) "SoundWells$Plan" "panels" "[LSoundWells$Panel;") ∈ TB := List.mem_filter.mpr ⟨List.mem_append_right _ (List.mem_of_getElem? (i := 178) (by decide +kernel)), (by decide +kernel)⟩
theorem tb_179 : (Jvm.Cond.fieldLink "SoundWells$Saw" (38 : Nat) "SoundWells$Plan" "panels" "[LSoundWells$Panel;") ∈ TB := List.mem_filter.mpr ⟨List.mem_append_right _ (List.mem_of_getElem? (i := 179) (by decide +kernel)), (by decide +kernel)⟩
theorem tb_180 : (Jvm.Cond.fieldLink "SoundWells" (63 : Nat) "SoundWells$Plan" "panels" "[LSoundWells$Panel;") ∈ TB := List.mem_filter.mpr ⟨List.mem_append_right _ (List.mem_of_getElem? (i := 180) (by decide +kernel)), (by decide +kernel)⟩
theorem tb_181 : (Jvm.Cond.fieldLink "SoundWells$Plan" (13 : Nat) "SoundWells$Plan" "unit" "I") ∈ TB := List.mem_filter.mpr ⟨List.mem_append_right _ (List.mem_of_getElem? (i := 181) (by decide +kernel)), (by decide +kernel)⟩
theorem tb_182 : (Jvm.Cond.fieldLink "SoundWells$Saw" (71 : Nat) "SoundWells$Plan" "unit" "I") ∈ TB := List.mem_filter.mpr ⟨List.mem_append_right _ (List.mem_of_getElem? (i := 182) (by decide +kernel)), (by decide +kernel)⟩
theorem tb_183 : (Jvm.Cond.fieldLink "SoundWells" (229 : Nat) "SoundWells$Plan" "unit" "I") ∈ TB := List.mem_filter.mpr ⟨List.mem_append_right _ (List.mem_of_getElem? (i := 183) (by decide +kernel)), (by decide +kernel)⟩
theorem tb_184 : (Jvm.Cond.fieldLink "SoundWells$Plan" (17 : Nat) "SoundWells$Plan" "boardLength" "I") ∈ TB := List.mem_filter.mpr ⟨List.mem_append_right _ (List.mem_of_getElem? (i := 184) (by decide +kernel)), (by decide +kernel)⟩
theorem tb_185 : (Jvm.Cond.fieldLink "SoundWells$Saw" (72 : Nat) "SoundWells$Plan" "boardLength" "I") ∈ TB := List.mem_filter.mpr ⟨List.mem_append_right _ (List.mem_of_getElem? (i := 185) (by decide +kernel)), (by decide +kernel)⟩
theorem tb_186 : (Jvm.Cond.fieldLink "SoundWells" (196 : Nat) "SoundWells$Plan" "boardLength" "I") ∈ TB := List.mem_filter.mpr ⟨List.mem_append_right _ (List.mem_of_getElem? (i := 186) (by decide +kernel)), (by decide +kernel)⟩
theorem tb_187 : (Jvm.Cond.fieldLink "SoundWells$Plan" (20 : Nat) "SoundWells$Plan" "cutWidth" "I") ∈ TB := List.mem_filter.mpr ⟨List.mem_append_right _ (List.mem_of_getElem? (i := 187) (by decide +kernel)), (by decide +kernel)⟩
theorem tb_188 : (Jvm.Cond.fieldLink "SoundWells$Saw" (73 : Nat) "SoundWells$Plan" "cutWidth" "I") ∈ TB := List.mem_filter.mpr ⟨List.mem_append_right _ (List.mem_of_getElem? (i := 188) (by decide +kernel)), (by decide +kernel)⟩
theorem tb_189 : (Jvm.Cond.fieldLink "SoundWells" (232 : Nat) "SoundWells$Plan" "cutWidth" "I") ∈ TB := List.mem_filter.mpr ⟨List.mem_append_right _ (List.mem_of_getElem? (i := 189) (by decide +kernel)), (by decide +kernel)⟩
theorem tb_190 : (Jvm.Cond.laysFinal "SoundWells$Plan" "SoundWells$Plan" "panels" "[LSoundWells$Panel;") ∈ TB := List.mem_filter.mpr ⟨List.mem_append_right _ (List.mem_of_getElem? (i := 190) (by decide +kernel)), (by decide +kernel)⟩
theorem tb_191 : (Jvm.Cond.soleField "SoundWells$Plan" "panels") ∈ TB := List.mem_filter.mpr ⟨List.mem_append_right _ (List.mem_of_getElem? (i := 191) (by decide +kernel)), (by decide +kernel)⟩
theorem tb_192 : (Jvm.Cond.laysFinal "SoundWells$Plan" "SoundWells$Plan" "unit" "I") ∈ TB := List.mem_filter.mpr ⟨List.mem_append_right _ (List.mem_of_getElem? (i := 192) (by decide +kernel)), (by decide +kernel)⟩
theorem tb_193 : (Jvm.Cond.soleField "SoundWells$Plan" "unit") ∈ TB := List.mem_filter.mpr ⟨List.mem_append_right _ (List.mem_of_getElem? (i := 193) (by decide +kernel)), (by decide +kernel)⟩
theorem tb_194 : (Jvm.Cond.laysFinal "SoundWells$Plan" "SoundWells$Plan" "boardLength" "I") ∈ TB := List.mem_filter.mpr ⟨List.mem_append_right _ (List.mem_of_getElem? (i := 194) (by decide +kernel)), (by decide +kernel)⟩
theorem tb_195 : (Jvm.Cond.soleField "SoundWells$Plan" "boardLength") ∈ TB := List.mem_filter.mpr ⟨List.mem_append_right _ (List.mem_of_getElem? (i := 195) (by decide +kernel)), (by decide +kernel)⟩
theorem tb_196 : (Jvm.Cond.laysFinal "SoundWells$Plan" "SoundWells$Plan" "cutWidth" "I") ∈ TB := List.mem_filter.mpr ⟨List.mem_append_right _ (List.mem_of_getElem? (i := 196) (by decide +kernel)), (by decide +kernel)⟩
theorem tb_197 : (Jvm.Cond.soleField "SoundWells$Plan" "cutWidth") ∈ TB := List.mem_filter.mpr ⟨List.mem_append_right _ (List.mem_of_getElem? (i := 197) (by decide +kernel)), (by decide +kernel)⟩
theorem tb_198 : (Jvm.Cond.superclass "SoundWells$Plan" "java/lang/Object") ∈ TB := List.mem_filter.mpr ⟨List.mem_append_right _ (List.mem_of_getElem? (i := 198) (by decide +kernel)), (by decide +kernel)⟩
theorem tb_199 : (Jvm.Cond.fieldLink "SoundWells" (9 : Nat) "SoundWells" "text" "[C") ∈ TB := List.mem_filter.mpr ⟨List.mem_append_right _ (List.mem_of_getElem? (i := 199) (by decide +kernel)), (by decide +kernel)⟩
theorem tb_200 : (Jvm.Cond.fieldLink "SoundWells" (16 : Nat) "SoundWells" "reader" "LSoundWells$Reader;") ∈ TB := List.mem_filter.mpr ⟨List.mem_append_right _ (List.mem_of_getElem? (i := 200) (by decide +kernel)), (by decide +kernel)⟩
theorem tb_201 : (Jvm.Cond.fieldLink "SoundWells" (23 : Nat) "SoundWells" "past" "LSoundWells$Past;") ∈ TB := List.mem_filter.mpr ⟨List.mem_append_right _ (List.mem_of_getElem? (i := 201) (by decide +kernel)), (by decide +kernel)⟩
theorem tb_202 : (Jvm.Cond.fieldLink "SoundWells" (30 : Nat) "SoundWells" "saw" "LSoundWells$Saw;") ∈ TB := List.mem_filter.mpr ⟨List.mem_append_right _ (List.mem_of_getElem? (i := 202) (by decide +kernel)), (by decide +kernel)⟩
theorem tb_203 : (Jvm.Cond.fieldLink "SoundWells" (48 : Nat) "SoundWells" "letters" "I") ∈ TB := List.mem_filter.mpr ⟨List.mem_append_right _ (List.mem_of_getElem? (i := 203) (by decide +kernel)), (by decide +kernel)⟩
theorem tb_204 : (Jvm.Cond.fieldLink "SoundWells" (44 : Nat) "SoundWells" "plan" "LSoundWells$Plan;") ∈ TB := List.mem_filter.mpr ⟨List.mem_append_right _ (List.mem_of_getElem? (i := 204) (by decide +kernel)), (by decide +kernel)⟩
theorem tb_205 : (Jvm.Cond.laysFinal "SoundWells" "SoundWells" "text" "[C") ∈ TB := List.mem_filter.mpr ⟨List.mem_append_right _ (List.mem_of_getElem? (i := 205) (by decide +kernel)), (by decide +kernel)⟩
theorem tb_206 : (Jvm.Cond.soleField "SoundWells" "text") ∈ TB := List.mem_filter.mpr ⟨List.mem_append_right _ (List.mem_of_getElem? (i := 206) (by decide +kernel)), (by decide +kernel)⟩
theorem tb_207 : (Jvm.Cond.laysFinal "SoundWells" "SoundWells" "reader" "LSoundWells$Reader;") ∈ TB := List.mem_filter.mpr ⟨List.mem_append_right _ (List.mem_of_getElem? (i := 207) (by decide +kernel)), (by decide +kernel)⟩
theorem tb_208 : (Jvm.Cond.soleField "SoundWells" "reader") ∈ TB := List.mem_filter.mpr ⟨List.mem_append_right _ (List.mem_of_getElem? (i := 208) (by decide +kernel)), (by decide +kernel)⟩
theorem tb_209 : (Jvm.Cond.laysFinal "SoundWells" "SoundWells" "past" "LSoundWells$Past;") ∈ TB := List.mem_filter.mpr ⟨List.mem_append_right _ (List.mem_of_getElem? (i := 209) (by decide +kernel)), (by decide +kernel)⟩
theorem tb_210 : (Jvm.Cond.soleField "SoundWells" "past") ∈ TB := List.mem_filter.mpr ⟨List.mem_append_right _ (List.mem_of_getElem? (i := 210) (by decide +kernel)), (by decide +kernel)⟩
theorem tb_211 : (Jvm.Cond.laysFinal "SoundWells" "SoundWells" "saw" "LSoundWells$Saw;") ∈ TB := List.mem_filter.mpr ⟨List.mem_append_right _ (List.mem_of_getElem? (i := 211) (by decide +kernel)), (by decide +kernel)⟩
theorem tb_212 : (Jvm.Cond.soleField "SoundWells" "saw") ∈ TB := List.mem_filter.mpr ⟨List.mem_append_right _ (List.mem_of_getElem? (i := 212) (by decide +kernel)), (by decide +kernel)⟩
theorem tb_213 : (Jvm.Cond.lays "SoundWells" "SoundWells" "letters" "I") ∈ TB := List.mem_filter.mpr ⟨List.mem_append_right _ (List.mem_of_getElem? (i := 213) (by decide +kernel)), (by decide +kernel)⟩
theorem tb_214 : (Jvm.Cond.soleField "SoundWells" "letters") ∈ TB := List.mem_filter.mpr ⟨List.mem_append_right _ (List.mem_of_getElem? (i := 214) (by decide +kernel)), (by decide +kernel)⟩
theorem tb_215 : (Jvm.Cond.lays "SoundWells" "SoundWells" "plan" "LSoundWells$Plan;") ∈ TB := List.mem_filter.mpr ⟨List.mem_append_right _ (List.mem_of_getElem? (i := 215) (by decide +kernel)), (by decide +kernel)⟩
theorem tb_216 : (Jvm.Cond.soleField "SoundWells" "plan") ∈ TB := List.mem_filter.mpr ⟨List.mem_append_right _ (List.mem_of_getElem? (i := 216) (by decide +kernel)), (by decide +kernel)⟩
theorem tb_217 : (Jvm.Cond.superclass "SoundWells" "java/lang/Object") ∈ TB := List.mem_filter.mpr ⟨List.mem_append_right _ (List.mem_of_getElem? (i := 217) (by decide +kernel)), (by decide +kernel)⟩
theorem tb_218 : (Jvm.Cond.methodLink "SoundWellsLaw" (13 : Nat) ({ cls := "SoundWells", name := "write", desc := "(I)I" } : Jvm.MethodName)) ∈ TB := List.mem_filter.mpr ⟨List.mem_append_right _ (List.mem_of_getElem? (i := 218) (by decide +kernel)), (by decide +kernel)⟩
theorem tb_219 : (Jvm.Cond.instanceMethod ({ cls := "SoundWells", name := "write", desc := "(I)I" } : Jvm.MethodName)) ∈ TB := List.mem_filter.mpr ⟨List.mem_append_right _ (List.mem_of_getElem? (i := 219) (by decide +kernel)), (by decide +kernel)⟩
theorem tb_220 : (Jvm.Cond.selects "SoundWells" ({ cls := "SoundWells", name := "write", desc := "(I)I" } : Jvm.MethodName) ({ cls := "SoundWells", name := "write", desc := "(I)I" } : Jvm.MethodName)) ∈ TB := List.mem_filter.mpr ⟨List.mem_append_right _ (List.mem_of_getElem? (i := 220) (by decide +kernel)), (by decide +kernel)⟩
theorem tb_221 : (Jvm.Cond.code ({ cls := "SoundWells", name := "write", desc := "(I)I" } : Jvm.MethodName) prog_1_method_2_code (2 : Nat) (Option.some Jvm.ClassFile.FieldType.int)) ∈ TB := List.mem_filter.mpr ⟨List.mem_append_right _ (List.mem_of_getElem? (i := 221) (by decide +kernel)), (by decide +kernel)⟩
theorem tb_222 : (Jvm.Cond.methodLink "SoundWellsLaw" (18 : Nat) ({ cls := "SoundWells", name := "wipe", desc := "()I" } : Jvm.MethodName)) ∈ TB := List.mem_filter.mpr ⟨List.mem_append_right _ (List.mem_of_getElem? (i := 222) (by decide +kernel)), (by decide +kernel)⟩
theorem tb_223 : (Jvm.Cond.instanceMethod ({ cls := "SoundWells", name := "wipe", desc := "()I" } : Jvm.MethodName)) ∈ TB := List.mem_filter.mpr ⟨List.mem_append_right _ (List.mem_of_getElem? (i := 223) (by decide +kernel)), (by decide +kernel)⟩
theorem tb_224 : (Jvm.Cond.selects "SoundWells" ({ cls := "SoundWells", name := "wipe", desc := "()I" } : Jvm.MethodName) ({ cls := "SoundWells", name := "wipe", desc := "()I" } : Jvm.MethodName)) ∈ TB := List.mem_filter.mpr ⟨List.mem_append_right _ (List.mem_of_getElem? (i := 224) (by decide +kernel)), (by decide +kernel)⟩
theorem tb_225 : (Jvm.Cond.code ({ cls := "SoundWells", name := "wipe", desc := "()I" } : Jvm.MethodName) prog_1_method_3_code (2 : Nat) (Option.some Jvm.ClassFile.FieldType.int)) ∈ TB := List.mem_filter.mpr ⟨List.mem_append_right _ (List.mem_of_getElem? (i := 225) (by decide +kernel)), (by decide +kernel)⟩
theorem tb_226 : (Jvm.Cond.methodLink "SoundWellsLaw" (23 : Nat) ({ cls := "SoundWells", name := "fault", desc := "()I" } : Jvm.MethodName)) ∈ TB := List.mem_filter.mpr ⟨List.mem_append_right _ (List.mem_of_getElem? (i := 226) (by decide +kernel)), (by decide +kernel)⟩
theorem tb_227 : (Jvm.Cond.instanceMethod ({ cls := "SoundWells", name := "fault", desc := "()I" } : Jvm.MethodName)) ∈ TB := List.mem_filter.mpr ⟨List.mem_append_right _ (List.mem_of_getElem? (i := 227) (by decide +kernel)), (by decide +kernel)⟩
theorem tb_228 : (Jvm.Cond.selects "SoundWells" ({ cls := "SoundWells", name := "fault", desc := "()I" } : Jvm.MethodName) ({ cls := "SoundWells", name := "fault", desc := "()I" } : Jvm.MethodName)) ∈ TB := List.mem_filter.mpr ⟨List.mem_append_right _ (List.mem_of_getElem? (i := 228) (by decide +kernel)), (by decide +kernel)⟩
theorem tb_229 : (Jvm.Cond.code ({ cls := "SoundWells", name := "fault", desc := "()I" } : Jvm.MethodName) prog_1_method_4_code (1 : Nat) (Option.some Jvm.ClassFile.FieldType.int)) ∈ TB := List.mem_filter.mpr ⟨List.mem_append_right _ (List.mem_of_getElem? (i := 229) (by decide +kernel)), (by decide +kernel)⟩
theorem tb_230 : (Jvm.Cond.methodLink "SoundWells" (52 : Nat) ({ cls := "SoundWells$Reader", name := "firstFault", desc := "([CI)I" } : Jvm.MethodName)) ∈ TB := List.mem_filter.mpr ⟨List.mem_append_right _ (List.mem_of_getElem? (i := 230) (by decide +kernel)), (by decide +kernel)⟩
theorem tb_231 : (Jvm.Cond.instanceMethod ({ cls := "SoundWells$Reader", name := "firstFault", desc := "([CI)I" } : Jvm.MethodName)) ∈ TB := List.mem_filter.mpr ⟨List.mem_append_right _ (List.mem_of_getElem? (i := 231) (by decide +kernel)), (by decide +kernel)⟩
theorem tb_232 : (Jvm.Cond.selects "SoundWells$Reader" ({ cls := "SoundWells$Reader", name := "firstFault", desc := "([CI)I" } : Jvm.MethodName) ({ cls := "SoundWells$Reader", name := "firstFault", desc := "([CI)I" } : Jvm.MethodName)) ∈ TB := List.mem_filter.mpr ⟨List.mem_append_right _ (List.mem_of_getElem? (i := 232) (by decide +kernel)), (by decide +kernel)⟩
theorem tb_233 : (Jvm.Cond.code ({ cls := "SoundWells$Reader", name := "firstFault", desc := "([CI)I" } : Jvm.MethodName) prog_6_method_2_code (5 : Nat) (Option.some Jvm.ClassFile.FieldType.int)) ∈ TB := List.mem_filter.mpr ⟨List.mem_append_right _ (List.mem_of_getElem? (i := 233) (by decide +kernel)), (by decide +kernel)⟩
theorem tb_234 : (Jvm.Cond.methodLink "SoundWells$Reader" (41 : Nat) ({ cls := "SoundWells$Reader", name := "readItem", desc := "(I)I" } : Jvm.MethodName)) ∈ TB := List.mem_filter.mpr ⟨List.mem_append_right _ (List.mem_of_getElem? (i := 234) (by decide +kernel)), (by decide +kernel)⟩
theorem tb_236 : (Jvm.Cond.instanceMethod ({ cls := "SoundWells$Reader", name := "readItem", desc := "(I)I" } : Jvm.MethodName)) ∈ TB := List.mem_filter.mpr ⟨List.mem_append_right _ (List.mem_of_getElem? (i := 236) (by decide +kernel)), (by decide +kernel)⟩
theorem tb_237 : (Jvm.Cond.code ({ cls := "SoundWells$Reader", name := "readItem", desc := "(I)I" } : Jvm.MethodName) prog_6_method_4_code (8 : Nat) (Option.some Jvm.ClassFile.FieldType.int)) ∈ TB := List.mem_filter.mpr ⟨List.mem_append_right _ (List.mem_of_getElem? (i := 237) (by decide +kernel)), (by decide +kernel)⟩
theorem tb_238 : (Jvm.Cond.methodLink "SoundWells$Reader" (59 : Nat) ({ cls := "SoundWells$Reader", name := "letterAt", desc := "(I)C" } : Jvm.MethodName)) ∈ TB := List.mem_filter.mpr ⟨List.mem_append_right _ (List.mem_of_getElem? (i := 238) (by decide +kernel)), (by decide +kernel)⟩
theorem tb_240 : (Jvm.Cond.instanceMethod ({ cls := "SoundWells$Reader", name := "letterAt", desc := "(I)C" } : Jvm.MethodName)) ∈ TB := List.mem_filter.mpr ⟨List.mem_append_right _ (List.mem_of_getElem? (i := 240) (by decide +kernel)), (by decide +kernel)⟩
theorem tb_241 : (Jvm.Cond.code ({ cls := "SoundWells$Reader", name := "letterAt", desc := "(I)C" } : Jvm.MethodName) prog_6_method_6_code (2 : Nat) (Option.some Jvm.ClassFile.FieldType.char)) ∈ TB := List.mem_filter.mpr ⟨List.mem_append_right _ (List.mem_of_getElem? (i := 241) (by decide +kernel)), (by decide +kernel)⟩
theorem tb_242 : (Jvm.Cond.methodLink "SoundWells$Reader" (63 : Nat) ({ cls := "SoundWells$Reader", name := "numbersOf", desc := "(C)I" } : Jvm.MethodName)) ∈ TB := List.mem_filter.mpr ⟨List.mem_append_right _ (List.mem_of_getElem? (i := 242) (by decide +kernel)), (by decide +kernel)⟩
theorem tb_243 : (Jvm.Cond.static ({ cls := "SoundWells$Reader", name := "numbersOf", desc := "(C)I" } : Jvm.MethodName)) ∈ TB := List.mem_filter.mpr ⟨List.mem_append_right _ (List.mem_of_getElem? (i := 243) (by decide +kernel)), (by decide +kernel)⟩
theorem tb_244 : (Jvm.Cond.code ({ cls := "SoundWells$Reader", name := "numbersOf", desc := "(C)I" } : Jvm.MethodName) prog_6_method_5_code (1 : Nat) (Option.some Jvm.ClassFile.FieldType.int)) ∈ TB := List.mem_filter.mpr ⟨List.mem_append_right _ (List.mem_of_getElem? (i := 244) (by decide +kernel)), (by decide +kernel)⟩
theorem tb_245 : (Jvm.Cond.methodLink "SoundWells$Reader" (67 : Nat) ({ cls := "SoundWells$Reader", name := "endOfFigures", desc := "(I)I" } : Jvm.MethodName)) ∈ TB := List.mem_filter.mpr ⟨List.mem_append_right _ (List.mem_of_getElem? (i := 245) (by decide +kernel)), (by decide +kernel)⟩
theorem tb_247 : (Jvm.Cond.instanceMethod ({ cls := "SoundWells$Reader", name := "endOfFigures", desc := "(I)I" } : Jvm.MethodName)) ∈ TB := List.mem_filter.mpr ⟨List.mem_append_right _ (List.mem_of_getElem? (i := 247) (by decide +kernel)), (by decide +kernel)⟩
theorem tb_248 : (Jvm.Cond.code ({ cls := "SoundWells$Reader", name := "endOfFigures", desc := "(I)I" } : Jvm.MethodName) prog_6_method_8_code (3 : Nat) (Option.some Jvm.ClassFile.FieldType.int)) ∈ TB := List.mem_filter.mpr ⟨List.mem_append_right _ (List.mem_of_getElem? (i := 248) (by decide +kernel)), (by decide +kernel)⟩
theorem tb_249 : (Jvm.Cond.methodLink "SoundWells$Reader" (77 : Nat) ({ cls := "SoundWells$Reader", name := "isFigure", desc := "(I)Z" } : Jvm.MethodName)) ∈ TB := List.mem_filter.mpr ⟨List.mem_append_right _ (List.mem_of_getElem? (i := 249) (by decide +kernel)), (by decide +kernel)⟩
theorem tb_251 : (Jvm.Cond.instanceMethod ({ cls := "SoundWells$Reader", name := "isFigure", desc := "(I)Z" } : Jvm.MethodName)) ∈ TB := List.mem_filter.mpr ⟨List.mem_append_right _ (List.mem_of_getElem? (i := 251) (by decide +kernel)), (by decide +kernel)⟩
theorem tb_252 : (Jvm.Cond.code ({ cls := "SoundWells$Reader", name := "isFigure", desc := "(I)Z" } : Jvm.MethodName) prog_6_method_7_code (3 : Nat) (Option.some Jvm.ClassFile.FieldType.boolean)) ∈ TB := List.mem_filter.mpr ⟨List.mem_append_right _ (List.mem_of_getElem? (i := 252) (by decide +kernel)), (by decide +kernel)⟩
theorem tb_253 : (Jvm.Cond.methodLink "SoundWells$Reader" (70 : Nat) ({ cls := "SoundWells$Reader", name := "valueOf", desc := "(II)I" } : Jvm.MethodName)) ∈ TB := List.mem_filter.mpr ⟨List.mem_append_right _ (List.mem_of_getElem? (i := 253) (by decide +kernel)), (by decide +kernel)⟩
theorem tb_255 : (Jvm.Cond.instanceMethod ({ cls := "SoundWells$Reader", name := "valueOf", desc := "(II)I" } : Jvm.MethodName)) ∈ TB := List.mem_filter.mpr ⟨List.mem_append_right _ (List.mem_of_getElem? (i := 255) (by decide +kernel)), (by decide +kernel)⟩
theorem tb_256 : (Jvm.Cond.code ({ cls := "SoundWells$Reader", name := "valueOf", desc := "(II)I" } : Jvm.MethodName) prog_6_method_9_code (5 : Nat) (Option.some Jvm.ClassFile.FieldType.int)) ∈ TB := List.mem_filter.mpr ⟨List.mem_append_right _ (List.mem_of_getElem? (i := 256) (by decide +kernel)), (by decide +kernel)⟩
theorem tb_257 : (Jvm.Cond.methodLink "SoundWells$Reader" (73 : Nat) ({ cls := "SoundWells$Reader", name := "keepItem", desc := "(C)Z" } : Jvm.MethodName)) ∈ TB := List.mem_filter.mpr ⟨List.mem_append_right _ (List.mem_of_getElem? (i := 257) (by decide +kernel)), (by decide +kernel)⟩
theorem tb_259 : (Jvm.Cond.instanceMethod ({ cls := "SoundWells$Reader", name := "keepItem", desc := "(C)Z" } : Jvm.MethodName)) ∈ TB := List.mem_filter.mpr ⟨List.mem_append_right _ (List.mem_of_getElem? (i := 259) (by decide +kernel)), (by decide +kernel)⟩
theorem tb_260 : (Jvm.Cond.code ({ cls := "SoundWells$Reader", name := "keepItem", desc := "(C)Z" } : Jvm.MethodName) prog_6_method_10_code (7 : Nat) (Option.some Jvm.ClassFile.FieldType.boolean)) ∈ TB := List.mem_filter.mpr ⟨List.mem_append_right _ (List.mem_of_getElem? (i := 260) (by decide +kernel)), (by decide +kernel)⟩
theorem tb_261 : (Jvm.Cond.methodLink "SoundWells$Reader" (81 : Nat) ({ cls := "SoundWells$Reader", name := "keepUnit", desc := "()Z" } : Jvm.MethodName)) ∈ TB := List.mem_filter.mpr ⟨List.mem_append_right _ (List.mem_of_getElem? (i := 261) (by decide +kernel)), (by decide +kernel)⟩
theorem tb_263 : (Jvm.Cond.instanceMethod ({ cls := "SoundWells$Reader", name := "keepUnit", desc := "()Z" } : Jvm.MethodName)) ∈ TB := List.mem_filter.mpr ⟨List.mem_append_right _ (List.mem_of_getElem? (i := 263) (by decide +kernel)), (by decide +kernel)⟩
theorem tb_264 : (Jvm.Cond.code ({ cls := "SoundWells$Reader", name := "keepUnit", desc := "()Z" } : Jvm.MethodName) prog_6_method_11_code (1 : Nat) (Option.some Jvm.ClassFile.FieldType.boolean)) ∈ TB := List.mem_filter.mpr ⟨List.mem_append_right _ (List.mem_of_getElem? (i := 264) (by decide +kernel)), (by decide +kernel)⟩
theorem tb_265 : (Jvm.Cond.methodLink "SoundWells$Reader" (107 : Nat) ({ cls := "SoundWells$Plan", name := "allows", desc := "(II)Z" } : Jvm.MethodName)) ∈ TB := List.mem_filter.mpr ⟨List.mem_append_right _ (List.mem_of_getElem? (i := 265) (by decide +kernel)), (by decide +kernel)⟩
theorem tb_266 : (Jvm.Cond.static ({ cls := "SoundWells$Plan", name := "allows", desc := "(II)Z" } : Jvm.MethodName)) ∈ TB := List.mem_filter.mpr ⟨List.mem_append_right _ (List.mem_of_getElem? (i := 266) (by decide +kernel)), (by decide +kernel)⟩
theorem tb_267 : (Jvm.Cond.code ({ cls := "SoundWells$Plan", name := "allows", desc := "(II)Z" } : Jvm.MethodName) prog_5_method_6_code (2 : Nat) (Option.some Jvm.ClassFile.FieldType.boolean)) ∈ TB := List.mem_filter.mpr ⟨List.mem_append_right _ (List.mem_of_getElem? (i := 267) (by decide +kernel)), (by decide +kernel)⟩
theorem tb_268 : (Jvm.Cond.methodLink "SoundWells$Reader" (85 : Nat) ({ cls := "SoundWells$Reader", name := "keepBoard", desc := "()Z" } : Jvm.MethodName)) ∈ TB := List.mem_filter.mpr ⟨List.mem_append_right _ (List.mem_of_getElem? (i := 268) (by decide +kernel)), (by decide +kernel)⟩
theorem tb_270 : (Jvm.Cond.instanceMethod ({ cls := "SoundWells$Reader", name := "keepBoard", desc := "()Z" } : Jvm.MethodName)) ∈ TB := List.mem_filter.mpr ⟨List.mem_append_right _ (List.mem_of_getElem? (i := 270) (by decide +kernel)), (by decide +kernel)⟩
theorem tb_271 : (Jvm.Cond.code ({ cls := "SoundWells$Reader", name := "keepBoard", desc := "()Z" } : Jvm.MethodName) prog_6_method_12_code (1 : Nat) (Option.some Jvm.ClassFile.FieldType.boolean)) ∈ TB := List.mem_filter.mpr ⟨List.mem_append_right _ (List.mem_of_getElem? (i := 271) (by decide +kernel)), (by decide +kernel)⟩
theorem tb_272 : (Jvm.Cond.methodLink "SoundWells$Reader" (88 : Nat) ({ cls := "SoundWells$Numbers", name := "isPrime", desc := "(I)Z" } : Jvm.MethodName)) ∈ TB := List.mem_filter.mpr ⟨List.mem_append_right _ (List.mem_of_getElem? (i := 272) (by decide +kernel)), (by decide +kernel)⟩
theorem tb_273 : (Jvm.Cond.static ({ cls := "SoundWells$Numbers", name := "isPrime", desc := "(I)Z" } : Jvm.MethodName)) ∈ TB := List.mem_filter.mpr ⟨List.mem_append_right _ (List.mem_of_getElem? (i := 273) (by decide +kernel)), (by decide +kernel)⟩
theorem tb_274 : (Jvm.Cond.code ({ cls := "SoundWells$Numbers", name := "isPrime", desc := "(I)Z" } : Jvm.MethodName) prog_2_method_2_code (5 : Nat) (Option.some Jvm.ClassFile.FieldType.boolean)) ∈ TB := List.mem_filter.mpr ⟨List.mem_append_right _ (List.mem_of_getElem? (i := 274) (by decide +kernel)), (by decide +kernel)⟩
theorem tb_277 : (Jvm.Cond.methodLink "SoundWells$Reader" (93 : Nat) ({ cls := "SoundWells$Panel", name := "factorFits", desc := "(III)Z" } : Jvm.MethodName)) ∈ TB := List.mem_filter.mpr ⟨List.mem_append_right _ (List.mem_of_getElem? (i := 277) (by decide +kernel)), (by decide +kernel)⟩
theorem tb_278 : (Jvm.Cond.static ({ cls := "SoundWells$Panel", name := "factorFits", desc := "(III)Z" } : Jvm.MethodName)) ∈ TB := List.mem_filter.mpr ⟨List.mem_append_right _ (List.mem_of_getElem? (i := 278) (by decide +kernel)), (by decide +kernel)⟩
theorem tb_279 : (Jvm.Cond.code ({ cls := "SoundWells$Panel", name := "factorFits", desc := "(III)Z" } : Jvm.MethodName) prog_3_method_3_code (3 : Nat) (Option.some Jvm.ClassFile.FieldType.boolean)) ∈ TB := List.mem_filter.mpr ⟨List.mem_append_right _ (List.mem_of_getElem? (i := 279) (by decide +kernel)), (by decide +kernel)⟩
theorem tb_280 : (Jvm.Cond.methodLink "SoundWells$Panel" (48 : Nat) ({ cls := "SoundWells$Numbers", name := "isRoot", desc := "(II)Z" } : Jvm.MethodName)) ∈ TB := List.mem_filter.mpr ⟨List.mem_append_right _ (List.mem_of_getElem? (i := 280) (by decide +kernel)), (by decide +kernel)⟩
theorem tb_281 : (Jvm.Cond.static ({ cls := "SoundWells$Numbers", name := "isRoot", desc := "(II)Z" } : Jvm.MethodName)) ∈ TB := List.mem_filter.mpr ⟨List.mem_append_right _ (List.mem_of_getElem? (i := 281) (by decide +kernel)), (by decide +kernel)⟩
theorem tb_282 : (Jvm.Cond.code ({ cls := "SoundWells$Numbers", name := "isRoot", desc := "(II)Z" } : Jvm.MethodName) prog_2_method_7_code (5 : Nat) (Option.some Jvm.ClassFile.FieldType.boolean)) ∈ TB := List.mem_filter.mpr ⟨List.mem_append_right _ (List.mem_of_getElem? (i := 282) (by decide +kernel)), (by decide +kernel)⟩
theorem tb_283 : (Jvm.Cond.methodLink "SoundWells$Reader" (97 : Nat) ({ cls := "SoundWells$Panel", name := "offsetFits", desc := "(II)Z" } : Jvm.MethodName)) ∈ TB := List.mem_filter.mpr ⟨List.mem_append_right _ (List.mem_of_getElem? (i := 283) (by decide +kernel)), (by decide +kernel)⟩
theorem tb_284 : (Jvm.Cond.static ({ cls := "SoundWells$Panel", name := "offsetFits", desc := "(II)Z" } : Jvm.MethodName)) ∈ TB := List.mem_filter.mpr ⟨List.mem_append_right _ (List.mem_of_getElem? (i := 284) (by decide +kernel)), (by decide +kernel)⟩
theorem tb_285 : (Jvm.Cond.code ({ cls := "SoundWells$Panel", name := "offsetFits", desc := "(II)Z" } : Jvm.MethodName) prog_3_method_4_code (2 : Nat) (Option.some Jvm.ClassFile.FieldType.boolean)) ∈ TB := List.mem_filter.mpr ⟨List.mem_append_right _ (List.mem_of_getElem? (i := 285) (by decide +kernel)), (by decide +kernel)⟩
theorem tb_286 : (Jvm.Cond.methodLink "SoundWells$Reader" (101 : Nat) ({ cls := "SoundWells$Panel", name := "wellsFit", desc := "(I)Z" } : Jvm.MethodName)) ∈ TB := List.mem_filter.mpr ⟨List.mem_append_right _ (List.mem_of_getElem? (i := 286) (by decide +kernel)), (by decide +kernel)⟩
theorem tb_287 : (Jvm.Cond.static ({ cls := "SoundWells$Panel", name := "wellsFit", desc := "(I)Z" } : Jvm.MethodName)) ∈ TB := List.mem_filter.mpr ⟨List.mem_append_right _ (List.mem_of_getElem? (i := 287) (by decide +kernel)), (by decide +kernel)⟩
theorem tb_288 : (Jvm.Cond.code ({ cls := "SoundWells$Panel", name := "wellsFit", desc := "(I)Z" } : Jvm.MethodName) prog_3_method_5_code (1 : Nat) (Option.some Jvm.ClassFile.FieldType.boolean)) ∈ TB := List.mem_filter.mpr ⟨List.mem_append_right _ (List.mem_of_getElem? (i := 288) (by decide +kernel)), (by decide +kernel)⟩
theorem tb_289 : (Jvm.Cond.methodLink "SoundWells$Reader" (104 : Nat) ({ cls := "SoundWells$Panel", name := "<init>", desc := "(IIIII)V" } : Jvm.MethodName)) ∈ TB := List.mem_filter.mpr ⟨List.mem_append_right _ (List.mem_of_getElem? (i := 289) (by decide +kernel)), (by decide +kernel)⟩
theorem tb_290 : (Jvm.Cond.methodLink "SoundWellsLaw" (27 : Nat) ({ cls := "SoundWells", name := "lay", desc := "()I" } : Jvm.MethodName)) ∈ TB := List.mem_filter.mpr ⟨List.mem_append_right _ (List.mem_of_getElem? (i := 290) (by decide +kernel)), (by decide +kernel)⟩
theorem tb_291 : (Jvm.Cond.instanceMethod ({ cls := "SoundWells", name := "lay", desc := "()I" } : Jvm.MethodName)) ∈ TB := List.mem_filter.mpr ⟨List.mem_append_right _ (List.mem_of_getElem? (i := 291) (by decide +kernel)), (by decide +kernel)⟩
theorem tb_292 : (Jvm.Cond.selects "SoundWells" ({ cls := "SoundWells", name := "lay", desc := "()I" } : Jvm.MethodName) ({ cls := "SoundWells", name := "lay", desc := "()I" } : Jvm.MethodName)) ∈ TB := List.mem_filter.mpr ⟨List.mem_append_right _ (List.mem_of_getElem? (i := 292) (by decide +kernel)), (by decide +kernel)⟩
theorem tb_293 : (Jvm.Cond.code ({ cls := "SoundWells", name := "lay", desc := "()I" } : Jvm.MethodName) prog_1_method_5_code (1 : Nat) (Option.some Jvm.ClassFile.FieldType.int)) ∈ TB := List.mem_filter.mpr ⟨List.mem_append_right _ (List.mem_of_getElem? (i := 293) (by decide +kernel)), (by decide +kernel)⟩
theorem tb_294 : (Jvm.Cond.methodLink "SoundWells" (56 : Nat) ({ cls := "SoundWells$Reader", name := "planRead", desc := "()LSoundWells$Plan;" } : Jvm.MethodName)) ∈ TB := List.mem_filter.mpr ⟨List.mem_append_right _ (List.mem_of_getElem? (i := 294) (by decide +kernel)), (by decide +kernel)⟩
theorem tb_295 : (Jvm.Cond.instanceMethod ({ cls := "SoundWells$Reader", name := "planRead", desc := "()LSoundWells$Plan;" } : Jvm.MethodName)) ∈ TB := List.mem_filter.mpr ⟨List.mem_append_right _ (List.mem_of_getElem? (i := 295) (by decide +kernel)), (by decide +kernel)⟩
theorem tb_296 : (Jvm.Cond.selects "SoundWells$Reader" ({ cls := "SoundWells$Reader", name := "planRead", desc := "()LSoundWells$Plan;" } : Jvm.MethodName) ({ cls := "SoundWells$Reader", name := "planRead", desc := "()LSoundWells$Plan;" } : Jvm.MethodName)) ∈ TB := List.mem_filter.mpr ⟨List.mem_append_right _ (List.mem_of_getElem? (i := 296) (by decide +kernel)), (by decide +kernel)⟩
theorem tb_297 : (Jvm.Cond.code ({ cls := "SoundWells$Reader", name := "planRead", desc := "()LSoundWells$Plan;" } : Jvm.MethodName) prog_6_method_3_code (3 : Nat) (Option.some (Jvm.ClassFile.FieldType.object "SoundWells$Plan"))) ∈ TB := List.mem_filter.mpr ⟨List.mem_append_right _ (List.mem_of_getElem? (i := 297) (by decide +kernel)), (by decide +kernel)⟩
theorem tb_298 : (Jvm.Cond.methodLink "SoundWells$Reader" (45 : Nat) ({ cls := "java/lang/Math", name := "min", desc := "(II)I" } : Jvm.MethodName)) ∈ TB := List.mem_filter.mpr ⟨List.mem_append_right _ (List.mem_of_getElem? (i := 298) (by decide +kernel)), (by decide +kernel)⟩
theorem tb_299 : (Jvm.Cond.static ({ cls := "java/lang/Math", name := "min", desc := "(II)I" } : Jvm.MethodName)) ∈ TB := List.mem_filter.mpr ⟨List.mem_append_right _ (List.mem_of_getElem? (i := 299) (by decide +kernel)), (by decide +kernel)⟩
theorem tb_300 : (Jvm.Cond.code ({ cls := "java/lang/Math", name := "min", desc := "(II)I" } : Jvm.MethodName) prog_12_method_69_code (2 : Nat) (Option.some Jvm.ClassFile.FieldType.int)) ∈ TB := List.mem_filter.mpr ⟨List.mem_append_right _ (List.mem_of_getElem? (i := 300) (by decide +kernel)), (by decide +kernel)⟩
theorem tb_301 : (Jvm.Cond.methodLink "SoundWells$Reader" (51 : Nat) ({ cls := "java/lang/Math", name := "max", desc := "(II)I" } : Jvm.MethodName)) ∈ TB := List.mem_filter.mpr ⟨List.mem_append_right _ (List.mem_of_getElem? (i := 301) (by decide +kernel)), (by decide +kernel)⟩
theorem tb_302 : (Jvm.Cond.static ({ cls := "java/lang/Math", name := "max", desc := "(II)I" } : Jvm.MethodName)) ∈ TB := List.mem_filter.mpr ⟨List.mem_append_right _ (List.mem_of_getElem? (i := 302) (by decide +kernel)), (by decide +kernel)⟩
theorem tb_303 : (Jvm.Cond.code ({ cls := "java/lang/Math", name := "max", desc := "(II)I" } : Jvm.MethodName) prog_12_method_65_code (2 : Nat) (Option.some Jvm.ClassFile.FieldType.int)) ∈ TB := List.mem_filter.mpr ⟨List.mem_append_right _ (List.mem_of_getElem? (i := 303) (by decide +kernel)), (by decide +kernel)⟩
theorem tb_304 : (Jvm.Cond.classLink "SoundWells$Reader" (54 : Nat) "SoundWells$Plan") ∈ TB := List.mem_filter.mpr ⟨List.mem_append_right _ (List.mem_of_getElem? (i := 304) (by decide +kernel)), (by decide +kernel)⟩
theorem tb_305 : (Jvm.Cond.methodLink "SoundWells$Reader" (56 : Nat) ({ cls := "SoundWells$Plan", name := "<init>", desc := "([LSoundWells$Panel;III)V" } : Jvm.MethodName)) ∈ TB := List.mem_filter.mpr ⟨List.mem_append_right _ (List.mem_of_getElem? (i := 305) (by decide +kernel)), (by decide +kernel)⟩
theorem tb_306 : (Jvm.Cond.methodLink "SoundWells" (60 : Nat) ({ cls := "SoundWells$Past", name := "forget", desc := "()V" } : Jvm.MethodName)) ∈ TB := List.mem_filter.mpr ⟨List.mem_append_right _ (List.mem_of_getElem? (i := 306) (by decide +kernel)), (by decide +kernel)⟩
theorem tb_307 : (Jvm.Cond.instanceMethod ({ cls := "SoundWells$Past", name := "forget", desc := "()V" } : Jvm.MethodName)) ∈ TB := List.mem_filter.mpr ⟨List.mem_append_right _ (List.mem_of_getElem? (i := 307) (by decide +kernel)), (by decide +kernel)⟩
theorem tb_308 : (Jvm.Cond.selects "SoundWells$Past" ({ cls := "SoundWells$Past", name := "forget", desc := "()V" } : Jvm.MethodName) ({ cls := "SoundWells$Past", name := "forget", desc := "()V" } : Jvm.MethodName)) ∈ TB := List.mem_filter.mpr ⟨List.mem_append_right _ (List.mem_of_getElem? (i := 308) (by decide +kernel)), (by decide +kernel)⟩
theorem tb_309 : (Jvm.Cond.code ({ cls := "SoundWells$Past", name := "forget", desc := "()V" } : Jvm.MethodName) prog_4_method_2_code (2 : Nat) (Option.none : Option Jvm.ClassFile.FieldType)) ∈ TB := List.mem_filter.mpr ⟨List.mem_append_right _ (List.mem_of_getElem? (i := 309) (by decide +kernel)), (by decide +kernel)⟩
theorem tb_310 : (Jvm.Cond.methodLink "SoundWellsLaw" (31 : Nat) ({ cls := "SoundWells", name := "set", desc := "(III)I" } : Jvm.MethodName)) ∈ TB := List.mem_filter.mpr ⟨List.mem_append_right _ (List.mem_of_getElem? (i := 310) (by decide +kernel)), (by decide +kernel)⟩
theorem tb_311 : (Jvm.Cond.instanceMethod ({ cls := "SoundWells", name := "set", desc := "(III)I" } : Jvm.MethodName)) ∈ TB := List.mem_filter.mpr ⟨List.mem_append_right _ (List.mem_of_getElem? (i := 311) (by decide +kernel)), (by decide +kernel)⟩
theorem tb_312 : (Jvm.Cond.selects "SoundWells" ({ cls := "SoundWells", name := "set", desc := "(III)I" } : Jvm.MethodName) ({ cls := "SoundWells", name := "set", desc := "(III)I" } : Jvm.MethodName)) ∈ TB := List.mem_filter.mpr ⟨List.mem_append_right _ (List.mem_of_getElem? (i := 312) (by decide +kernel)), (by decide +kernel)⟩
theorem tb_313 : (Jvm.Cond.code ({ cls := "SoundWells", name := "set", desc := "(III)I" } : Jvm.MethodName) prog_1_method_6_code (6 : Nat) (Option.some Jvm.ClassFile.FieldType.int)) ∈ TB := List.mem_filter.mpr ⟨List.mem_append_right _ (List.mem_of_getElem? (i := 313) (by decide +kernel)), (by decide +kernel)⟩
theorem tb_314 : (Jvm.Cond.methodLink "SoundWells" (67 : Nat) ({ cls := "SoundWells$Plan", name := "panelAt", desc := "(I)LSoundWells$Panel;" } : Jvm.MethodName)) ∈ TB := List.mem_filter.mpr ⟨List.mem_append_right _ (List.mem_of_getElem? (i := 314) (by decide +kernel)), (by decide +kernel)⟩
theorem tb_315 : (Jvm.Cond.instanceMethod ({ cls := "SoundWells$Plan", name := "panelAt", desc := "(I)LSoundWells$Panel;" } : Jvm.MethodName)) ∈ TB := List.mem_filter.mpr ⟨List.mem_append_right _ (List.mem_of_getElem? (i := 315) (by decide +kernel)), (by decide +kernel)⟩
theorem tb_316 : (Jvm.Cond.selects "SoundWells$Plan" ({ cls := "SoundWells$Plan", name := "panelAt", desc := "(I)LSoundWells$Panel;" } : Jvm.MethodName) ({ cls := "SoundWells$Plan", name := "panelAt", desc := "(I)LSoundWells$Panel;" } : Jvm.MethodName)) ∈ TB := List.mem_filter.mpr ⟨List.mem_append_right _ (List.mem_of_getElem? (i := 316) (by decide +kernel)), (by decide +kernel)⟩
theorem tb_317 : (Jvm.Cond.code ({ cls := "SoundWells$Plan", name := "panelAt", desc := "(I)LSoundWells$Panel;" } : Jvm.MethodName) prog_5_method_2_code (2 : Nat) (Option.some (Jvm.ClassFile.FieldType.object "SoundWells$Panel"))) ∈ TB := List.mem_filter.mpr ⟨List.mem_append_right _ (List.mem_of_getElem? (i := 317) (by decide +kernel)), (by decide +kernel)⟩
theorem tb_318 : (Jvm.Cond.methodLink "SoundWells" (71 : Nat) ({ cls := "SoundWells$Panel", name := "allows", desc := "(II)Z" } : Jvm.MethodName)) ∈ TB := List.mem_filter.mpr ⟨List.mem_append_right _ (List.mem_of_getElem? (i := 318) (by decide +kernel)), (by decide +kernel)⟩
theorem tb_319 : (Jvm.Cond.instanceMethod ({ cls := "SoundWells$Panel", name := "allows", desc := "(II)Z" } : Jvm.MethodName)) ∈ TB := List.mem_filter.mpr ⟨List.mem_append_right _ (List.mem_of_getElem? (i := 319) (by decide +kernel)), (by decide +kernel)⟩
theorem tb_320 : (Jvm.Cond.selects "SoundWells$Panel" ({ cls := "SoundWells$Panel", name := "allows", desc := "(II)Z" } : Jvm.MethodName) ({ cls := "SoundWells$Panel", name := "allows", desc := "(II)Z" } : Jvm.MethodName)) ∈ TB := List.mem_filter.mpr ⟨List.mem_append_right _ (List.mem_of_getElem? (i := 320) (by decide +kernel)), (by decide +kernel)⟩
theorem tb_321 : (Jvm.Cond.code ({ cls := "SoundWells$Panel", name := "allows", desc := "(II)Z" } : Jvm.MethodName) prog_3_method_6_code (3 : Nat) (Option.some Jvm.ClassFile.FieldType.boolean)) ∈ TB := List.mem_filter.mpr ⟨List.mem_append_right _ (List.mem_of_getElem? (i := 321) (by decide +kernel)), (by decide +kernel)⟩
theorem tb_322 : (Jvm.Cond.methodLink "SoundWells$Panel" (52 : Nat) ({ cls := "SoundWells$Panel", name := "factorFits", desc := "(III)Z" } : Jvm.MethodName)) ∈ TB := List.mem_filter.mpr ⟨List.mem_append_right _ (List.mem_of_getElem? (i := 322) (by decide +kernel)), (by decide +kernel)⟩
theorem tb_323 : (Jvm.Cond.methodLink "SoundWells$Panel" (56 : Nat) ({ cls := "SoundWells$Panel", name := "offsetFits", desc := "(II)Z" } : Jvm.MethodName)) ∈ TB := List.mem_filter.mpr ⟨List.mem_append_right _ (List.mem_of_getElem? (i := 323) (by decide +kernel)), (by decide +kernel)⟩
theorem tb_324 : (Jvm.Cond.methodLink "SoundWells$Panel" (59 : Nat) ({ cls := "SoundWells$Panel", name := "wellsFit", desc := "(I)Z" } : Jvm.MethodName)) ∈ TB := List.mem_filter.mpr ⟨List.mem_append_right _ (List.mem_of_getElem? (i := 324) (by decide +kernel)), (by decide +kernel)⟩
theorem tb_325 : (Jvm.Cond.methodLink "SoundWells" (75 : Nat) ({ cls := "SoundWells$Panel", name := "measure", desc := "(I)I" } : Jvm.MethodName)) ∈ TB := List.mem_filter.mpr ⟨List.mem_append_right _ (List.mem_of_getElem? (i := 325) (by decide +kernel)), (by decide +kernel)⟩
theorem tb_326 : (Jvm.Cond.instanceMethod ({ cls := "SoundWells$Panel", name := "measure", desc := "(I)I" } : Jvm.MethodName)) ∈ TB := List.mem_filter.mpr ⟨List.mem_append_right _ (List.mem_of_getElem? (i := 326) (by decide +kernel)), (by decide +kernel)⟩
theorem tb_327 : (Jvm.Cond.selects "SoundWells$Panel" ({ cls := "SoundWells$Panel", name := "measure", desc := "(I)I" } : Jvm.MethodName) ({ cls := "SoundWells$Panel", name := "measure", desc := "(I)I" } : Jvm.MethodName)) ∈ TB := List.mem_filter.mpr ⟨List.mem_append_right _ (List.mem_of_getElem? (i := 327) (by decide +kernel)), (by decide +kernel)⟩
theorem tb_328 : (Jvm.Cond.code ({ cls := "SoundWells$Panel", name := "measure", desc := "(I)I" } : Jvm.MethodName) prog_3_method_7_code (2 : Nat) (Option.some Jvm.ClassFile.FieldType.int)) ∈ TB := List.mem_filter.mpr ⟨List.mem_append_right _ (List.mem_of_getElem? (i := 328) (by decide +kernel)), (by decide +kernel)⟩
theorem tb_329 : (Jvm.Cond.methodLink "SoundWells" (79 : Nat) ({ cls := "SoundWells$Panel", name := "withMeasure", desc := "(II)LSoundWells$Panel;" } : Jvm.MethodName)) ∈ TB := List.mem_filter.mpr ⟨List.mem_append_right _ (List.mem_of_getElem? (i := 329) (by decide +kernel)), (by decide +kernel)⟩
theorem tb_330 : (Jvm.Cond.instanceMethod ({ cls := "SoundWells$Panel", name := "withMeasure", desc := "(II)LSoundWells$Panel;" } : Jvm.MethodName)) ∈ TB := List.mem_filter.mpr ⟨List.mem_append_right _ (List.mem_of_getElem? (i := 330) (by decide +kernel)), (by decide +kernel)⟩
theorem tb_331 : (Jvm.Cond.selects "SoundWells$Panel" ({ cls := "SoundWells$Panel", name := "withMeasure", desc := "(II)LSoundWells$Panel;" } : Jvm.MethodName) ({ cls := "SoundWells$Panel", name := "withMeasure", desc := "(II)LSoundWells$Panel;" } : Jvm.MethodName)) ∈ TB := List.mem_filter.mpr ⟨List.mem_append_right _ (List.mem_of_getElem? (i := 331) (by decide +kernel)), (by decide +kernel)⟩
theorem tb_332 : (Jvm.Cond.code ({ cls := "SoundWells$Panel", name := "withMeasure", desc := "(II)LSoundWells$Panel;" } : Jvm.MethodName) prog_3_method_8_code (3 : Nat) (Option.some (Jvm.ClassFile.FieldType.object "SoundWells$Panel"))) ∈ TB := List.mem_filter.mpr ⟨List.mem_append_right _ (List.mem_of_getElem? (i := 332) (by decide +kernel)), (by decide +kernel)⟩
theorem tb_333 : (Jvm.Cond.classLink "SoundWells$Panel" (10 : Nat) "SoundWells$Panel") ∈ TB := List.mem_filter.mpr ⟨List.mem_append_right _ (List.mem_of_getElem? (i := 333) (by decide +kernel)), (by decide +kernel)⟩
theorem tb_334 : (Jvm.Cond.methodLink "SoundWells$Panel" (63 : Nat) ({ cls := "SoundWells$Panel", name := "<init>", desc := "(IIIII)V" } : Jvm.MethodName)) ∈ TB := List.mem_filter.mpr ⟨List.mem_append_right _ (List.mem_of_getElem? (i := 334) (by decide +kernel)), (by decide +kernel)⟩
theorem tb_335 : (Jvm.Cond.methodLink "SoundWells" (83 : Nat) ({ cls := "SoundWells$Plan", name := "withPanel", desc := "(ILSoundWells$Panel;)LSoundWells$Plan;" } : Jvm.MethodName)) ∈ TB := List.mem_filter.mpr ⟨List.mem_append_right _ (List.mem_of_getElem? (i := 335) (by decide +kernel)), (by decide +kernel)⟩
theorem tb_336 : (Jvm.Cond.instanceMethod ({ cls := "SoundWells$Plan", name := "withPanel", desc := "(ILSoundWells$Panel;)LSoundWells$Plan;" } : Jvm.MethodName)) ∈ TB := List.mem_filter.mpr ⟨List.mem_append_right _ (List.mem_of_getElem? (i := 336) (by decide +kernel)), (by decide +kernel)⟩
theorem tb_337 : (Jvm.Cond.selects "SoundWells$Plan" ({ cls := "SoundWells$Plan", name := "withPanel", desc := "(ILSoundWells$Panel;)LSoundWells$Plan;" } : Jvm.MethodName) ({ cls := "SoundWells$Plan", name := "withPanel", desc := "(ILSoundWells$Panel;)LSoundWells$Plan;" } : Jvm.MethodName)) ∈ TB := List.mem_filter.mpr ⟨List.mem_append_right _ (List.mem_of_getElem? (i := 337) (by decide +kernel)), (by decide +kernel)⟩
theorem tb_338 : (Jvm.Cond.code ({ cls := "SoundWells$Plan", name := "withPanel", desc := "(ILSoundWells$Panel;)LSoundWells$Plan;" } : Jvm.MethodName) prog_5_method_4_code (4 : Nat) (Option.some (Jvm.ClassFile.FieldType.object "SoundWells$Plan"))) ∈ TB := List.mem_filter.mpr ⟨List.mem_append_right _ (List.mem_of_getElem? (i := 338) (by decide +kernel)), (by decide +kernel)⟩
theorem tb_339 : (Jvm.Cond.methodLink "SoundWells$Plan" (28 : Nat) ({ cls := "[LSoundWells$Panel;", name := "clone", desc := "()Ljava/lang/Object;" } : Jvm.MethodName)) ∈ TB := List.mem_filter.mpr ⟨List.mem_append_right _ (List.mem_of_getElem? (i := 339) (by decide +kernel)), (by decide +kernel)⟩
theorem tb_340 : (Jvm.Cond.sameMethod "[LSoundWells$Panel;" "java/lang/Object" "clone" "()Ljava/lang/Object;") ∈ TB := List.mem_filter.mpr ⟨List.mem_append_right _ (List.mem_of_getElem? (i := 340) (by decide +kernel)), (by decide +kernel)⟩
theorem tb_341 : (Jvm.Cond.native ({ cls := "java/lang/Object", name := "clone", desc := "()Ljava/lang/Object;" } : Jvm.MethodName)) ∈ TB := List.mem_filter.mpr ⟨List.mem_append_right _ (List.mem_of_getElem? (i := 341) (by decide +kernel)), (by decide +kernel)⟩
theorem tb_342 : (Jvm.Cond.instanceMethod ({ cls := "java/lang/Object", name := "clone", desc := "()Ljava/lang/Object;" } : Jvm.MethodName)) ∈ TB := List.mem_filter.mpr ⟨List.mem_append_right _ (List.mem_of_getElem? (i := 342) (by decide +kernel)), (by decide +kernel)⟩
theorem tb_343 : (Jvm.Cond.selects "[LSoundWells$Panel;" ({ cls := "[LSoundWells$Panel;", name := "clone", desc := "()Ljava/lang/Object;" } : Jvm.MethodName) ({ cls := "java/lang/Object", name := "clone", desc := "()Ljava/lang/Object;" } : Jvm.MethodName)) ∈ TB := List.mem_filter.mpr ⟨List.mem_append_right _ (List.mem_of_getElem? (i := 343) (by decide +kernel)), (by decide +kernel)⟩
theorem tb_345 : (Jvm.Cond.classLink "SoundWells$Plan" (29 : Nat) "[LSoundWells$Panel;") ∈ TB := List.mem_filter.mpr ⟨List.mem_append_right _ (List.mem_of_getElem? (i := 345) (by decide +kernel)), (by decide +kernel)⟩
theorem tb_346 : (Jvm.Cond.classLink "SoundWells$Plan" (8 : Nat) "SoundWells$Plan") ∈ TB := List.mem_filter.mpr ⟨List.mem_append_right _ (List.mem_of_getElem? (i := 346) (by decide +kernel)), (by decide +kernel)⟩
theorem tb_347 : (Jvm.Cond.methodLink "SoundWells$Plan" (33 : Nat) ({ cls := "SoundWells$Plan", name := "<init>", desc := "([LSoundWells$Panel;III)V" } : Jvm.MethodName)) ∈ TB := List.mem_filter.mpr ⟨List.mem_append_right _ (List.mem_of_getElem? (i := 347) (by decide +kernel)), (by decide +kernel)⟩
theorem tb_348 : (Jvm.Cond.methodLink "SoundWells" (87 : Nat) ({ cls := "SoundWells", name := "change", desc := "(LSoundWells$Plan;)V" } : Jvm.MethodName)) ∈ TB := List.mem_filter.mpr ⟨List.mem_append_right _ (List.mem_of_getElem? (i := 348) (by decide +kernel)), (by decide +kernel)⟩
theorem tb_350 : (Jvm.Cond.instanceMethod ({ cls := "SoundWells", name := "change", desc := "(LSoundWells$Plan;)V" } : Jvm.MethodName)) ∈ TB := List.mem_filter.mpr ⟨List.mem_append_right _ (List.mem_of_getElem? (i := 350) (by decide +kernel)), (by decide +kernel)⟩
theorem tb_351 : (Jvm.Cond.code ({ cls := "SoundWells", name := "change", desc := "(LSoundWells$Plan;)V" } : Jvm.MethodName) prog_1_method_10_code (2 : Nat) (Option.none : Option Jvm.ClassFile.FieldType)) ∈ TB := List.mem_filter.mpr ⟨List.mem_append_right _ (List.mem_of_getElem? (i := 351) (by decide +kernel)), (by decide +kernel)⟩
theorem tb_352 : (Jvm.Cond.methodLink "SoundWells" (106 : Nat) ({ cls := "SoundWells$Past", name := "keep", desc := "(LSoundWells$Plan;)V" } : Jvm.MethodName)) ∈ TB := List.mem_filter.mpr ⟨List.mem_append_right _ (List.mem_of_getElem? (i := 352) (by decide +kernel)), (by decide +kernel)⟩
theorem tb_353 : (Jvm.Cond.instanceMethod ({ cls := "SoundWells$Past", name := "keep", desc := "(LSoundWells$Plan;)V" } : Jvm.MethodName)) ∈ TB := List.mem_filter.mpr ⟨List.mem_append_right _ (List.mem_of_getElem? (i := 353) (by decide +kernel)), (by decide +kernel)⟩
theorem tb_354 : (Jvm.Cond.selects "SoundWells$Past" ({ cls := "SoundWells$Past", name := "keep", desc := "(LSoundWells$Plan;)V" } : Jvm.MethodName) ({ cls := "SoundWells$Past", name := "keep", desc := "(LSoundWells$Plan;)V" } : Jvm.MethodName)) ∈ TB := List.mem_filter.mpr ⟨List.mem_append_right _ (List.mem_of_getElem? (i := 354) (by decide +kernel)), (by decide +kernel)⟩
theorem tb_355 : (Jvm.Cond.code ({ cls := "SoundWells$Past", name := "keep", desc := "(LSoundWells$Plan;)V" } : Jvm.MethodName) prog_4_method_3_code (3 : Nat) (Option.none : Option Jvm.ClassFile.FieldType)) ∈ TB := List.mem_filter.mpr ⟨List.mem_append_right _ (List.mem_of_getElem? (i := 355) (by decide +kernel)), (by decide +kernel)⟩
theorem tb_356 : (Jvm.Cond.methodLink "SoundWellsLaw" (36 : Nat) ({ cls := "SoundWells", name := "tell", desc := "(II)I" } : Jvm.MethodName)) ∈ TB := List.mem_filter.mpr ⟨List.mem_append_right _ (List.mem_of_getElem? (i := 356) (by decide +kernel)), (by decide +kernel)⟩
theorem tb_357 : (Jvm.Cond.instanceMethod ({ cls := "SoundWells", name := "tell", desc := "(II)I" } : Jvm.MethodName)) ∈ TB := List.mem_filter.mpr ⟨List.mem_append_right _ (List.mem_of_getElem? (i := 357) (by decide +kernel)), (by decide +kernel)⟩
theorem tb_358 : (Jvm.Cond.selects "SoundWells" ({ cls := "SoundWells", name := "tell", desc := "(II)I" } : Jvm.MethodName) ({ cls := "SoundWells", name := "tell", desc := "(II)I" } : Jvm.MethodName)) ∈ TB := List.mem_filter.mpr ⟨List.mem_append_right _ (List.mem_of_getElem? (i := 358) (by decide +kernel)), (by decide +kernel)⟩
theorem tb_359 : (Jvm.Cond.code ({ cls := "SoundWells", name := "tell", desc := "(II)I" } : Jvm.MethodName) prog_1_method_7_code (4 : Nat) (Option.some Jvm.ClassFile.FieldType.int)) ∈ TB := List.mem_filter.mpr ⟨List.mem_append_right _ (List.mem_of_getElem? (i := 359) (by decide +kernel)), (by decide +kernel)⟩
theorem tb_360 : (Jvm.Cond.methodLink "SoundWells" (91 : Nat) ({ cls := "SoundWells$Plan", name := "allows", desc := "(II)Z" } : Jvm.MethodName)) ∈ TB := List.mem_filter.mpr ⟨List.mem_append_right _ (List.mem_of_getElem? (i := 360) (by decide +kernel)), (by decide +kernel)⟩
theorem tb_361 : (Jvm.Cond.methodLink "SoundWells" (92 : Nat) ({ cls := "SoundWells$Plan", name := "measure", desc := "(I)I" } : Jvm.MethodName)) ∈ TB := List.mem_filter.mpr ⟨List.mem_append_right _ (List.mem_of_getElem? (i := 361) (by decide +kernel)), (by decide +kernel)⟩
theorem tb_362 : (Jvm.Cond.instanceMethod ({ cls := "SoundWells$Plan", name := "measure", desc := "(I)I" } : Jvm.MethodName)) ∈ TB := List.mem_filter.mpr ⟨List.mem_append_right _ (List.mem_of_getElem? (i := 362) (by decide +kernel)), (by decide +kernel)⟩
theorem tb_363 : (Jvm.Cond.selects "SoundWells$Plan" ({ cls := "SoundWells$Plan", name := "measure", desc := "(I)I" } : Jvm.MethodName) ({ cls := "SoundWells$Plan", name := "measure", desc := "(I)I" } : Jvm.MethodName)) ∈ TB := List.mem_filter.mpr ⟨List.mem_append_right _ (List.mem_of_getElem? (i := 363) (by decide +kernel)), (by decide +kernel)⟩
theorem tb_364 : (Jvm.Cond.code ({ cls := "SoundWells$Plan", name := "measure", desc := "(I)I" } : Jvm.MethodName) prog_5_method_7_code (2 : Nat) (Option.some Jvm.ClassFile.FieldType.int)) ∈ TB := List.mem_filter.mpr ⟨List.mem_append_right _ (List.mem_of_getElem? (i := 364) (by decide +kernel)), (by decide +kernel)⟩
theorem tb_365 : (Jvm.Cond.methodLink "SoundWells" (93 : Nat) ({ cls := "SoundWells$Plan", name := "withMeasure", desc := "(II)LSoundWells$Plan;" } : Jvm.MethodName)) ∈ TB := List.mem_filter.mpr ⟨List.mem_append_right _ (List.mem_of_getElem? (i := 365) (by decide +kernel)), (by decide +kernel)⟩
theorem tb_366 : (Jvm.Cond.instanceMethod ({ cls := "SoundWells$Plan", name := "withMeasure", desc := "(II)LSoundWells$Plan;" } : Jvm.MethodName)) ∈ TB := List.mem_filter.mpr ⟨List.mem_append_right _ (List.mem_of_getElem? (i := 366) (by decide +kernel)), (by decide +kernel)⟩
theorem tb_367 : (Jvm.Cond.selects "SoundWells$Plan" ({ cls := "SoundWells$Plan", name := "withMeasure", desc := "(II)LSoundWells$Plan;" } : Jvm.MethodName) ({ cls := "SoundWells$Plan", name := "withMeasure", desc := "(II)LSoundWells$Plan;" } : Jvm.MethodName)) ∈ TB := List.mem_filter.mpr ⟨List.mem_append_right _ (List.mem_of_getElem? (i := 367) (by decide +kernel)), (by decide +kernel)⟩
theorem tb_368 : (Jvm.Cond.code ({ cls := "SoundWells$Plan", name := "withMeasure", desc := "(II)LSoundWells$Plan;" } : Jvm.MethodName) prog_5_method_8_code (3 : Nat) (Option.some (Jvm.ClassFile.FieldType.object "SoundWells$Plan"))) ∈ TB := List.mem_filter.mpr ⟨List.mem_append_right _ (List.mem_of_getElem? (i := 368) (by decide +kernel)), (by decide +kernel)⟩
theorem tb_369 : (Jvm.Cond.methodLink "SoundWellsLaw" (41 : Nat) ({ cls := "SoundWells", name := "take", desc := "(I)I" } : Jvm.MethodName)) ∈ TB := List.mem_filter.mpr ⟨List.mem_append_right _ (List.mem_of_getElem? (i := 369) (by decide +kernel)), (by decide +kernel)⟩
theorem tb_370 : (Jvm.Cond.instanceMethod ({ cls := "SoundWells", name := "take", desc := "(I)I" } : Jvm.MethodName)) ∈ TB := List.mem_filter.mpr ⟨List.mem_append_right _ (List.mem_of_getElem? (i := 370) (by decide +kernel)), (by decide +kernel)⟩
theorem tb_371 : (Jvm.Cond.selects "SoundWells" ({ cls := "SoundWells", name := "take", desc := "(I)I" } : Jvm.MethodName) ({ cls := "SoundWells", name := "take", desc := "(I)I" } : Jvm.MethodName)) ∈ TB := List.mem_filter.mpr ⟨List.mem_append_right _ (List.mem_of_getElem? (i := 371) (by decide +kernel)), (by decide +kernel)⟩
theorem tb_372 : (Jvm.Cond.code ({ cls := "SoundWells", name := "take", desc := "(I)I" } : Jvm.MethodName) prog_1_method_8_code (2 : Nat) (Option.some Jvm.ClassFile.FieldType.int)) ∈ TB := List.mem_filter.mpr ⟨List.mem_append_right _ (List.mem_of_getElem? (i := 372) (by decide +kernel)), (by decide +kernel)⟩
theorem tb_373 : (Jvm.Cond.methodLink "SoundWells" (96 : Nat) ({ cls := "SoundWells$Plan", name := "withoutPanel", desc := "(I)LSoundWells$Plan;" } : Jvm.MethodName)) ∈ TB := List.mem_filter.mpr ⟨List.mem_append_right _ (List.mem_of_getElem? (i := 373) (by decide +kernel)), (by decide +kernel)⟩
theorem tb_374 : (Jvm.Cond.instanceMethod ({ cls := "SoundWells$Plan", name := "withoutPanel", desc := "(I)LSoundWells$Plan;" } : Jvm.MethodName)) ∈ TB := List.mem_filter.mpr ⟨List.mem_append_right _ (List.mem_of_getElem? (i := 374) (by decide +kernel)), (by decide +kernel)⟩
theorem tb_375 : (Jvm.Cond.selects "SoundWells$Plan" ({ cls := "SoundWells$Plan", name := "withoutPanel", desc := "(I)LSoundWells$Plan;" } : Jvm.MethodName) ({ cls := "SoundWells$Plan", name := "withoutPanel", desc := "(I)LSoundWells$Plan;" } : Jvm.MethodName)) ∈ TB := List.mem_filter.mpr ⟨List.mem_append_right _ (List.mem_of_getElem? (i := 375) (by decide +kernel)), (by decide +kernel)⟩
theorem tb_376 : (Jvm.Cond.code ({ cls := "SoundWells$Plan", name := "withoutPanel", desc := "(I)LSoundWells$Plan;" } : Jvm.MethodName) prog_5_method_5_code (4 : Nat) (Option.some (Jvm.ClassFile.FieldType.object "SoundWells$Plan"))) ∈ TB := List.mem_filter.mpr ⟨List.mem_append_right _ (List.mem_of_getElem? (i := 376) (by decide +kernel)), (by decide +kernel)⟩
theorem tb_377 : (Jvm.Cond.classLink "SoundWells$Plan" (24 : Nat) "SoundWells$Panel") ∈ TB := List.mem_filter.mpr ⟨List.mem_append_right _ (List.mem_of_getElem? (i := 377) (by decide +kernel)), (by decide +kernel)⟩
theorem tb_378 : (Jvm.Cond.methodLink "SoundWellsLaw" (45 : Nat) ({ cls := "SoundWells", name := "undo", desc := "()I" } : Jvm.MethodName)) ∈ TB := List.mem_filter.mpr ⟨List.mem_append_right _ (List.mem_of_getElem? (i := 378) (by decide +kernel)), (by decide +kernel)⟩
theorem tb_379 : (Jvm.Cond.instanceMethod ({ cls := "SoundWells", name := "undo", desc := "()I" } : Jvm.MethodName)) ∈ TB := List.mem_filter.mpr ⟨List.mem_append_right _ (List.mem_of_getElem? (i := 379) (by decide +kernel)), (by decide +kernel)⟩
theorem tb_380 : (Jvm.Cond.selects "SoundWells" ({ cls := "SoundWells", name := "undo", desc := "()I" } : Jvm.MethodName) ({ cls := "SoundWells", name := "undo", desc := "()I" } : Jvm.MethodName)) ∈ TB := List.mem_filter.mpr ⟨List.mem_append_right _ (List.mem_of_getElem? (i := 380) (by decide +kernel)), (by decide +kernel)⟩
theorem tb_381 : (Jvm.Cond.code ({ cls := "SoundWells", name := "undo", desc := "()I" } : Jvm.MethodName) prog_1_method_9_code (2 : Nat) (Option.some Jvm.ClassFile.FieldType.int)) ∈ TB := List.mem_filter.mpr ⟨List.mem_append_right _ (List.mem_of_getElem? (i := 381) (by decide +kernel)), (by decide +kernel)⟩
theorem tb_382 : (Jvm.Cond.methodLink "SoundWells" (100 : Nat) ({ cls := "SoundWells$Past", name := "takeLatest", desc := "()LSoundWells$Plan;" } : Jvm.MethodName)) ∈ TB := List.mem_filter.mpr ⟨List.mem_append_right _ (List.mem_of_getElem? (i := 382) (by decide +kernel)), (by decide +kernel)⟩
theorem tb_383 : (Jvm.Cond.instanceMethod ({ cls := "SoundWells$Past", name := "takeLatest", desc := "()LSoundWells$Plan;" } : Jvm.MethodName)) ∈ TB := List.mem_filter.mpr ⟨List.mem_append_right _ (List.mem_of_getElem? (i := 383) (by decide +kernel)), (by decide +kernel)⟩
theorem tb_384 : (Jvm.Cond.selects "SoundWells$Past" ({ cls := "SoundWells$Past", name := "takeLatest", desc := "()LSoundWells$Plan;" } : Jvm.MethodName) ({ cls := "SoundWells$Past", name := "takeLatest", desc := "()LSoundWells$Plan;" } : Jvm.MethodName)) ∈ TB := List.mem_filter.mpr ⟨List.mem_append_right _ (List.mem_of_getElem? (i := 384) (by decide +kernel)), (by decide +kernel)⟩
theorem tb_385 : (Jvm.Cond.code ({ cls := "SoundWells$Past", name := "takeLatest", desc := "()LSoundWells$Plan;" } : Jvm.MethodName) prog_4_method_4_code (2 : Nat) (Option.some (Jvm.ClassFile.FieldType.object "SoundWells$Plan"))) ∈ TB := List.mem_filter.mpr ⟨List.mem_append_right _ (List.mem_of_getElem? (i := 385) (by decide +kernel)), (by decide +kernel)⟩
theorem tb_386 : (Jvm.Cond.methodLink "SoundWellsLaw" (49 : Nat) ({ cls := "SoundWells", name := "squares", desc := "(I)I" } : Jvm.MethodName)) ∈ TB := List.mem_filter.mpr ⟨List.mem_append_right _ (List.mem_of_getElem? (i := 386) (by decide +kernel)), (by decide +kernel)⟩
theorem tb_387 : (Jvm.Cond.instanceMethod ({ cls := "SoundWells", name := "squares", desc := "(I)I" } : Jvm.MethodName)) ∈ TB := List.mem_filter.mpr ⟨List.mem_append_right _ (List.mem_of_getElem? (i := 387) (by decide +kernel)), (by decide +kernel)⟩
theorem tb_388 : (Jvm.Cond.selects "SoundWells" ({ cls := "SoundWells", name := "squares", desc := "(I)I" } : Jvm.MethodName) ({ cls := "SoundWells", name := "squares", desc := "(I)I" } : Jvm.MethodName)) ∈ TB := List.mem_filter.mpr ⟨List.mem_append_right _ (List.mem_of_getElem? (i := 388) (by decide +kernel)), (by decide +kernel)⟩
theorem tb_389 : (Jvm.Cond.code ({ cls := "SoundWells", name := "squares", desc := "(I)I" } : Jvm.MethodName) prog_1_method_11_code (2 : Nat) (Option.some Jvm.ClassFile.FieldType.int)) ∈ TB := List.mem_filter.mpr ⟨List.mem_append_right _ (List.mem_of_getElem? (i := 389) (by decide +kernel)), (by decide +kernel)⟩
theorem tb_390 : (Jvm.Cond.methodLink "SoundWells" (109 : Nat) ({ cls := "SoundWells$Numbers", name := "isPrime", desc := "(I)Z" } : Jvm.MethodName)) ∈ TB := List.mem_filter.mpr ⟨List.mem_append_right _ (List.mem_of_getElem? (i := 390) (by decide +kernel)), (by decide +kernel)⟩
theorem tb_391 : (Jvm.Cond.methodLink "SoundWells" (115 : Nat) ({ cls := "SoundWells$Numbers", name := "squareBits", desc := "(I)I" } : Jvm.MethodName)) ∈ TB := List.mem_filter.mpr ⟨List.mem_append_right _ (List.mem_of_getElem? (i := 391) (by decide +kernel)), (by decide +kernel)⟩
theorem tb_392 : (Jvm.Cond.methodLink "SoundWellsLaw" (53 : Nat) ({ cls := "SoundWells", name := "sign", desc := "(II)I" } : Jvm.MethodName)) ∈ TB := List.mem_filter.mpr ⟨List.mem_append_right _ (List.mem_of_getElem? (i := 392) (by decide +kernel)), (by decide +kernel)⟩
theorem tb_393 : (Jvm.Cond.instanceMethod ({ cls := "SoundWells", name := "sign", desc := "(II)I" } : Jvm.MethodName)) ∈ TB := List.mem_filter.mpr ⟨List.mem_append_right _ (List.mem_of_getElem? (i := 393) (by decide +kernel)), (by decide +kernel)⟩
theorem tb_394 : (Jvm.Cond.selects "SoundWells" ({ cls := "SoundWells", name := "sign", desc := "(II)I" } : Jvm.MethodName) ({ cls := "SoundWells", name := "sign", desc := "(II)I" } : Jvm.MethodName)) ∈ TB := List.mem_filter.mpr ⟨List.mem_append_right _ (List.mem_of_getElem? (i := 394) (by decide +kernel)), (by decide +kernel)⟩
theorem tb_395 : (Jvm.Cond.code ({ cls := "SoundWells", name := "sign", desc := "(II)I" } : Jvm.MethodName) prog_1_method_12_code (3 : Nat) (Option.some Jvm.ClassFile.FieldType.int)) ∈ TB := List.mem_filter.mpr ⟨List.mem_append_right _ (List.mem_of_getElem? (i := 395) (by decide +kernel)), (by decide +kernel)⟩
theorem tb_396 : (Jvm.Cond.methodLink "SoundWells" (118 : Nat) ({ cls := "SoundWells$Numbers", name := "signOf", desc := "(II)I" } : Jvm.MethodName)) ∈ TB := List.mem_filter.mpr ⟨List.mem_append_right _ (List.mem_of_getElem? (i := 396) (by decide +kernel)), (by decide +kernel)⟩
theorem tb_397 : (Jvm.Cond.static ({ cls := "SoundWells$Numbers", name := "signOf", desc := "(II)I" } : Jvm.MethodName)) ∈ TB := List.mem_filter.mpr ⟨List.mem_append_right _ (List.mem_of_getElem? (i := 397) (by decide +kernel)), (by decide +kernel)⟩
theorem tb_398 : (Jvm.Cond.code ({ cls := "SoundWells$Numbers", name := "signOf", desc := "(II)I" } : Jvm.MethodName) prog_2_method_6_code (3 : Nat) (Option.some Jvm.ClassFile.FieldType.int)) ∈ TB := List.mem_filter.mpr ⟨List.mem_append_right _ (List.mem_of_getElem? (i := 398) (by decide +kernel)), (by decide +kernel)⟩
theorem tb_399 : (Jvm.Cond.methodLink "SoundWells$Numbers" (13 : Nat) ({ cls := "SoundWells$Numbers", name := "rest", desc := "(II)I" } : Jvm.MethodName)) ∈ TB := List.mem_filter.mpr ⟨List.mem_append_right _ (List.mem_of_getElem? (i := 399) (by decide +kernel)), (by decide +kernel)⟩
theorem tb_400 : (Jvm.Cond.methodLink "SoundWells$Numbers" (19 : Nat) ({ cls := "SoundWells$Numbers", name := "squareBits", desc := "(I)I" } : Jvm.MethodName)) ∈ TB := List.mem_filter.mpr ⟨List.mem_append_right _ (List.mem_of_getElem? (i := 400) (by decide +kernel)), (by decide +kernel)⟩
theorem tb_401 : (Jvm.Cond.methodLink "SoundWellsLaw" (57 : Nat) ({ cls := "SoundWells", name := "root", desc := "(II)I" } : Jvm.MethodName)) ∈ TB := List.mem_filter.mpr ⟨List.mem_append_right _ (List.mem_of_getElem? (i := 401) (by decide +kernel)), (by decide +kernel)⟩
theorem tb_402 : (Jvm.Cond.instanceMethod ({ cls := "SoundWells", name := "root", desc := "(II)I" } : Jvm.MethodName)) ∈ TB := List.mem_filter.mpr ⟨List.mem_append_right _ (List.mem_of_getElem? (i := 402) (by decide +kernel)), (by decide +kernel)⟩
theorem tb_403 : (Jvm.Cond.selects "SoundWells" ({ cls := "SoundWells", name := "root", desc := "(II)I" } : Jvm.MethodName) ({ cls := "SoundWells", name := "root", desc := "(II)I" } : Jvm.MethodName)) ∈ TB := List.mem_filter.mpr ⟨List.mem_append_right _ (List.mem_of_getElem? (i := 403) (by decide +kernel)), (by decide +kernel)⟩
theorem tb_404 : (Jvm.Cond.code ({ cls := "SoundWells", name := "root", desc := "(II)I" } : Jvm.MethodName) prog_1_method_13_code (3 : Nat) (Option.some Jvm.ClassFile.FieldType.int)) ∈ TB := List.mem_filter.mpr ⟨List.mem_append_right _ (List.mem_of_getElem? (i := 404) (by decide +kernel)), (by decide +kernel)⟩
theorem tb_405 : (Jvm.Cond.methodLink "SoundWells" (122 : Nat) ({ cls := "SoundWells$Numbers", name := "lowestRoot", desc := "(I)I" } : Jvm.MethodName)) ∈ TB := List.mem_filter.mpr ⟨List.mem_append_right _ (List.mem_of_getElem? (i := 405) (by decide +kernel)), (by decide +kernel)⟩
theorem tb_406 : (Jvm.Cond.static ({ cls := "SoundWells$Numbers", name := "lowestRoot", desc := "(I)I" } : Jvm.MethodName)) ∈ TB := List.mem_filter.mpr ⟨List.mem_append_right _ (List.mem_of_getElem? (i := 406) (by decide +kernel)), (by decide +kernel)⟩
theorem tb_407 : (Jvm.Cond.code ({ cls := "SoundWells$Numbers", name := "lowestRoot", desc := "(I)I" } : Jvm.MethodName) prog_2_method_8_code (2 : Nat) (Option.some Jvm.ClassFile.FieldType.int)) ∈ TB := List.mem_filter.mpr ⟨List.mem_append_right _ (List.mem_of_getElem? (i := 407) (by decide +kernel)), (by decide +kernel)⟩
theorem tb_408 : (Jvm.Cond.methodLink "SoundWells$Numbers" (23 : Nat) ({ cls := "SoundWells$Numbers", name := "isRoot", desc := "(II)Z" } : Jvm.MethodName)) ∈ TB := List.mem_filter.mpr ⟨List.mem_append_right _ (List.mem_of_getElem? (i := 408) (by decide +kernel)), (by decide +kernel)⟩
theorem tb_409 : (Jvm.Cond.methodLink "SoundWells" (125 : Nat) ({ cls := "SoundWells$Numbers", name := "rootCount", desc := "(I)I" } : Jvm.MethodName)) ∈ TB := List.mem_filter.mpr ⟨List.mem_append_right _ (List.mem_of_getElem? (i := 409) (by decide +kernel)), (by decide +kernel)⟩
theorem tb_410 : (Jvm.Cond.static ({ cls := "SoundWells$Numbers", name := "rootCount", desc := "(I)I" } : Jvm.MethodName)) ∈ TB := List.mem_filter.mpr ⟨List.mem_append_right _ (List.mem_of_getElem? (i := 410) (by decide +kernel)), (by decide +kernel)⟩
theorem tb_411 : (Jvm.Cond.code ({ cls := "SoundWells$Numbers", name := "rootCount", desc := "(I)I" } : Jvm.MethodName) prog_2_method_9_code (3 : Nat) (Option.some Jvm.ClassFile.FieldType.int)) ∈ TB := List.mem_filter.mpr ⟨List.mem_append_right _ (List.mem_of_getElem? (i := 411) (by decide +kernel)), (by decide +kernel)⟩
theorem tb_412 : (Jvm.Cond.methodLink "SoundWellsLaw" (61 : Nat) ({ cls := "SoundWells", name := "law", desc := "(II)I" } : Jvm.MethodName)) ∈ TB := List.mem_filter.mpr ⟨List.mem_append_right _ (List.mem_of_getElem? (i := 412) (by decide +kernel)), (by decide +kernel)⟩
theorem tb_413 : (Jvm.Cond.instanceMethod ({ cls := "SoundWells", name := "law", desc := "(II)I" } : Jvm.MethodName)) ∈ TB := List.mem_filter.mpr ⟨List.mem_append_right _ (List.mem_of_getElem? (i := 413) (by decide +kernel)), (by decide +kernel)⟩
theorem tb_414 : (Jvm.Cond.selects "SoundWells" ({ cls := "SoundWells", name := "law", desc := "(II)I" } : Jvm.MethodName) ({ cls := "SoundWells", name := "law", desc := "(II)I" } : Jvm.MethodName)) ∈ TB := List.mem_filter.mpr ⟨List.mem_append_right _ (List.mem_of_getElem? (i := 414) (by decide +kernel)), (by decide +kernel)⟩
theorem tb_415 : (Jvm.Cond.code ({ cls := "SoundWells", name := "law", desc := "(II)I" } : Jvm.MethodName) prog_1_method_14_code (3 : Nat) (Option.some Jvm.ClassFile.FieldType.int)) ∈ TB := List.mem_filter.mpr ⟨List.mem_append_right _ (List.mem_of_getElem? (i := 415) (by decide +kernel)), (by decide +kernel)⟩
theorem tb_416 : (Jvm.Cond.methodLink "SoundWellsLaw" (65 : Nat) ({ cls := "SoundWells", name := "panel", desc := "(II)I" } : Jvm.MethodName)) ∈ TB := List.mem_filter.mpr ⟨List.mem_append_right _ (List.mem_of_getElem? (i := 416) (by decide +kernel)), (by decide +kernel)⟩
theorem tb_417 : (Jvm.Cond.instanceMethod ({ cls := "SoundWells", name := "panel", desc := "(II)I" } : Jvm.MethodName)) ∈ TB := List.mem_filter.mpr ⟨List.mem_append_right _ (List.mem_of_getElem? (i := 417) (by decide +kernel)), (by decide +kernel)⟩
theorem tb_418 : (Jvm.Cond.selects "SoundWells" ({ cls := "SoundWells", name := "panel", desc := "(II)I" } : Jvm.MethodName) ({ cls := "SoundWells", name := "panel", desc := "(II)I" } : Jvm.MethodName)) ∈ TB := List.mem_filter.mpr ⟨List.mem_append_right _ (List.mem_of_getElem? (i := 418) (by decide +kernel)), (by decide +kernel)⟩
theorem tb_419 : (Jvm.Cond.code ({ cls := "SoundWells", name := "panel", desc := "(II)I" } : Jvm.MethodName) prog_1_method_15_code (4 : Nat) (Option.some Jvm.ClassFile.FieldType.int)) ∈ TB := List.mem_filter.mpr ⟨List.mem_append_right _ (List.mem_of_getElem? (i := 419) (by decide +kernel)), (by decide +kernel)⟩
theorem tb_420 : (Jvm.Cond.methodLink "SoundWells" (146 : Nat) ({ cls := "SoundWells$Panel", name := "greatestDepth", desc := "()I" } : Jvm.MethodName)) ∈ TB := List.mem_filter.mpr ⟨List.mem_append_right _ (List.mem_of_getElem? (i := 420) (by decide +kernel)), (by decide +kernel)⟩
theorem tb_421 : (Jvm.Cond.instanceMethod ({ cls := "SoundWells$Panel", name := "greatestDepth", desc := "()I" } : Jvm.MethodName)) ∈ TB := List.mem_filter.mpr ⟨List.mem_append_right _ (List.mem_of_getElem? (i := 421) (by decide +kernel)), (by decide +kernel)⟩
theorem tb_422 : (Jvm.Cond.selects "SoundWells$Panel" ({ cls := "SoundWells$Panel", name := "greatestDepth", desc := "()I" } : Jvm.MethodName) ({ cls := "SoundWells$Panel", name := "greatestDepth", desc := "()I" } : Jvm.MethodName)) ∈ TB := List.mem_filter.mpr ⟨List.mem_append_right _ (List.mem_of_getElem? (i := 422) (by decide +kernel)), (by decide +kernel)⟩
theorem tb_423 : (Jvm.Cond.code ({ cls := "SoundWells$Panel", name := "greatestDepth", desc := "()I" } : Jvm.MethodName) prog_3_method_13_code (3 : Nat) (Option.some Jvm.ClassFile.FieldType.int)) ∈ TB := List.mem_filter.mpr ⟨List.mem_append_right _ (List.mem_of_getElem? (i := 423) (by decide +kernel)), (by decide +kernel)⟩
theorem tb_424 : (Jvm.Cond.methodLink "SoundWells$Panel" (69 : Nat) ({ cls := "SoundWells$Panel", name := "wellDepth", desc := "(I)I" } : Jvm.MethodName)) ∈ TB := List.mem_filter.mpr ⟨List.mem_append_right _ (List.mem_of_getElem? (i := 424) (by decide +kernel)), (by decide +kernel)⟩
theorem tb_425 : (Jvm.Cond.instanceMethod ({ cls := "SoundWells$Panel", name := "wellDepth", desc := "(I)I" } : Jvm.MethodName)) ∈ TB := List.mem_filter.mpr ⟨List.mem_append_right _ (List.mem_of_getElem? (i := 425) (by decide +kernel)), (by decide +kernel)⟩
theorem tb_426 : (Jvm.Cond.selects "SoundWells$Panel" ({ cls := "SoundWells$Panel", name := "wellDepth", desc := "(I)I" } : Jvm.MethodName) ({ cls := "SoundWells$Panel", name := "wellDepth", desc := "(I)I" } : Jvm.MethodName)) ∈ TB := List.mem_filter.mpr ⟨List.mem_append_right _ (List.mem_of_getElem? (i := 426) (by decide +kernel)), (by decide +kernel)⟩
theorem tb_427 : (Jvm.Cond.code ({ cls := "SoundWells$Panel", name := "wellDepth", desc := "(I)I" } : Jvm.MethodName) prog_3_method_12_code (2 : Nat) (Option.some Jvm.ClassFile.FieldType.int)) ∈ TB := List.mem_filter.mpr ⟨List.mem_append_right _ (List.mem_of_getElem? (i := 427) (by decide +kernel)), (by decide +kernel)⟩
theorem tb_428 : (Jvm.Cond.methodLink "SoundWells$Panel" (66 : Nat) ({ cls := "SoundWells$Panel", name := "depthAt", desc := "(I)I" } : Jvm.MethodName)) ∈ TB := List.mem_filter.mpr ⟨List.mem_append_right _ (List.mem_of_getElem? (i := 428) (by decide +kernel)), (by decide +kernel)⟩
theorem tb_429 : (Jvm.Cond.instanceMethod ({ cls := "SoundWells$Panel", name := "depthAt", desc := "(I)I" } : Jvm.MethodName)) ∈ TB := List.mem_filter.mpr ⟨List.mem_append_right _ (List.mem_of_getElem? (i := 429) (by decide +kernel)), (by decide +kernel)⟩
theorem tb_430 : (Jvm.Cond.selects "SoundWells$Panel" ({ cls := "SoundWells$Panel", name := "depthAt", desc := "(I)I" } : Jvm.MethodName) ({ cls := "SoundWells$Panel", name := "depthAt", desc := "(I)I" } : Jvm.MethodName)) ∈ TB := List.mem_filter.mpr ⟨List.mem_append_right _ (List.mem_of_getElem? (i := 430) (by decide +kernel)), (by decide +kernel)⟩
theorem tb_431 : (Jvm.Cond.code ({ cls := "SoundWells$Panel", name := "depthAt", desc := "(I)I" } : Jvm.MethodName) prog_3_method_11_code (3 : Nat) (Option.some Jvm.ClassFile.FieldType.int)) ∈ TB := List.mem_filter.mpr ⟨List.mem_append_right _ (List.mem_of_getElem? (i := 431) (by decide +kernel)), (by decide +kernel)⟩
theorem tb_432 : (Jvm.Cond.methodLink "SoundWells$Panel" (72 : Nat) ({ cls := "java/lang/Math", name := "max", desc := "(II)I" } : Jvm.MethodName)) ∈ TB := List.mem_filter.mpr ⟨List.mem_append_right _ (List.mem_of_getElem? (i := 432) (by decide +kernel)), (by decide +kernel)⟩
theorem tb_433 : (Jvm.Cond.methodLink "SoundWells" (150 : Nat) ({ cls := "SoundWells$Panel", name := "depthsTogether", desc := "()I" } : Jvm.MethodName)) ∈ TB := List.mem_filter.mpr ⟨List.mem_append_right _ (List.mem_of_getElem? (i := 433) (by decide +kernel)), (by decide +kernel)⟩
theorem tb_434 : (Jvm.Cond.instanceMethod ({ cls := "SoundWells$Panel", name := "depthsTogether", desc := "()I" } : Jvm.MethodName)) ∈ TB := List.mem_filter.mpr ⟨List.mem_append_right _ (List.mem_of_getElem? (i := 434) (by decide +kernel)), (by decide +kernel)⟩
theorem tb_435 : (Jvm.Cond.selects "SoundWells$Panel" ({ cls := "SoundWells$Panel", name := "depthsTogether", desc := "()I" } : Jvm.MethodName) ({ cls := "SoundWells$Panel", name := "depthsTogether", desc := "()I" } : Jvm.MethodName)) ∈ TB := List.mem_filter.mpr ⟨List.mem_append_right _ (List.mem_of_getElem? (i := 435) (by decide +kernel)), (by decide +kernel)⟩
theorem tb_436 : (Jvm.Cond.code ({ cls := "SoundWells$Panel", name := "depthsTogether", desc := "()I" } : Jvm.MethodName) prog_3_method_14_code (3 : Nat) (Option.some Jvm.ClassFile.FieldType.int)) ∈ TB := List.mem_filter.mpr ⟨List.mem_append_right _ (List.mem_of_getElem? (i := 436) (by decide +kernel)), (by decide +kernel)⟩
theorem tb_437 : (Jvm.Cond.methodLink "SoundWells" (153 : Nat) ({ cls := "SoundWells$Panel", name := "unlikeDepths", desc := "()I" } : Jvm.MethodName)) ∈ TB := List.mem_filter.mpr ⟨List.mem_append_right _ (List.mem_of_getElem? (i := 437) (by decide +kernel)), (by decide +kernel)⟩
theorem tb_438 : (Jvm.Cond.instanceMethod ({ cls := "SoundWells$Panel", name := "unlikeDepths", desc := "()I" } : Jvm.MethodName)) ∈ TB := List.mem_filter.mpr ⟨List.mem_append_right _ (List.mem_of_getElem? (i := 438) (by decide +kernel)), (by decide +kernel)⟩
theorem tb_439 : (Jvm.Cond.selects "SoundWells$Panel" ({ cls := "SoundWells$Panel", name := "unlikeDepths", desc := "()I" } : Jvm.MethodName) ({ cls := "SoundWells$Panel", name := "unlikeDepths", desc := "()I" } : Jvm.MethodName)) ∈ TB := List.mem_filter.mpr ⟨List.mem_append_right _ (List.mem_of_getElem? (i := 439) (by decide +kernel)), (by decide +kernel)⟩
theorem tb_440 : (Jvm.Cond.code ({ cls := "SoundWells$Panel", name := "unlikeDepths", desc := "()I" } : Jvm.MethodName) prog_3_method_15_code (3 : Nat) (Option.some Jvm.ClassFile.FieldType.int)) ∈ TB := List.mem_filter.mpr ⟨List.mem_append_right _ (List.mem_of_getElem? (i := 440) (by decide +kernel)), (by decide +kernel)⟩
theorem tb_441 : (Jvm.Cond.methodLink "SoundWells$Panel" (77 : Nat) ({ cls := "java/lang/Integer", name := "bitCount", desc := "(I)I" } : Jvm.MethodName)) ∈ TB := List.mem_filter.mpr ⟨List.mem_append_right _ (List.mem_of_getElem? (i := 441) (by decide +kernel)), (by decide +kernel)⟩
theorem tb_442 : (Jvm.Cond.static ({ cls := "java/lang/Integer", name := "bitCount", desc := "(I)I" } : Jvm.MethodName)) ∈ TB := List.mem_filter.mpr ⟨List.mem_append_right _ (List.mem_of_getElem? (i := 442) (by decide +kernel)), (by decide +kernel)⟩
theorem tb_443 : (Jvm.Cond.code ({ cls := "java/lang/Integer", name := "bitCount", desc := "(I)I" } : Jvm.MethodName) prog_11_method_49_code (1 : Nat) (Option.some Jvm.ClassFile.FieldType.int)) ∈ TB := List.mem_filter.mpr ⟨List.mem_append_right _ (List.mem_of_getElem? (i := 443) (by decide +kernel)), (by decide +kernel)⟩
theorem tb_444 : (Jvm.Cond.constant "java/lang/Integer" (265 : Nat) (1431655765 : Int32)) ∈ TB := List.mem_filter.mpr ⟨List.mem_append_right _ (List.mem_of_getElem? (i := 444) (by decide +kernel)), (by decide +kernel)⟩
theorem tb_445 : (Jvm.Cond.constant "java/lang/Integer" (266 : Nat) (858993459 : Int32)) ∈ TB := List.mem_filter.mpr ⟨List.mem_append_right _ (List.mem_of_getElem? (i := 445) (by decide +kernel)), (by decide +kernel)⟩
theorem tb_446 : (Jvm.Cond.constant "java/lang/Integer" (267 : Nat) (252645135 : Int32)) ∈ TB := List.mem_filter.mpr ⟨List.mem_append_right _ (List.mem_of_getElem? (i := 446) (by decide +kernel)), (by decide +kernel)⟩
theorem tb_447 : (Jvm.Cond.methodLink "SoundWells" (156 : Nat) ({ cls := "SoundWells$Panel", name := "isMirrored", desc := "()Z" } : Jvm.MethodName)) ∈ TB := List.mem_filter.mpr ⟨List.mem_append_right _ (List.mem_of_getElem? (i := 447) (by decide +kernel)), (by decide +kernel)⟩
theorem tb_448 : (Jvm.Cond.instanceMethod ({ cls := "SoundWells$Panel", name := "isMirrored", desc := "()Z" } : Jvm.MethodName)) ∈ TB := List.mem_filter.mpr ⟨List.mem_append_right _ (List.mem_of_getElem? (i := 448) (by decide +kernel)), (by decide +kernel)⟩
theorem tb_449 : (Jvm.Cond.selects "SoundWells$Panel" ({ cls := "SoundWells$Panel", name := "isMirrored", desc := "()Z" } : Jvm.MethodName) ({ cls := "SoundWells$Panel", name := "isMirrored", desc := "()Z" } : Jvm.MethodName)) ∈ TB := List.mem_filter.mpr ⟨List.mem_append_right _ (List.mem_of_getElem? (i := 449) (by decide +kernel)), (by decide +kernel)⟩
theorem tb_450 : (Jvm.Cond.code ({ cls := "SoundWells$Panel", name := "isMirrored", desc := "()Z" } : Jvm.MethodName) prog_3_method_16_code (2 : Nat) (Option.some Jvm.ClassFile.FieldType.boolean)) ∈ TB := List.mem_filter.mpr ⟨List.mem_append_right _ (List.mem_of_getElem? (i := 450) (by decide +kernel)), (by decide +kernel)⟩
theorem tb_451 : (Jvm.Cond.methodLink "SoundWells" (160 : Nat) ({ cls := "SoundWells$Panel", name := "evenness", desc := "()I" } : Jvm.MethodName)) ∈ TB := List.mem_filter.mpr ⟨List.mem_append_right _ (List.mem_of_getElem? (i := 451) (by decide +kernel)), (by decide +kernel)⟩
theorem tb_452 : (Jvm.Cond.instanceMethod ({ cls := "SoundWells$Panel", name := "evenness", desc := "()I" } : Jvm.MethodName)) ∈ TB := List.mem_filter.mpr ⟨List.mem_append_right _ (List.mem_of_getElem? (i := 452) (by decide +kernel)), (by decide +kernel)⟩
theorem tb_453 : (Jvm.Cond.selects "SoundWells$Panel" ({ cls := "SoundWells$Panel", name := "evenness", desc := "()I" } : Jvm.MethodName) ({ cls := "SoundWells$Panel", name := "evenness", desc := "()I" } : Jvm.MethodName)) ∈ TB := List.mem_filter.mpr ⟨List.mem_append_right _ (List.mem_of_getElem? (i := 453) (by decide +kernel)), (by decide +kernel)⟩
theorem tb_454 : (Jvm.Cond.code ({ cls := "SoundWells$Panel", name := "evenness", desc := "()I" } : Jvm.MethodName) prog_3_method_19_code (7 : Nat) (Option.some Jvm.ClassFile.FieldType.int)) ∈ TB := List.mem_filter.mpr ⟨List.mem_append_right _ (List.mem_of_getElem? (i := 454) (by decide +kernel)), (by decide +kernel)⟩
theorem tb_455 : (Jvm.Cond.methodLink "SoundWells$Panel" (85 : Nat) ({ cls := "java/util/Arrays", name := "fill", desc := "([II)V" } : Jvm.MethodName)) ∈ TB := List.mem_filter.mpr ⟨List.mem_append_right _ (List.mem_of_getElem? (i := 455) (by decide +kernel)), (by decide +kernel)⟩
theorem tb_456 : (Jvm.Cond.static ({ cls := "java/util/Arrays", name := "fill", desc := "([II)V" } : Jvm.MethodName)) ∈ TB := List.mem_filter.mpr ⟨List.mem_append_right _ (List.mem_of_getElem? (i := 456) (by decide +kernel)), (by decide +kernel)⟩
theorem tb_457 : (Jvm.Cond.code ({ cls := "java/util/Arrays", name := "fill", desc := "([II)V" } : Jvm.MethodName) prog_13_method_103_code (4 : Nat) (Option.none : Option Jvm.ClassFile.FieldType)) ∈ TB := List.mem_filter.mpr ⟨List.mem_append_right _ (List.mem_of_getElem? (i := 457) (by decide +kernel)), (by decide +kernel)⟩
theorem tb_458 : (Jvm.Cond.methodLink "SoundWells$Panel" (82 : Nat) ({ cls := "SoundWells$Panel", name := "differenceAt", desc := "(II)I" } : Jvm.MethodName)) ∈ TB := List.mem_filter.mpr ⟨List.mem_append_right _ (List.mem_of_getElem? (i := 458) (by decide +kernel)), (by decide +kernel)⟩
theorem tb_460 : (Jvm.Cond.instanceMethod ({ cls := "SoundWells$Panel", name := "differenceAt", desc := "(II)I" } : Jvm.MethodName)) ∈ TB := List.mem_filter.mpr ⟨List.mem_append_right _ (List.mem_of_getElem? (i := 460) (by decide +kernel)), (by decide +kernel)⟩
theorem tb_461 : (Jvm.Cond.code ({ cls := "SoundWells$Panel", name := "differenceAt", desc := "(II)I" } : Jvm.MethodName) prog_3_method_17_code (3 : Nat) (Option.some Jvm.ClassFile.FieldType.int)) ∈ TB := List.mem_filter.mpr ⟨List.mem_append_right _ (List.mem_of_getElem? (i := 461) (by decide +kernel)), (by decide +kernel)⟩
theorem tb_462 : (Jvm.Cond.methodLink "SoundWells$Panel" (91 : Nat) ({ cls := "java/lang/Math", name := "min", desc := "(II)I" } : Jvm.MethodName)) ∈ TB := List.mem_filter.mpr ⟨List.mem_append_right _ (List.mem_of_getElem? (i := 462) (by decide +kernel)), (by decide +kernel)⟩
theorem tb_463 : (Jvm.Cond.methodLink "SoundWellsLaw" (69 : Nat) ({ cls := "SoundWells", name := "well", desc := "(II)I" } : Jvm.MethodName)) ∈ TB := List.mem_filter.mpr ⟨List.mem_append_right _ (List.mem_of_getElem? (i := 463) (by decide +kernel)), (by decide +kernel)⟩
theorem tb_464 : (Jvm.Cond.instanceMethod ({ cls := "SoundWells", name := "well", desc := "(II)I" } : Jvm.MethodName)) ∈ TB := List.mem_filter.mpr ⟨List.mem_append_right _ (List.mem_of_getElem? (i := 464) (by decide +kernel)), (by decide +kernel)⟩
theorem tb_465 : (Jvm.Cond.selects "SoundWells" ({ cls := "SoundWells", name := "well", desc := "(II)I" } : Jvm.MethodName) ({ cls := "SoundWells", name := "well", desc := "(II)I" } : Jvm.MethodName)) ∈ TB := List.mem_filter.mpr ⟨List.mem_append_right _ (List.mem_of_getElem? (i := 465) (by decide +kernel)), (by decide +kernel)⟩
theorem tb_466 : (Jvm.Cond.code ({ cls := "SoundWells", name := "well", desc := "(II)I" } : Jvm.MethodName) prog_1_method_16_code (4 : Nat) (Option.some Jvm.ClassFile.FieldType.int)) ∈ TB := List.mem_filter.mpr ⟨List.mem_append_right _ (List.mem_of_getElem? (i := 466) (by decide +kernel)), (by decide +kernel)⟩
theorem tb_467 : (Jvm.Cond.methodLink "SoundWells" (163 : Nat) ({ cls := "SoundWells$Panel", name := "hasWell", desc := "(I)Z" } : Jvm.MethodName)) ∈ TB := List.mem_filter.mpr ⟨List.mem_append_right _ (List.mem_of_getElem? (i := 467) (by decide +kernel)), (by decide +kernel)⟩
theorem tb_468 : (Jvm.Cond.instanceMethod ({ cls := "SoundWells$Panel", name := "hasWell", desc := "(I)Z" } : Jvm.MethodName)) ∈ TB := List.mem_filter.mpr ⟨List.mem_append_right _ (List.mem_of_getElem? (i := 468) (by decide +kernel)), (by decide +kernel)⟩
theorem tb_469 : (Jvm.Cond.selects "SoundWells$Panel" ({ cls := "SoundWells$Panel", name := "hasWell", desc := "(I)Z" } : Jvm.MethodName) ({ cls := "SoundWells$Panel", name := "hasWell", desc := "(I)Z" } : Jvm.MethodName)) ∈ TB := List.mem_filter.mpr ⟨List.mem_append_right _ (List.mem_of_getElem? (i := 469) (by decide +kernel)), (by decide +kernel)⟩
theorem tb_470 : (Jvm.Cond.code ({ cls := "SoundWells$Panel", name := "hasWell", desc := "(I)Z" } : Jvm.MethodName) prog_3_method_9_code (2 : Nat) (Option.some Jvm.ClassFile.FieldType.boolean)) ∈ TB := List.mem_filter.mpr ⟨List.mem_append_right _ (List.mem_of_getElem? (i := 470) (by decide +kernel)), (by decide +kernel)⟩
theorem tb_471 : (Jvm.Cond.methodLink "SoundWells" (166 : Nat) ({ cls := "SoundWells$Panel", name := "wellDepth", desc := "(I)I" } : Jvm.MethodName)) ∈ TB := List.mem_filter.mpr ⟨List.mem_append_right _ (List.mem_of_getElem? (i := 471) (by decide +kernel)), (by decide +kernel)⟩
theorem tb_472 : (Jvm.Cond.methodLink "SoundWellsLaw" (73 : Nat) ({ cls := "SoundWells", name := "counts", desc := "(III)I" } : Jvm.MethodName)) ∈ TB := List.mem_filter.mpr ⟨List.mem_append_right _ (List.mem_of_getElem? (i := 472) (by decide +kernel)), (by decide +kernel)⟩
theorem tb_473 : (Jvm.Cond.instanceMethod ({ cls := "SoundWells", name := "counts", desc := "(III)I" } : Jvm.MethodName)) ∈ TB := List.mem_filter.mpr ⟨List.mem_append_right _ (List.mem_of_getElem? (i := 473) (by decide +kernel)), (by decide +kernel)⟩
theorem tb_474 : (Jvm.Cond.selects "SoundWells" ({ cls := "SoundWells", name := "counts", desc := "(III)I" } : Jvm.MethodName) ({ cls := "SoundWells", name := "counts", desc := "(III)I" } : Jvm.MethodName)) ∈ TB := List.mem_filter.mpr ⟨List.mem_append_right _ (List.mem_of_getElem? (i := 474) (by decide +kernel)), (by decide +kernel)⟩
theorem tb_475 : (Jvm.Cond.code ({ cls := "SoundWells", name := "counts", desc := "(III)I" } : Jvm.MethodName) prog_1_method_17_code (5 : Nat) (Option.some Jvm.ClassFile.FieldType.int)) ∈ TB := List.mem_filter.mpr ⟨List.mem_append_right _ (List.mem_of_getElem? (i := 475) (by decide +kernel)), (by decide +kernel)⟩
theorem tb_476 : (Jvm.Cond.methodLink "SoundWells" (169 : Nat) ({ cls := "SoundWells$Panel", name := "isRest", desc := "(I)Z" } : Jvm.MethodName)) ∈ TB := List.mem_filter.mpr ⟨List.mem_append_right _ (List.mem_of_getElem? (i := 476) (by decide +kernel)), (by decide +kernel)⟩
theorem tb_477 : (Jvm.Cond.instanceMethod ({ cls := "SoundWells$Panel", name := "isRest", desc := "(I)Z" } : Jvm.MethodName)) ∈ TB := List.mem_filter.mpr ⟨List.mem_append_right _ (List.mem_of_getElem? (i := 477) (by decide +kernel)), (by decide +kernel)⟩
theorem tb_478 : (Jvm.Cond.selects "SoundWells$Panel" ({ cls := "SoundWells$Panel", name := "isRest", desc := "(I)Z" } : Jvm.MethodName) ({ cls := "SoundWells$Panel", name := "isRest", desc := "(I)Z" } : Jvm.MethodName)) ∈ TB := List.mem_filter.mpr ⟨List.mem_append_right _ (List.mem_of_getElem? (i := 478) (by decide +kernel)), (by decide +kernel)⟩
theorem tb_479 : (Jvm.Cond.code ({ cls := "SoundWells$Panel", name := "isRest", desc := "(I)Z" } : Jvm.MethodName) prog_3_method_10_code (2 : Nat) (Option.some Jvm.ClassFile.FieldType.boolean)) ∈ TB := List.mem_filter.mpr ⟨List.mem_append_right _ (List.mem_of_getElem? (i := 479) (by decide +kernel)), (by decide +kernel)⟩
theorem tb_480 : (Jvm.Cond.methodLink "SoundWells" (172 : Nat) ({ cls := "SoundWells$Panel", name := "countOf", desc := "(II)I" } : Jvm.MethodName)) ∈ TB := List.mem_filter.mpr ⟨List.mem_append_right _ (List.mem_of_getElem? (i := 480) (by decide +kernel)), (by decide +kernel)⟩
theorem tb_481 : (Jvm.Cond.instanceMethod ({ cls := "SoundWells$Panel", name := "countOf", desc := "(II)I" } : Jvm.MethodName)) ∈ TB := List.mem_filter.mpr ⟨List.mem_append_right _ (List.mem_of_getElem? (i := 481) (by decide +kernel)), (by decide +kernel)⟩
theorem tb_482 : (Jvm.Cond.selects "SoundWells$Panel" ({ cls := "SoundWells$Panel", name := "countOf", desc := "(II)I" } : Jvm.MethodName) ({ cls := "SoundWells$Panel", name := "countOf", desc := "(II)I" } : Jvm.MethodName)) ∈ TB := List.mem_filter.mpr ⟨List.mem_append_right _ (List.mem_of_getElem? (i := 482) (by decide +kernel)), (by decide +kernel)⟩
theorem tb_483 : (Jvm.Cond.code ({ cls := "SoundWells$Panel", name := "countOf", desc := "(II)I" } : Jvm.MethodName) prog_3_method_18_code (5 : Nat) (Option.some Jvm.ClassFile.FieldType.int)) ∈ TB := List.mem_filter.mpr ⟨List.mem_append_right _ (List.mem_of_getElem? (i := 483) (by decide +kernel)), (by decide +kernel)⟩
theorem tb_484 : (Jvm.Cond.methodLink "SoundWellsLaw" (77 : Nat) ({ cls := "SoundWells", name := "plane", desc := "(III)I" } : Jvm.MethodName)) ∈ TB := List.mem_filter.mpr ⟨List.mem_append_right _ (List.mem_of_getElem? (i := 484) (by decide +kernel)), (by decide +kernel)⟩
theorem tb_485 : (Jvm.Cond.instanceMethod ({ cls := "SoundWells", name := "plane", desc := "(III)I" } : Jvm.MethodName)) ∈ TB := List.mem_filter.mpr ⟨List.mem_append_right _ (List.mem_of_getElem? (i := 485) (by decide +kernel)), (by decide +kernel)⟩
theorem tb_486 : (Jvm.Cond.selects "SoundWells" ({ cls := "SoundWells", name := "plane", desc := "(III)I" } : Jvm.MethodName) ({ cls := "SoundWells", name := "plane", desc := "(III)I" } : Jvm.MethodName)) ∈ TB := List.mem_filter.mpr ⟨List.mem_append_right _ (List.mem_of_getElem? (i := 486) (by decide +kernel)), (by decide +kernel)⟩
theorem tb_487 : (Jvm.Cond.code ({ cls := "SoundWells", name := "plane", desc := "(III)I" } : Jvm.MethodName) prog_1_method_18_code (5 : Nat) (Option.some Jvm.ClassFile.FieldType.int)) ∈ TB := List.mem_filter.mpr ⟨List.mem_append_right _ (List.mem_of_getElem? (i := 487) (by decide +kernel)), (by decide +kernel)⟩
theorem tb_488 : (Jvm.Cond.methodLink "SoundWells" (175 : Nat) ({ cls := "SoundWells$Panel", name := "planeDepth", desc := "(II)I" } : Jvm.MethodName)) ∈ TB := List.mem_filter.mpr ⟨List.mem_append_right _ (List.mem_of_getElem? (i := 488) (by decide +kernel)), (by decide +kernel)⟩
theorem tb_489 : (Jvm.Cond.instanceMethod ({ cls := "SoundWells$Panel", name := "planeDepth", desc := "(II)I" } : Jvm.MethodName)) ∈ TB := List.mem_filter.mpr ⟨List.mem_append_right _ (List.mem_of_getElem? (i := 489) (by decide +kernel)), (by decide +kernel)⟩
theorem tb_490 : (Jvm.Cond.selects "SoundWells$Panel" ({ cls := "SoundWells$Panel", name := "planeDepth", desc := "(II)I" } : Jvm.MethodName) ({ cls := "SoundWells$Panel", name := "planeDepth", desc := "(II)I" } : Jvm.MethodName)) ∈ TB := List.mem_filter.mpr ⟨List.mem_append_right _ (List.mem_of_getElem? (i := 490) (by decide +kernel)), (by decide +kernel)⟩
theorem tb_491 : (Jvm.Cond.code ({ cls := "SoundWells$Panel", name := "planeDepth", desc := "(II)I" } : Jvm.MethodName) prog_3_method_20_code (3 : Nat) (Option.some Jvm.ClassFile.FieldType.int)) ∈ TB := List.mem_filter.mpr ⟨List.mem_append_right _ (List.mem_of_getElem? (i := 491) (by decide +kernel)), (by decide +kernel)⟩
theorem tb_492 : (Jvm.Cond.methodLink "SoundWellsLaw" (81 : Nat) ({ cls := "SoundWells", name := "planes", desc := "(II)I" } : Jvm.MethodName)) ∈ TB := List.mem_filter.mpr ⟨List.mem_append_right _ (List.mem_of_getElem? (i := 492) (by decide +kernel)), (by decide +kernel)⟩
theorem tb_493 : (Jvm.Cond.instanceMethod ({ cls := "SoundWells", name := "planes", desc := "(II)I" } : Jvm.MethodName)) ∈ TB := List.mem_filter.mpr ⟨List.mem_append_right _ (List.mem_of_getElem? (i := 493) (by decide +kernel)), (by decide +kernel)⟩
theorem tb_494 : (Jvm.Cond.selects "SoundWells" ({ cls := "SoundWells", name := "planes", desc := "(II)I" } : Jvm.MethodName) ({ cls := "SoundWells", name := "planes", desc := "(II)I" } : Jvm.MethodName)) ∈ TB := List.mem_filter.mpr ⟨List.mem_append_right _ (List.mem_of_getElem? (i := 494) (by decide +kernel)), (by decide +kernel)⟩
theorem tb_495 : (Jvm.Cond.code ({ cls := "SoundWells", name := "planes", desc := "(II)I" } : Jvm.MethodName) prog_1_method_19_code (4 : Nat) (Option.some Jvm.ClassFile.FieldType.int)) ∈ TB := List.mem_filter.mpr ⟨List.mem_append_right _ (List.mem_of_getElem? (i := 495) (by decide +kernel)), (by decide +kernel)⟩
theorem tb_496 : (Jvm.Cond.methodLink "SoundWells" (178 : Nat) ({ cls := "SoundWells$Panel", name := "planePlaces", desc := "(I)I" } : Jvm.MethodName)) ∈ TB := List.mem_filter.mpr ⟨List.mem_append_right _ (List.mem_of_getElem? (i := 496) (by decide +kernel)), (by decide +kernel)⟩
theorem tb_497 : (Jvm.Cond.instanceMethod ({ cls := "SoundWells$Panel", name := "planePlaces", desc := "(I)I" } : Jvm.MethodName)) ∈ TB := List.mem_filter.mpr ⟨List.mem_append_right _ (List.mem_of_getElem? (i := 497) (by decide +kernel)), (by decide +kernel)⟩
theorem tb_498 : (Jvm.Cond.selects "SoundWells$Panel" ({ cls := "SoundWells$Panel", name := "planePlaces", desc := "(I)I" } : Jvm.MethodName) ({ cls := "SoundWells$Panel", name := "planePlaces", desc := "(I)I" } : Jvm.MethodName)) ∈ TB := List.mem_filter.mpr ⟨List.mem_append_right _ (List.mem_of_getElem? (i := 498) (by decide +kernel)), (by decide +kernel)⟩
theorem tb_499 : (Jvm.Cond.code ({ cls := "SoundWells$Panel", name := "planePlaces", desc := "(I)I" } : Jvm.MethodName) prog_3_method_21_code (5 : Nat) (Option.some Jvm.ClassFile.FieldType.int)) ∈ TB := List.mem_filter.mpr ⟨List.mem_append_right _ (List.mem_of_getElem? (i := 499) (by decide +kernel)), (by decide +kernel)⟩
theorem tb_500 : (Jvm.Cond.methodLink "SoundWells$Panel" (94 : Nat) ({ cls := "SoundWells$Panel", name := "planeDepth", desc := "(II)I" } : Jvm.MethodName)) ∈ TB := List.mem_filter.mpr ⟨List.mem_append_right _ (List.mem_of_getElem? (i := 500) (by decide +kernel)), (by decide +kernel)⟩
theorem tb_501 : (Jvm.Cond.methodLink "SoundWellsLaw" (85 : Nat) ({ cls := "SoundWells", name := "cut", desc := "(I)I" } : Jvm.MethodName)) ∈ TB := List.mem_filter.mpr ⟨List.mem_append_right _ (List.mem_of_getElem? (i := 501) (by decide +kernel)), (by decide +kernel)⟩
theorem tb_502 : (Jvm.Cond.instanceMethod ({ cls := "SoundWells", name := "cut", desc := "(I)I" } : Jvm.MethodName)) ∈ TB := List.mem_filter.mpr ⟨List.mem_append_right _ (List.mem_of_getElem? (i := 502) (by decide +kernel)), (by decide +kernel)⟩
theorem tb_503 : (Jvm.Cond.selects "SoundWells" ({ cls := "SoundWells", name := "cut", desc := "(I)I" } : Jvm.MethodName) ({ cls := "SoundWells", name := "cut", desc := "(I)I" } : Jvm.MethodName)) ∈ TB := List.mem_filter.mpr ⟨List.mem_append_right _ (List.mem_of_getElem? (i := 503) (by decide +kernel)), (by decide +kernel)⟩
theorem tb_504 : (Jvm.Cond.code ({ cls := "SoundWells", name := "cut", desc := "(I)I" } : Jvm.MethodName) prog_1_method_20_code (2 : Nat) (Option.some Jvm.ClassFile.FieldType.int)) ∈ TB := List.mem_filter.mpr ⟨List.mem_append_right _ (List.mem_of_getElem? (i := 504) (by decide +kernel)), (by decide +kernel)⟩
theorem tb_505 : (Jvm.Cond.methodLink "SoundWells" (181 : Nat) ({ cls := "SoundWells$Saw", name := "cutAll", desc := "(LSoundWells$Plan;)V" } : Jvm.MethodName)) ∈ TB := List.mem_filter.mpr ⟨List.mem_append_right _ (List.mem_of_getElem? (i := 505) (by decide +kernel)), (by decide +kernel)⟩
theorem tb_506 : (Jvm.Cond.instanceMethod ({ cls := "SoundWells$Saw", name := "cutAll", desc := "(LSoundWells$Plan;)V" } : Jvm.MethodName)) ∈ TB := List.mem_filter.mpr ⟨List.mem_append_right _ (List.mem_of_getElem? (i := 506) (by decide +kernel)), (by decide +kernel)⟩
theorem tb_507 : (Jvm.Cond.selects "SoundWells$Saw" ({ cls := "SoundWells$Saw", name := "cutAll", desc := "(LSoundWells$Plan;)V" } : Jvm.MethodName) ({ cls := "SoundWells$Saw", name := "cutAll", desc := "(LSoundWells$Plan;)V" } : Jvm.MethodName)) ∈ TB := List.mem_filter.mpr ⟨List.mem_append_right _ (List.mem_of_getElem? (i := 507) (by decide +kernel)), (by decide +kernel)⟩
theorem tb_508 : (Jvm.Cond.code ({ cls := "SoundWells$Saw", name := "cutAll", desc := "(LSoundWells$Plan;)V" } : Jvm.MethodName) prog_7_method_2_code (2 : Nat) (Option.none : Option Jvm.ClassFile.FieldType)) ∈ TB := List.mem_filter.mpr ⟨List.mem_append_right _ (List.mem_of_getElem? (i := 508) (by decide +kernel)), (by decide +kernel)⟩
theorem tb_509 : (Jvm.Cond.methodLink "SoundWells$Saw" (30 : Nat) ({ cls := "SoundWells$Saw", name := "cutAllMoved", desc := "(LSoundWells$Plan;II)V" } : Jvm.MethodName)) ∈ TB := List.mem_filter.mpr ⟨List.mem_append_right _ (List.mem_of_getElem? (i := 509) (by decide +kernel)), (by decide +kernel)⟩
theorem tb_510 : (Jvm.Cond.instanceMethod ({ cls := "SoundWells$Saw", name := "cutAllMoved", desc := "(LSoundWells$Plan;II)V" } : Jvm.MethodName)) ∈ TB := List.mem_filter.mpr ⟨List.mem_append_right _ (List.mem_of_getElem? (i := 510) (by decide +kernel)), (by decide +kernel)⟩
theorem tb_511 : (Jvm.Cond.selects "SoundWells$Saw" ({ cls := "SoundWells$Saw", name := "cutAllMoved", desc := "(LSoundWells$Plan;II)V" } : Jvm.MethodName) ({ cls := "SoundWells$Saw", name := "cutAllMoved", desc := "(LSoundWells$Plan;II)V" } : Jvm.MethodName)) ∈ TB := List.mem_filter.mpr ⟨List.mem_append_right _ (List.mem_of_getElem? (i := 511) (by decide +kernel)), (by decide +kernel)⟩
theorem tb_512 : (Jvm.Cond.code ({ cls := "SoundWells$Saw", name := "cutAllMoved", desc := "(LSoundWells$Plan;II)V" } : Jvm.MethodName) prog_7_method_3_code (6 : Nat) (Option.none : Option Jvm.ClassFile.FieldType)) ∈ TB := List.mem_filter.mpr ⟨List.mem_append_right _ (List.mem_of_getElem? (i := 512) (by decide +kernel)), (by decide +kernel)⟩
theorem tb_513 : (Jvm.Cond.methodLink "SoundWells$Saw" (34 : Nat) ({ cls := "SoundWells$Saw", name := "start", desc := "(LSoundWells$Plan;)V" } : Jvm.MethodName)) ∈ TB := List.mem_filter.mpr ⟨List.mem_append_right _ (List.mem_of_getElem? (i := 513) (by decide +kernel)), (by decide +kernel)⟩
theorem tb_515 : (Jvm.Cond.instanceMethod ({ cls := "SoundWells$Saw", name := "start", desc := "(LSoundWells$Plan;)V" } : Jvm.MethodName)) ∈ TB := List.mem_filter.mpr ⟨List.mem_append_right _ (List.mem_of_getElem? (i := 515) (by decide +kernel)), (by decide +kernel)⟩
theorem tb_516 : (Jvm.Cond.code ({ cls := "SoundWells$Saw", name := "start", desc := "(LSoundWells$Plan;)V" } : Jvm.MethodName) prog_7_method_4_code (2 : Nat) (Option.none : Option Jvm.ClassFile.FieldType)) ∈ TB := List.mem_filter.mpr ⟨List.mem_append_right _ (List.mem_of_getElem? (i := 516) (by decide +kernel)), (by decide +kernel)⟩
theorem tb_517 : (Jvm.Cond.methodLink "SoundWells$Saw" (89 : Nat) ({ cls := "java/util/Arrays", name := "fill", desc := "([II)V" } : Jvm.MethodName)) ∈ TB := List.mem_filter.mpr ⟨List.mem_append_right _ (List.mem_of_getElem? (i := 517) (by decide +kernel)), (by decide +kernel)⟩
theorem tb_518 : (Jvm.Cond.methodLink "SoundWells$Saw" (44 : Nat) ({ cls := "SoundWells$Plan", name := "panelAt", desc := "(I)LSoundWells$Panel;" } : Jvm.MethodName)) ∈ TB := List.mem_filter.mpr ⟨List.mem_append_right _ (List.mem_of_getElem? (i := 518) (by decide +kernel)), (by decide +kernel)⟩
theorem tb_519 : (Jvm.Cond.methodLink "SoundWells$Saw" (54 : Nat) ({ cls := "SoundWells$Saw", name := "gather", desc := "(LSoundWells$Panel;I)V" } : Jvm.MethodName)) ∈ TB := List.mem_filter.mpr ⟨List.mem_append_right _ (List.mem_of_getElem? (i := 519) (by decide +kernel)), (by decide +kernel)⟩
theorem tb_521 : (Jvm.Cond.instanceMethod ({ cls := "SoundWells$Saw", name := "gather", desc := "(LSoundWells$Panel;I)V" } : Jvm.MethodName)) ∈ TB := List.mem_filter.mpr ⟨List.mem_append_right _ (List.mem_of_getElem? (i := 521) (by decide +kernel)), (by decide +kernel)⟩
theorem tb_522 : (Jvm.Cond.code ({ cls := "SoundWells$Saw", name := "gather", desc := "(LSoundWells$Panel;I)V" } : Jvm.MethodName) prog_7_method_5_code (5 : Nat) (Option.none : Option Jvm.ClassFile.FieldType)) ∈ TB := List.mem_filter.mpr ⟨List.mem_append_right _ (List.mem_of_getElem? (i := 522) (by decide +kernel)), (by decide +kernel)⟩
theorem tb_523 : (Jvm.Cond.methodLink "SoundWells$Saw" (96 : Nat) ({ cls := "SoundWells$Panel", name := "depthAt", desc := "(I)I" } : Jvm.MethodName)) ∈ TB := List.mem_filter.mpr ⟨List.mem_append_right _ (List.mem_of_getElem? (i := 523) (by decide +kernel)), (by decide +kernel)⟩
theorem tb_524 : (Jvm.Cond.methodLink "SoundWells$Saw" (67 : Nat) ({ cls := "SoundWells$Saw", name := "cutAlike", desc := "(II)V" } : Jvm.MethodName)) ∈ TB := List.mem_filter.mpr ⟨List.mem_append_right _ (List.mem_of_getElem? (i := 524) (by decide +kernel)), (by decide +kernel)⟩
theorem tb_526 : (Jvm.Cond.instanceMethod ({ cls := "SoundWells$Saw", name := "cutAlike", desc := "(II)V" } : Jvm.MethodName)) ∈ TB := List.mem_filter.mpr ⟨List.mem_append_right _ (List.mem_of_getElem? (i := 526) (by decide +kernel)), (by decide +kernel)⟩
theorem tb_527 : (Jvm.Cond.code ({ cls := "SoundWells$Saw", name := "cutAlike", desc := "(II)V" } : Jvm.MethodName) prog_7_method_6_code (5 : Nat) (Option.none : Option Jvm.ClassFile.FieldType)) ∈ TB := List.mem_filter.mpr ⟨List.mem_append_right _ (List.mem_of_getElem? (i := 527) (by decide +kernel)), (by decide +kernel)⟩
theorem tb_528 : (Jvm.Cond.methodLink "SoundWells$Saw" (100 : Nat) ({ cls := "SoundWells$Saw", name := "hasRoom", desc := "(II)Z" } : Jvm.MethodName)) ∈ TB := List.mem_filter.mpr ⟨List.mem_append_right _ (List.mem_of_getElem? (i := 528) (by decide +kernel)), (by decide +kernel)⟩
theorem tb_530 : (Jvm.Cond.instanceMethod ({ cls := "SoundWells$Saw", name := "hasRoom", desc := "(II)Z" } : Jvm.MethodName)) ∈ TB := List.mem_filter.mpr ⟨List.mem_append_right _ (List.mem_of_getElem? (i := 530) (by decide +kernel)), (by decide +kernel)⟩
theorem tb_531 : (Jvm.Cond.code ({ cls := "SoundWells$Saw", name := "hasRoom", desc := "(II)Z" } : Jvm.MethodName) prog_7_method_7_code (3 : Nat) (Option.some Jvm.ClassFile.FieldType.boolean)) ∈ TB := List.mem_filter.mpr ⟨List.mem_append_right _ (List.mem_of_getElem? (i := 531) (by decide +kernel)), (by decide +kernel)⟩
theorem tb_532 : (Jvm.Cond.methodLink "SoundWells$Saw" (104 : Nat) ({ cls := "SoundWells$Saw", name := "cutFrom", desc := "(II)V" } : Jvm.MethodName)) ∈ TB := List.mem_filter.mpr ⟨List.mem_append_right _ (List.mem_of_getElem? (i := 532) (by decide +kernel)), (by decide +kernel)⟩
theorem tb_534 : (Jvm.Cond.instanceMethod ({ cls := "SoundWells$Saw", name := "cutFrom", desc := "(II)V" } : Jvm.MethodName)) ∈ TB := List.mem_filter.mpr ⟨List.mem_append_right _ (List.mem_of_getElem? (i := 534) (by decide +kernel)), (by decide +kernel)⟩
theorem tb_535 : (Jvm.Cond.code ({ cls := "SoundWells$Saw", name := "cutFrom", desc := "(II)V" } : Jvm.MethodName) prog_7_method_8_code (3 : Nat) (Option.none : Option Jvm.ClassFile.FieldType)) ∈ TB := List.mem_filter.mpr ⟨List.mem_append_right _ (List.mem_of_getElem? (i := 535) (by decide +kernel)), (by decide +kernel)⟩
theorem tb_536 : (Jvm.Cond.methodLink "SoundWells" (199 : Nat) ({ cls := "SoundWells$Numbers", name := "roundedUp", desc := "(II)I" } : Jvm.MethodName)) ∈ TB := List.mem_filter.mpr ⟨List.mem_append_right _ (List.mem_of_getElem? (i := 536) (by decide +kernel)), (by decide +kernel)⟩
theorem tb_537 : (Jvm.Cond.static ({ cls := "SoundWells$Numbers", name := "roundedUp", desc := "(II)I" } : Jvm.MethodName)) ∈ TB := List.mem_filter.mpr ⟨List.mem_append_right _ (List.mem_of_getElem? (i := 537) (by decide +kernel)), (by decide +kernel)⟩
theorem tb_538 : (Jvm.Cond.code ({ cls := "SoundWells$Numbers", name := "roundedUp", desc := "(II)I" } : Jvm.MethodName) prog_2_method_4_code (2 : Nat) (Option.some Jvm.ClassFile.FieldType.int)) ∈ TB := List.mem_filter.mpr ⟨List.mem_append_right _ (List.mem_of_getElem? (i := 538) (by decide +kernel)), (by decide +kernel)⟩
theorem tb_539 : (Jvm.Cond.methodLink "SoundWellsLaw" (89 : Nat) ({ cls := "SoundWells", name := "board", desc := "(II)I" } : Jvm.MethodName)) ∈ TB := List.mem_filter.mpr ⟨List.mem_append_right _ (List.mem_of_getElem? (i := 539) (by decide +kernel)), (by decide +kernel)⟩
theorem tb_540 : (Jvm.Cond.instanceMethod ({ cls := "SoundWells", name := "board", desc := "(II)I" } : Jvm.MethodName)) ∈ TB := List.mem_filter.mpr ⟨List.mem_append_right _ (List.mem_of_getElem? (i := 540) (by decide +kernel)), (by decide +kernel)⟩
theorem tb_541 : (Jvm.Cond.selects "SoundWells" ({ cls := "SoundWells", name := "board", desc := "(II)I" } : Jvm.MethodName) ({ cls := "SoundWells", name := "board", desc := "(II)I" } : Jvm.MethodName)) ∈ TB := List.mem_filter.mpr ⟨List.mem_append_right _ (List.mem_of_getElem? (i := 541) (by decide +kernel)), (by decide +kernel)⟩
theorem tb_542 : (Jvm.Cond.code ({ cls := "SoundWells", name := "board", desc := "(II)I" } : Jvm.MethodName) prog_1_method_21_code (3 : Nat) (Option.some Jvm.ClassFile.FieldType.int)) ∈ TB := List.mem_filter.mpr ⟨List.mem_append_right _ (List.mem_of_getElem? (i := 542) (by decide +kernel)), (by decide +kernel)⟩
theorem tb_543 : (Jvm.Cond.methodLink "SoundWells" (206 : Nat) ({ cls := "SoundWells$Saw", name := "leftOf", desc := "(I)I" } : Jvm.MethodName)) ∈ TB := List.mem_filter.mpr ⟨List.mem_append_right _ (List.mem_of_getElem? (i := 543) (by decide +kernel)), (by decide +kernel)⟩
theorem tb_544 : (Jvm.Cond.instanceMethod ({ cls := "SoundWells$Saw", name := "leftOf", desc := "(I)I" } : Jvm.MethodName)) ∈ TB := List.mem_filter.mpr ⟨List.mem_append_right _ (List.mem_of_getElem? (i := 544) (by decide +kernel)), (by decide +kernel)⟩
theorem tb_545 : (Jvm.Cond.selects "SoundWells$Saw" ({ cls := "SoundWells$Saw", name := "leftOf", desc := "(I)I" } : Jvm.MethodName) ({ cls := "SoundWells$Saw", name := "leftOf", desc := "(I)I" } : Jvm.MethodName)) ∈ TB := List.mem_filter.mpr ⟨List.mem_append_right _ (List.mem_of_getElem? (i := 545) (by decide +kernel)), (by decide +kernel)⟩
theorem tb_546 : (Jvm.Cond.code ({ cls := "SoundWells$Saw", name := "leftOf", desc := "(I)I" } : Jvm.MethodName) prog_7_method_9_code (2 : Nat) (Option.some Jvm.ClassFile.FieldType.int)) ∈ TB := List.mem_filter.mpr ⟨List.mem_append_right _ (List.mem_of_getElem? (i := 546) (by decide +kernel)), (by decide +kernel)⟩
theorem tb_547 : (Jvm.Cond.methodLink "SoundWellsLaw" (93 : Nat) ({ cls := "SoundWells", name := "where", desc := "(II)I" } : Jvm.MethodName)) ∈ TB := List.mem_filter.mpr ⟨List.mem_append_right _ (List.mem_of_getElem? (i := 547) (by decide +kernel)), (by decide +kernel)⟩
theorem tb_548 : (Jvm.Cond.instanceMethod ({ cls := "SoundWells", name := "where", desc := "(II)I" } : Jvm.MethodName)) ∈ TB := List.mem_filter.mpr ⟨List.mem_append_right _ (List.mem_of_getElem? (i := 548) (by decide +kernel)), (by decide +kernel)⟩
theorem tb_549 : (Jvm.Cond.selects "SoundWells" ({ cls := "SoundWells", name := "where", desc := "(II)I" } : Jvm.MethodName) ({ cls := "SoundWells", name := "where", desc := "(II)I" } : Jvm.MethodName)) ∈ TB := List.mem_filter.mpr ⟨List.mem_append_right _ (List.mem_of_getElem? (i := 549) (by decide +kernel)), (by decide +kernel)⟩
theorem tb_550 : (Jvm.Cond.code ({ cls := "SoundWells", name := "where", desc := "(II)I" } : Jvm.MethodName) prog_1_method_22_code (4 : Nat) (Option.some Jvm.ClassFile.FieldType.int)) ∈ TB := List.mem_filter.mpr ⟨List.mem_append_right _ (List.mem_of_getElem? (i := 550) (by decide +kernel)), (by decide +kernel)⟩
theorem tb_551 : (Jvm.Cond.methodLink "SoundWells" (212 : Nat) ({ cls := "SoundWells$Plan", name := "wellsBefore", desc := "(I)I" } : Jvm.MethodName)) ∈ TB := List.mem_filter.mpr ⟨List.mem_append_right _ (List.mem_of_getElem? (i := 551) (by decide +kernel)), (by decide +kernel)⟩
theorem tb_552 : (Jvm.Cond.instanceMethod ({ cls := "SoundWells$Plan", name := "wellsBefore", desc := "(I)I" } : Jvm.MethodName)) ∈ TB := List.mem_filter.mpr ⟨List.mem_append_right _ (List.mem_of_getElem? (i := 552) (by decide +kernel)), (by decide +kernel)⟩
theorem tb_553 : (Jvm.Cond.selects "SoundWells$Plan" ({ cls := "SoundWells$Plan", name := "wellsBefore", desc := "(I)I" } : Jvm.MethodName) ({ cls := "SoundWells$Plan", name := "wellsBefore", desc := "(I)I" } : Jvm.MethodName)) ∈ TB := List.mem_filter.mpr ⟨List.mem_append_right _ (List.mem_of_getElem? (i := 553) (by decide +kernel)), (by decide +kernel)⟩
theorem tb_554 : (Jvm.Cond.code ({ cls := "SoundWells$Plan", name := "wellsBefore", desc := "(I)I" } : Jvm.MethodName) prog_5_method_3_code (5 : Nat) (Option.some Jvm.ClassFile.FieldType.int)) ∈ TB := List.mem_filter.mpr ⟨List.mem_append_right _ (List.mem_of_getElem? (i := 554) (by decide +kernel)), (by decide +kernel)⟩
theorem tb_555 : (Jvm.Cond.methodLink "SoundWells" (215 : Nat) ({ cls := "SoundWells$Saw", name := "boardOfWell", desc := "(I)I" } : Jvm.MethodName)) ∈ TB := List.mem_filter.mpr ⟨List.mem_append_right _ (List.mem_of_getElem? (i := 555) (by decide +kernel)), (by decide +kernel)⟩
theorem tb_556 : (Jvm.Cond.instanceMethod ({ cls := "SoundWells$Saw", name := "boardOfWell", desc := "(I)I" } : Jvm.MethodName)) ∈ TB := List.mem_filter.mpr ⟨List.mem_append_right _ (List.mem_of_getElem? (i := 556) (by decide +kernel)), (by decide +kernel)⟩
theorem tb_557 : (Jvm.Cond.selects "SoundWells$Saw" ({ cls := "SoundWells$Saw", name := "boardOfWell", desc := "(I)I" } : Jvm.MethodName) ({ cls := "SoundWells$Saw", name := "boardOfWell", desc := "(I)I" } : Jvm.MethodName)) ∈ TB := List.mem_filter.mpr ⟨List.mem_append_right _ (List.mem_of_getElem? (i := 557) (by decide +kernel)), (by decide +kernel)⟩
theorem tb_558 : (Jvm.Cond.code ({ cls := "SoundWells$Saw", name := "boardOfWell", desc := "(I)I" } : Jvm.MethodName) prog_7_method_12_code (6 : Nat) (Option.some Jvm.ClassFile.FieldType.int)) ∈ TB := List.mem_filter.mpr ⟨List.mem_append_right _ (List.mem_of_getElem? (i := 558) (by decide +kernel)), (by decide +kernel)⟩
theorem tb_559 : (Jvm.Cond.methodLink "SoundWellsLaw" (97 : Nat) ({ cls := "SoundWells", name := "best", desc := "(II)I" } : Jvm.MethodName)) ∈ TB := List.mem_filter.mpr ⟨List.mem_append_right _ (List.mem_of_getElem? (i := 559) (by decide +kernel)), (by decide +kernel)⟩
theorem tb_560 : (Jvm.Cond.instanceMethod ({ cls := "SoundWells", name := "best", desc := "(II)I" } : Jvm.MethodName)) ∈ TB := List.mem_filter.mpr ⟨List.mem_append_right _ (List.mem_of_getElem? (i := 560) (by decide +kernel)), (by decide +kernel)⟩
theorem tb_561 : (Jvm.Cond.selects "SoundWells" ({ cls := "SoundWells", name := "best", desc := "(II)I" } : Jvm.MethodName) ({ cls := "SoundWells", name := "best", desc := "(II)I" } : Jvm.MethodName)) ∈ TB := List.mem_filter.mpr ⟨List.mem_append_right _ (List.mem_of_getElem? (i := 561) (by decide +kernel)), (by decide +kernel)⟩
theorem tb_562 : (Jvm.Cond.code ({ cls := "SoundWells", name := "best", desc := "(II)I" } : Jvm.MethodName) prog_1_method_23_code (9 : Nat) (Option.some Jvm.ClassFile.FieldType.int)) ∈ TB := List.mem_filter.mpr ⟨List.mem_append_right _ (List.mem_of_getElem? (i := 562) (by decide +kernel)), (by decide +kernel)⟩
theorem tb_563 : (Jvm.Cond.methodLink "SoundWells" (218 : Nat) ({ cls := "SoundWells$Saw", name := "cutAllMoved", desc := "(LSoundWells$Plan;II)V" } : Jvm.MethodName)) ∈ TB := List.mem_filter.mpr ⟨List.mem_append_right _ (List.mem_of_getElem? (i := 563) (by decide +kernel)), (by decide +kernel)⟩
theorem tb_564 : (Jvm.Cond.methodLink "SoundWells" (222 : Nat) ({ cls := "SoundWells$Saw", name := "isBetterThan", desc := "(III)Z" } : Jvm.MethodName)) ∈ TB := List.mem_filter.mpr ⟨List.mem_append_right _ (List.mem_of_getElem? (i := 564) (by decide +kernel)), (by decide +kernel)⟩
theorem tb_565 : (Jvm.Cond.instanceMethod ({ cls := "SoundWells$Saw", name := "isBetterThan", desc := "(III)Z" } : Jvm.MethodName)) ∈ TB := List.mem_filter.mpr ⟨List.mem_append_right _ (List.mem_of_getElem? (i := 565) (by decide +kernel)), (by decide +kernel)⟩
theorem tb_566 : (Jvm.Cond.selects "SoundWells$Saw" ({ cls := "SoundWells$Saw", name := "isBetterThan", desc := "(III)Z" } : Jvm.MethodName) ({ cls := "SoundWells$Saw", name := "isBetterThan", desc := "(III)Z" } : Jvm.MethodName)) ∈ TB := List.mem_filter.mpr ⟨List.mem_append_right _ (List.mem_of_getElem? (i := 566) (by decide +kernel)), (by decide +kernel)⟩
theorem tb_567 : (Jvm.Cond.code ({ cls := "SoundWells$Saw", name := "isBetterThan", desc := "(III)Z" } : Jvm.MethodName) prog_7_method_11_code (4 : Nat) (Option.some Jvm.ClassFile.FieldType.boolean)) ∈ TB := List.mem_filter.mpr ⟨List.mem_append_right _ (List.mem_of_getElem? (i := 567) (by decide +kernel)), (by decide +kernel)⟩
theorem tb_568 : (Jvm.Cond.methodLink "SoundWells$Saw" (110 : Nat) ({ cls := "SoundWells$Saw", name := "leftOfLast", desc := "()I" } : Jvm.MethodName)) ∈ TB := List.mem_filter.mpr ⟨List.mem_append_right _ (List.mem_of_getElem? (i := 568) (by decide +kernel)), (by decide +kernel)⟩
theorem tb_569 : (Jvm.Cond.instanceMethod ({ cls := "SoundWells$Saw", name := "leftOfLast", desc := "()I" } : Jvm.MethodName)) ∈ TB := List.mem_filter.mpr ⟨List.mem_append_right _ (List.mem_of_getElem? (i := 569) (by decide +kernel)), (by decide +kernel)⟩
theorem tb_570 : (Jvm.Cond.selects "SoundWells$Saw" ({ cls := "SoundWells$Saw", name := "leftOfLast", desc := "()I" } : Jvm.MethodName) ({ cls := "SoundWells$Saw", name := "leftOfLast", desc := "()I" } : Jvm.MethodName)) ∈ TB := List.mem_filter.mpr ⟨List.mem_append_right _ (List.mem_of_getElem? (i := 570) (by decide +kernel)), (by decide +kernel)⟩
theorem tb_571 : (Jvm.Cond.code ({ cls := "SoundWells$Saw", name := "leftOfLast", desc := "()I" } : Jvm.MethodName) prog_7_method_10_code (1 : Nat) (Option.some Jvm.ClassFile.FieldType.int)) ∈ TB := List.mem_filter.mpr ⟨List.mem_append_right _ (List.mem_of_getElem? (i := 571) (by decide +kernel)), (by decide +kernel)⟩
theorem tb_572 : (Jvm.Cond.methodLink "SoundWells$Saw" (107 : Nat) ({ cls := "SoundWells$Saw", name := "leftOf", desc := "(I)I" } : Jvm.MethodName)) ∈ TB := List.mem_filter.mpr ⟨List.mem_append_right _ (List.mem_of_getElem? (i := 572) (by decide +kernel)), (by decide +kernel)⟩
theorem tb_573 : (Jvm.Cond.methodLink "SoundWells" (226 : Nat) ({ cls := "SoundWells$Saw", name := "leftOfLast", desc := "()I" } : Jvm.MethodName)) ∈ TB := List.mem_filter.mpr ⟨List.mem_append_right _ (List.mem_of_getElem? (i := 573) (by decide +kernel)), (by decide +kernel)⟩
theorem tb_574 : (Jvm.Cond.methodLink "SoundWellsLaw" (101 : Nat) ({ cls := "SoundWells", name := "count", desc := "(I)I" } : Jvm.MethodName)) ∈ TB := List.mem_filter.mpr ⟨List.mem_append_right _ (List.mem_of_getElem? (i := 574) (by decide +kernel)), (by decide +kernel)⟩
theorem tb_575 : (Jvm.Cond.instanceMethod ({ cls := "SoundWells", name := "count", desc := "(I)I" } : Jvm.MethodName)) ∈ TB := List.mem_filter.mpr ⟨List.mem_append_right _ (List.mem_of_getElem? (i := 575) (by decide +kernel)), (by decide +kernel)⟩
theorem tb_576 : (Jvm.Cond.selects "SoundWells" ({ cls := "SoundWells", name := "count", desc := "(I)I" } : Jvm.MethodName) ({ cls := "SoundWells", name := "count", desc := "(I)I" } : Jvm.MethodName)) ∈ TB := List.mem_filter.mpr ⟨List.mem_append_right _ (List.mem_of_getElem? (i := 576) (by decide +kernel)), (by decide +kernel)⟩
theorem tb_577 : (Jvm.Cond.code ({ cls := "SoundWells", name := "count", desc := "(I)I" } : Jvm.MethodName) prog_1_method_24_code (2 : Nat) (Option.some Jvm.ClassFile.FieldType.int)) ∈ TB := List.mem_filter.mpr ⟨List.mem_append_right _ (List.mem_of_getElem? (i := 577) (by decide +kernel)), (by decide +kernel)⟩
theorem tb_578 : (Jvm.Cond.classLink "SoundWellsLaw" (10 : Nat) "SoundWellsModel") ∈ TB := List.mem_filter.mpr ⟨List.mem_append_right _ (List.mem_of_getElem? (i := 578) (by decide +kernel)), (by decide +kernel)⟩
theorem tb_579 : (Jvm.Cond.instantiable "SoundWellsModel" (16 : Nat)) ∈ TB := List.mem_filter.mpr ⟨List.mem_append_right _ (List.mem_of_getElem? (i := 579) (by decide +kernel)), (by decide +kernel)⟩
theorem tb_580 : (Jvm.Cond.methodLink "SoundWellsLaw" (12 : Nat) ({ cls := "SoundWellsModel", name := "<init>", desc := "()V" } : Jvm.MethodName)) ∈ TB := List.mem_filter.mpr ⟨List.mem_append_right _ (List.mem_of_getElem? (i := 580) (by decide +kernel)), (by decide +kernel)⟩
theorem tb_581 : (Jvm.Cond.instanceMethod ({ cls := "SoundWellsModel", name := "<init>", desc := "()V" } : Jvm.MethodName)) ∈ TB := List.mem_filter.mpr ⟨List.mem_append_right _ (List.mem_of_getElem? (i := 581) (by decide +kernel)), (by decide +kernel)⟩
theorem tb_582 : (Jvm.Cond.code ({ cls := "SoundWellsModel", name := "<init>", desc := "()V" } : Jvm.MethodName) prog_9_method_1_code (1 : Nat) (Option.none : Option Jvm.ClassFile.FieldType)) ∈ TB := List.mem_filter.mpr ⟨List.mem_append_right _ (List.mem_of_getElem? (i := 582) (by decide +kernel)), (by decide +kernel)⟩
theorem tb_583 : (Jvm.Cond.methodLink "SoundWellsModel" (1 : Nat) ({ cls := "java/lang/Object", name := "<init>", desc := "()V" } : Jvm.MethodName)) ∈ TB := List.mem_filter.mpr ⟨List.mem_append_right _ (List.mem_of_getElem? (i := 583) (by decide +kernel)), (by decide +kernel)⟩
theorem tb_584 : (Jvm.Cond.methodLink "SoundWellsModel" (37 : Nat) ({ cls := "SoundWellsModel", name := "tells", desc := "(IIIIII)V" } : Jvm.MethodName)) ∈ TB := List.mem_filter.mpr ⟨List.mem_append_right _ (List.mem_of_getElem? (i := 584) (by decide +kernel)), (by decide +kernel)⟩
theorem tb_586 : (Jvm.Cond.instanceMethod ({ cls := "SoundWellsModel", name := "tells", desc := "(IIIIII)V" } : Jvm.MethodName)) ∈ TB := List.mem_filter.mpr ⟨List.mem_append_right _ (List.mem_of_getElem? (i := 586) (by decide +kernel)), (by decide +kernel)⟩
theorem tb_587 : (Jvm.Cond.code ({ cls := "SoundWellsModel", name := "tells", desc := "(IIIIII)V" } : Jvm.MethodName) prog_9_method_2_code (7 : Nat) (Option.none : Option Jvm.ClassFile.FieldType)) ∈ TB := List.mem_filter.mpr ⟨List.mem_append_right _ (List.mem_of_getElem? (i := 587) (by decide +kernel)), (by decide +kernel)⟩
theorem tb_588 : (Jvm.Cond.fieldLink "SoundWellsModel" (65 : Nat) "SoundWellsModel" "length" "I") ∈ TB := List.mem_filter.mpr ⟨List.mem_append_right _ (List.mem_of_getElem? (i := 588) (by decide +kernel)), (by decide +kernel)⟩
theorem tb_589 : (Jvm.Cond.fieldLink "SoundWellsModel" (7 : Nat) "SoundWellsModel" "text" "[I") ∈ TB := List.mem_filter.mpr ⟨List.mem_append_right _ (List.mem_of_getElem? (i := 589) (by decide +kernel)), (by decide +kernel)⟩
theorem tb_590 : (Jvm.Cond.fieldLink "SoundWellsModel" (69 : Nat) "SoundWellsModel" "spot" "I") ∈ TB := List.mem_filter.mpr ⟨List.mem_append_right _ (List.mem_of_getElem? (i := 590) (by decide +kernel)), (by decide +kernel)⟩
theorem tb_591 : (Jvm.Cond.fieldLink "SoundWellsModel" (13 : Nat) "SoundWellsModel" "now" "[I") ∈ TB := List.mem_filter.mpr ⟨List.mem_append_right _ (List.mem_of_getElem? (i := 591) (by decide +kernel)), (by decide +kernel)⟩
theorem tb_592 : (Jvm.Cond.fieldLink "SoundWellsModel" (16 : Nat) "SoundWellsModel" "read" "[I") ∈ TB := List.mem_filter.mpr ⟨List.mem_append_right _ (List.mem_of_getElem? (i := 592) (by decide +kernel)), (by decide +kernel)⟩
theorem tb_593 : (Jvm.Cond.fieldLink "SoundWellsModel" (19 : Nat) "SoundWellsModel" "before" "[I") ∈ TB := List.mem_filter.mpr ⟨List.mem_append_right _ (List.mem_of_getElem? (i := 593) (by decide +kernel)), (by decide +kernel)⟩
theorem tb_594 : (Jvm.Cond.fieldLink "SoundWellsModel" (100 : Nat) "SoundWellsModel" "undoMany" "I") ∈ TB := List.mem_filter.mpr ⟨List.mem_append_right _ (List.mem_of_getElem? (i := 594) (by decide +kernel)), (by decide +kernel)⟩
theorem tb_595 : (Jvm.Cond.fieldLink "SoundWellsModel" (22 : Nat) "SoundWellsModel" "blocks" "[I") ∈ TB := List.mem_filter.mpr ⟨List.mem_append_right _ (List.mem_of_getElem? (i := 595) (by decide +kernel)), (by decide +kernel)⟩
theorem tb_596 : (Jvm.Cond.fieldLink "SoundWellsModel" (25 : Nat) "SoundWellsModel" "used" "[I") ∈ TB := List.mem_filter.mpr ⟨List.mem_append_right _ (List.mem_of_getElem? (i := 596) (by decide +kernel)), (by decide +kernel)⟩
theorem tb_597 : (Jvm.Cond.fieldLink "SoundWellsModel" (28 : Nat) "SoundWellsModel" "longest" "[I") ∈ TB := List.mem_filter.mpr ⟨List.mem_append_right _ (List.mem_of_getElem? (i := 597) (by decide +kernel)), (by decide +kernel)⟩
theorem tb_598 : (Jvm.Cond.fieldLink "SoundWellsModel" (31 : Nat) "SoundWellsModel" "boardOf" "[I") ∈ TB := List.mem_filter.mpr ⟨List.mem_append_right _ (List.mem_of_getElem? (i := 598) (by decide +kernel)), (by decide +kernel)⟩
theorem tb_599 : (Jvm.Cond.fieldLink "SoundWellsModel" (34 : Nat) "SoundWellsModel" "depths" "[I") ∈ TB := List.mem_filter.mpr ⟨List.mem_append_right _ (List.mem_of_getElem? (i := 599) (by decide +kernel)), (by decide +kernel)⟩
theorem tb_600 : (Jvm.Cond.fieldLink "SoundWellsModel" (144 : Nat) "SoundWellsModel" "boards" "I") ∈ TB := List.mem_filter.mpr ⟨List.mem_append_right _ (List.mem_of_getElem? (i := 600) (by decide +kernel)), (by decide +kernel)⟩
theorem tb_601 : (Jvm.Cond.fieldLink "SoundWellsModel" (147 : Nat) "SoundWellsModel" "cuts" "I") ∈ TB := List.mem_filter.mpr ⟨List.mem_append_right _ (List.mem_of_getElem? (i := 601) (by decide +kernel)), (by decide +kernel)⟩
theorem tb_602 : (Jvm.Cond.fieldLink "SoundWellsModel" (153 : Nat) "SoundWellsModel" "lost" "I") ∈ TB := List.mem_filter.mpr ⟨List.mem_append_right _ (List.mem_of_getElem? (i := 602) (by decide +kernel)), (by decide +kernel)⟩
theorem tb_603 : (Jvm.Cond.fieldLink "SoundWellsModel" (150 : Nat) "SoundWellsModel" "whole" "I") ∈ TB := List.mem_filter.mpr ⟨List.mem_append_right _ (List.mem_of_getElem? (i := 603) (by decide +kernel)), (by decide +kernel)⟩
theorem tb_604 : (Jvm.Cond.lays "SoundWellsModel" "SoundWellsModel" "length" "I") ∈ TB := List.mem_filter.mpr ⟨List.mem_append_right _ (List.mem_of_getElem? (i := 604) (by decide +kernel)), (by decide +kernel)⟩
theorem tb_605 : (Jvm.Cond.soleField "SoundWellsModel" "length") ∈ TB := List.mem_filter.mpr ⟨List.mem_append_right _ (List.mem_of_getElem? (i := 605) (by decide +kernel)), (by decide +kernel)⟩
theorem tb_606 : (Jvm.Cond.laysFinal "SoundWellsModel" "SoundWellsModel" "text" "[I") ∈ TB := List.mem_filter.mpr ⟨List.mem_append_right _ (List.mem_of_getElem? (i := 606) (by decide +kernel)), (by decide +kernel)⟩
theorem tb_607 : (Jvm.Cond.soleField "SoundWellsModel" "text") ∈ TB := List.mem_filter.mpr ⟨List.mem_append_right _ (List.mem_of_getElem? (i := 607) (by decide +kernel)), (by decide +kernel)⟩
theorem tb_608 : (Jvm.Cond.lays "SoundWellsModel" "SoundWellsModel" "spot" "I") ∈ TB := List.mem_filter.mpr ⟨List.mem_append_right _ (List.mem_of_getElem? (i := 608) (by decide +kernel)), (by decide +kernel)⟩
theorem tb_609 : (Jvm.Cond.soleField "SoundWellsModel" "spot") ∈ TB := List.mem_filter.mpr ⟨List.mem_append_right _ (List.mem_of_getElem? (i := 609) (by decide +kernel)), (by decide +kernel)⟩
theorem tb_610 : (Jvm.Cond.laysFinal "SoundWellsModel" "SoundWellsModel" "now" "[I") ∈ TB := List.mem_filter.mpr ⟨List.mem_append_right _ (List.mem_of_getElem? (i := 610) (by decide +kernel)), (by decide +kernel)⟩
theorem tb_611 : (Jvm.Cond.soleField "SoundWellsModel" "now") ∈ TB := List.mem_filter.mpr ⟨List.mem_append_right _ (List.mem_of_getElem? (i := 611) (by decide +kernel)), (by decide +kernel)⟩
theorem tb_612 : (Jvm.Cond.laysFinal "SoundWellsModel" "SoundWellsModel" "read" "[I") ∈ TB := List.mem_filter.mpr ⟨List.mem_append_right _ (List.mem_of_getElem? (i := 612) (by decide +kernel)), (by decide +kernel)⟩
theorem tb_613 : (Jvm.Cond.soleField "SoundWellsModel" "read") ∈ TB := List.mem_filter.mpr ⟨List.mem_append_right _ (List.mem_of_getElem? (i := 613) (by decide +kernel)), (by decide +kernel)⟩
theorem tb_614 : (Jvm.Cond.laysFinal "SoundWellsModel" "SoundWellsModel" "before" "[I") ∈ TB := List.mem_filter.mpr ⟨List.mem_append_right _ (List.mem_of_getElem? (i := 614) (by decide +kernel)), (by decide +kernel)⟩
theorem tb_615 : (Jvm.Cond.soleField "SoundWellsModel" "before") ∈ TB := List.mem_filter.mpr ⟨List.mem_append_right _ (List.mem_of_getElem? (i := 615) (by decide +kernel)), (by decide +kernel)⟩
theorem tb_616 : (Jvm.Cond.lays "SoundWellsModel" "SoundWellsModel" "undoMany" "I") ∈ TB := List.mem_filter.mpr ⟨List.mem_append_right _ (List.mem_of_getElem? (i := 616) (by decide +kernel)), (by decide +kernel)⟩
theorem tb_617 : (Jvm.Cond.soleField "SoundWellsModel" "undoMany") ∈ TB := List.mem_filter.mpr ⟨List.mem_append_right _ (List.mem_of_getElem? (i := 617) (by decide +kernel)), (by decide +kernel)⟩
theorem tb_618 : (Jvm.Cond.laysFinal "SoundWellsModel" "SoundWellsModel" "blocks" "[I") ∈ TB := List.mem_filter.mpr ⟨List.mem_append_right _ (List.mem_of_getElem? (i := 618) (by decide +kernel)), (by decide +kernel)⟩
theorem tb_619 : (Jvm.Cond.soleField "SoundWellsModel" "blocks") ∈ TB := List.mem_filter.mpr ⟨List.mem_append_right _ (List.mem_of_getElem? (i := 619) (by decide +kernel)), (by decide +kernel)⟩
theorem tb_620 : (Jvm.Cond.laysFinal "SoundWellsModel" "SoundWellsModel" "used" "[I") ∈ TB := List.mem_filter.mpr ⟨List.mem_append_right _ (List.mem_of_getElem? (i := 620) (by decide +kernel)), (by decide +kernel)⟩
theorem tb_621 : (Jvm.Cond.soleField "SoundWellsModel" "used") ∈ TB := List.mem_filter.mpr ⟨List.mem_append_right _ (List.mem_of_getElem? (i := 621) (by decide +kernel)), (by decide +kernel)⟩
theorem tb_622 : (Jvm.Cond.laysFinal "SoundWellsModel" "SoundWellsModel" "longest" "[I") ∈ TB := List.mem_filter.mpr ⟨List.mem_append_right _ (List.mem_of_getElem? (i := 622) (by decide +kernel)), (by decide +kernel)⟩
theorem tb_623 : (Jvm.Cond.soleField "SoundWellsModel" "longest") ∈ TB := List.mem_filter.mpr ⟨List.mem_append_right _ (List.mem_of_getElem? (i := 623) (by decide +kernel)), (by decide +kernel)⟩
theorem tb_624 : (Jvm.Cond.laysFinal "SoundWellsModel" "SoundWellsModel" "boardOf" "[I") ∈ TB := List.mem_filter.mpr ⟨List.mem_append_right _ (List.mem_of_getElem? (i := 624) (by decide +kernel)), (by decide +kernel)⟩
theorem tb_625 : (Jvm.Cond.soleField "SoundWellsModel" "boardOf") ∈ TB := List.mem_filter.mpr ⟨List.mem_append_right _ (List.mem_of_getElem? (i := 625) (by decide +kernel)), (by decide +kernel)⟩
theorem tb_626 : (Jvm.Cond.laysFinal "SoundWellsModel" "SoundWellsModel" "depths" "[I") ∈ TB := List.mem_filter.mpr ⟨List.mem_append_right _ (List.mem_of_getElem? (i := 626) (by decide +kernel)), (by decide +kernel)⟩
theorem tb_627 : (Jvm.Cond.soleField "SoundWellsModel" "depths") ∈ TB := List.mem_filter.mpr ⟨List.mem_append_right _ (List.mem_of_getElem? (i := 627) (by decide +kernel)), (by decide +kernel)⟩
theorem tb_628 : (Jvm.Cond.lays "SoundWellsModel" "SoundWellsModel" "boards" "I") ∈ TB := List.mem_filter.mpr ⟨List.mem_append_right _ (List.mem_of_getElem? (i := 628) (by decide +kernel)), (by decide +kernel)⟩
theorem tb_629 : (Jvm.Cond.soleField "SoundWellsModel" "boards") ∈ TB := List.mem_filter.mpr ⟨List.mem_append_right _ (List.mem_of_getElem? (i := 629) (by decide +kernel)), (by decide +kernel)⟩
theorem tb_630 : (Jvm.Cond.lays "SoundWellsModel" "SoundWellsModel" "cuts" "I") ∈ TB := List.mem_filter.mpr ⟨List.mem_append_right _ (List.mem_of_getElem? (i := 630) (by decide +kernel)), (by decide +kernel)⟩
theorem tb_631 : (Jvm.Cond.soleField "SoundWellsModel" "cuts") ∈ TB := List.mem_filter.mpr ⟨List.mem_append_right _ (List.mem_of_getElem? (i := 631) (by decide +kernel)), (by decide +kernel)⟩
theorem tb_632 : (Jvm.Cond.lays "SoundWellsModel" "SoundWellsModel" "lost" "I") ∈ TB := List.mem_filter.mpr ⟨List.mem_append_right _ (List.mem_of_getElem? (i := 632) (by decide +kernel)), (by decide +kernel)⟩
theorem tb_633 : (Jvm.Cond.soleField "SoundWellsModel" "lost") ∈ TB := List.mem_filter.mpr ⟨List.mem_append_right _ (List.mem_of_getElem? (i := 633) (by decide +kernel)), (by decide +kernel)⟩
theorem tb_634 : (Jvm.Cond.lays "SoundWellsModel" "SoundWellsModel" "whole" "I") ∈ TB := List.mem_filter.mpr ⟨List.mem_append_right _ (List.mem_of_getElem? (i := 634) (by decide +kernel)), (by decide +kernel)⟩
theorem tb_635 : (Jvm.Cond.soleField "SoundWellsModel" "whole") ∈ TB := List.mem_filter.mpr ⟨List.mem_append_right _ (List.mem_of_getElem? (i := 635) (by decide +kernel)), (by decide +kernel)⟩
theorem tb_636 : (Jvm.Cond.superclass "SoundWellsModel" "java/lang/Object") ∈ TB := List.mem_filter.mpr ⟨List.mem_append_right _ (List.mem_of_getElem? (i := 636) (by decide +kernel)), (by decide +kernel)⟩
theorem tb_637 : (Jvm.Cond.methodLink "SoundWellsLaw" (52 : Nat) ({ cls := "SoundWellsModel", name := "squares", desc := "(I)I" } : Jvm.MethodName)) ∈ TB := List.mem_filter.mpr ⟨List.mem_append_right _ (List.mem_of_getElem? (i := 637) (by decide +kernel)), (by decide +kernel)⟩
theorem tb_638 : (Jvm.Cond.instanceMethod ({ cls := "SoundWellsModel", name := "squares", desc := "(I)I" } : Jvm.MethodName)) ∈ TB := List.mem_filter.mpr ⟨List.mem_append_right _ (List.mem_of_getElem? (i := 638) (by decide +kernel)), (by decide +kernel)⟩
theorem tb_639 : (Jvm.Cond.selects "SoundWellsModel" ({ cls := "SoundWellsModel", name := "squares", desc := "(I)I" } : Jvm.MethodName) ({ cls := "SoundWellsModel", name := "squares", desc := "(I)I" } : Jvm.MethodName)) ∈ TB := List.mem_filter.mpr ⟨List.mem_append_right _ (List.mem_of_getElem? (i := 639) (by decide +kernel)), (by decide +kernel)⟩
theorem tb_640 : (Jvm.Cond.code ({ cls := "SoundWellsModel", name := "squares", desc := "(I)I" } : Jvm.MethodName) prog_9_method_7_code (4 : Nat) (Option.some Jvm.ClassFile.FieldType.int)) ∈ TB := List.mem_filter.mpr ⟨List.mem_append_right _ (List.mem_of_getElem? (i := 640) (by decide +kernel)), (by decide +kernel)⟩
theorem tb_641 : (Jvm.Cond.methodLink "SoundWellsModel" (47 : Nat) ({ cls := "SoundWellsModel", name := "isPrime", desc := "(I)Z" } : Jvm.MethodName)) ∈ TB := List.mem_filter.mpr ⟨List.mem_append_right _ (List.mem_of_getElem? (i := 641) (by decide +kernel)), (by decide +kernel)⟩
theorem tb_642 : (Jvm.Cond.static ({ cls := "SoundWellsModel", name := "isPrime", desc := "(I)Z" } : Jvm.MethodName)) ∈ TB := List.mem_filter.mpr ⟨List.mem_append_right _ (List.mem_of_getElem? (i := 642) (by decide +kernel)), (by decide +kernel)⟩
theorem tb_643 : (Jvm.Cond.code ({ cls := "SoundWellsModel", name := "isPrime", desc := "(I)Z" } : Jvm.MethodName) prog_9_method_4_code (3 : Nat) (Option.some Jvm.ClassFile.FieldType.boolean)) ∈ TB := List.mem_filter.mpr ⟨List.mem_append_right _ (List.mem_of_getElem? (i := 643) (by decide +kernel)), (by decide +kernel)⟩
theorem tb_644 : (Jvm.Cond.methodLink "SoundWellsLaw" (56 : Nat) ({ cls := "SoundWellsModel", name := "sign", desc := "(II)I" } : Jvm.MethodName)) ∈ TB := List.mem_filter.mpr ⟨List.mem_append_right _ (List.mem_of_getElem? (i := 644) (by decide +kernel)), (by decide +kernel)⟩
theorem tb_645 : (Jvm.Cond.instanceMethod ({ cls := "SoundWellsModel", name := "sign", desc := "(II)I" } : Jvm.MethodName)) ∈ TB := List.mem_filter.mpr ⟨List.mem_append_right _ (List.mem_of_getElem? (i := 645) (by decide +kernel)), (by decide +kernel)⟩
theorem tb_646 : (Jvm.Cond.selects "SoundWellsModel" ({ cls := "SoundWellsModel", name := "sign", desc := "(II)I" } : Jvm.MethodName) ({ cls := "SoundWellsModel", name := "sign", desc := "(II)I" } : Jvm.MethodName)) ∈ TB := List.mem_filter.mpr ⟨List.mem_append_right _ (List.mem_of_getElem? (i := 646) (by decide +kernel)), (by decide +kernel)⟩
theorem tb_647 : (Jvm.Cond.code ({ cls := "SoundWellsModel", name := "sign", desc := "(II)I" } : Jvm.MethodName) prog_9_method_8_code (3 : Nat) (Option.some Jvm.ClassFile.FieldType.int)) ∈ TB := List.mem_filter.mpr ⟨List.mem_append_right _ (List.mem_of_getElem? (i := 647) (by decide +kernel)), (by decide +kernel)⟩
theorem tb_648 : (Jvm.Cond.constantLong "SoundWellsModel" (51 : Nat) (999 : Int64)) ∈ TB := List.mem_filter.mpr ⟨List.mem_append_right _ (List.mem_of_getElem? (i := 648) (by decide +kernel)), (by decide +kernel)⟩
theorem tb_649 : (Jvm.Cond.methodLink "SoundWellsModel" (43 : Nat) ({ cls := "SoundWellsModel", name := "in", desc := "(JJJ)Z" } : Jvm.MethodName)) ∈ TB := List.mem_filter.mpr ⟨List.mem_append_right _ (List.mem_of_getElem? (i := 649) (by decide +kernel)), (by decide +kernel)⟩
theorem tb_650 : (Jvm.Cond.static ({ cls := "SoundWellsModel", name := "in", desc := "(JJJ)Z" } : Jvm.MethodName)) ∈ TB := List.mem_filter.mpr ⟨List.mem_append_right _ (List.mem_of_getElem? (i := 650) (by decide +kernel)), (by decide +kernel)⟩
theorem tb_651 : (Jvm.Cond.code ({ cls := "SoundWellsModel", name := "in", desc := "(JJJ)Z" } : Jvm.MethodName) prog_9_method_3_code (6 : Nat) (Option.some Jvm.ClassFile.FieldType.boolean)) ∈ TB := List.mem_filter.mpr ⟨List.mem_append_right _ (List.mem_of_getElem? (i := 651) (by decide +kernel)), (by decide +kernel)⟩
theorem tb_652 : (Jvm.Cond.methodLink "SoundWellsModel" (53 : Nat) ({ cls := "SoundWellsModel", name := "signOf", desc := "(II)I" } : Jvm.MethodName)) ∈ TB := List.mem_filter.mpr ⟨List.mem_append_right _ (List.mem_of_getElem? (i := 652) (by decide +kernel)), (by decide +kernel)⟩
theorem tb_653 : (Jvm.Cond.static ({ cls := "SoundWellsModel", name := "signOf", desc := "(II)I" } : Jvm.MethodName)) ∈ TB := List.mem_filter.mpr ⟨List.mem_append_right _ (List.mem_of_getElem? (i := 653) (by decide +kernel)), (by decide +kernel)⟩
theorem tb_654 : (Jvm.Cond.code ({ cls := "SoundWellsModel", name := "signOf", desc := "(II)I" } : Jvm.MethodName) prog_9_method_5_code (4 : Nat) (Option.some Jvm.ClassFile.FieldType.int)) ∈ TB := List.mem_filter.mpr ⟨List.mem_append_right _ (List.mem_of_getElem? (i := 654) (by decide +kernel)), (by decide +kernel)⟩
theorem tb_655 : (Jvm.Cond.methodLink "SoundWellsLaw" (60 : Nat) ({ cls := "SoundWellsModel", name := "root", desc := "(II)I" } : Jvm.MethodName)) ∈ TB := List.mem_filter.mpr ⟨List.mem_append_right _ (List.mem_of_getElem? (i := 655) (by decide +kernel)), (by decide +kernel)⟩
theorem tb_656 : (Jvm.Cond.instanceMethod ({ cls := "SoundWellsModel", name := "root", desc := "(II)I" } : Jvm.MethodName)) ∈ TB := List.mem_filter.mpr ⟨List.mem_append_right _ (List.mem_of_getElem? (i := 656) (by decide +kernel)), (by decide +kernel)⟩
theorem tb_657 : (Jvm.Cond.selects "SoundWellsModel" ({ cls := "SoundWellsModel", name := "root", desc := "(II)I" } : Jvm.MethodName) ({ cls := "SoundWellsModel", name := "root", desc := "(II)I" } : Jvm.MethodName)) ∈ TB := List.mem_filter.mpr ⟨List.mem_append_right _ (List.mem_of_getElem? (i := 657) (by decide +kernel)), (by decide +kernel)⟩
theorem tb_658 : (Jvm.Cond.code ({ cls := "SoundWellsModel", name := "root", desc := "(II)I" } : Jvm.MethodName) prog_9_method_9_code (7 : Nat) (Option.some Jvm.ClassFile.FieldType.int)) ∈ TB := List.mem_filter.mpr ⟨List.mem_append_right _ (List.mem_of_getElem? (i := 658) (by decide +kernel)), (by decide +kernel)⟩
theorem tb_659 : (Jvm.Cond.methodLink "SoundWellsModel" (57 : Nat) ({ cls := "SoundWellsModel", name := "isRoot", desc := "(II)Z" } : Jvm.MethodName)) ∈ TB := List.mem_filter.mpr ⟨List.mem_append_right _ (List.mem_of_getElem? (i := 659) (by decide +kernel)), (by decide +kernel)⟩
theorem tb_660 : (Jvm.Cond.static ({ cls := "SoundWellsModel", name := "isRoot", desc := "(II)Z" } : Jvm.MethodName)) ∈ TB := List.mem_filter.mpr ⟨List.mem_append_right _ (List.mem_of_getElem? (i := 660) (by decide +kernel)), (by decide +kernel)⟩
theorem tb_661 : (Jvm.Cond.code ({ cls := "SoundWellsModel", name := "isRoot", desc := "(II)Z" } : Jvm.MethodName) prog_9_method_6_code (4 : Nat) (Option.some Jvm.ClassFile.FieldType.boolean)) ∈ TB := List.mem_filter.mpr ⟨List.mem_append_right _ (List.mem_of_getElem? (i := 661) (by decide +kernel)), (by decide +kernel)⟩
theorem tb_662 : (Jvm.Cond.constantLong "SoundWellsModel" (41 : Nat) (2 : Int64)) ∈ TB := List.mem_filter.mpr ⟨List.mem_append_right _ (List.mem_of_getElem? (i := 662) (by decide +kernel)), (by decide +kernel)⟩
theorem tb_663 : (Jvm.Cond.methodLink "SoundWellsLaw" (64 : Nat) ({ cls := "SoundWellsModel", name := "law", desc := "(II)I" } : Jvm.MethodName)) ∈ TB := List.mem_filter.mpr ⟨List.mem_append_right _ (List.mem_of_getElem? (i := 663) (by decide +kernel)), (by decide +kernel)⟩
theorem tb_664 : (Jvm.Cond.instanceMethod ({ cls := "SoundWellsModel", name := "law", desc := "(II)I" } : Jvm.MethodName)) ∈ TB := List.mem_filter.mpr ⟨List.mem_append_right _ (List.mem_of_getElem? (i := 664) (by decide +kernel)), (by decide +kernel)⟩
theorem tb_665 : (Jvm.Cond.selects "SoundWellsModel" ({ cls := "SoundWellsModel", name := "law", desc := "(II)I" } : Jvm.MethodName) ({ cls := "SoundWellsModel", name := "law", desc := "(II)I" } : Jvm.MethodName)) ∈ TB := List.mem_filter.mpr ⟨List.mem_append_right _ (List.mem_of_getElem? (i := 665) (by decide +kernel)), (by decide +kernel)⟩
theorem tb_666 : (Jvm.Cond.code ({ cls := "SoundWellsModel", name := "law", desc := "(II)I" } : Jvm.MethodName) prog_9_method_10_code (3 : Nat) (Option.some Jvm.ClassFile.FieldType.int)) ∈ TB := List.mem_filter.mpr ⟨List.mem_append_right _ (List.mem_of_getElem? (i := 666) (by decide +kernel)), (by decide +kernel)⟩
theorem tb_667 : (Jvm.Cond.methodLink "SoundWellsLaw" (17 : Nat) ({ cls := "SoundWellsModel", name := "write", desc := "(I)I" } : Jvm.MethodName)) ∈ TB := List.mem_filter.mpr ⟨List.mem_append_right _ (List.mem_of_getElem? (i := 667) (by decide +kernel)), (by decide +kernel)⟩
theorem tb_668 : (Jvm.Cond.instanceMethod ({ cls := "SoundWellsModel", name := "write", desc := "(I)I" } : Jvm.MethodName)) ∈ TB := List.mem_filter.mpr ⟨List.mem_append_right _ (List.mem_of_getElem? (i := 668) (by decide +kernel)), (by decide +kernel)⟩
theorem tb_669 : (Jvm.Cond.selects "SoundWellsModel" ({ cls := "SoundWellsModel", name := "write", desc := "(I)I" } : Jvm.MethodName) ({ cls := "SoundWellsModel", name := "write", desc := "(I)I" } : Jvm.MethodName)) ∈ TB := List.mem_filter.mpr ⟨List.mem_append_right _ (List.mem_of_getElem? (i := 669) (by decide +kernel)), (by decide +kernel)⟩
theorem tb_670 : (Jvm.Cond.code ({ cls := "SoundWellsModel", name := "write", desc := "(I)I" } : Jvm.MethodName) prog_9_method_11_code (2 : Nat) (Option.some Jvm.ClassFile.FieldType.int)) ∈ TB := List.mem_filter.mpr ⟨List.mem_append_right _ (List.mem_of_getElem? (i := 670) (by decide +kernel)), (by decide +kernel)⟩
theorem tb_671 : (Jvm.Cond.constantLong "SoundWellsModel" (61 : Nat) (32 : Int64)) ∈ TB := List.mem_filter.mpr ⟨List.mem_append_right _ (List.mem_of_getElem? (i := 671) (by decide +kernel)), (by decide +kernel)⟩
theorem tb_672 : (Jvm.Cond.constantLong "SoundWellsModel" (63 : Nat) (126 : Int64)) ∈ TB := List.mem_filter.mpr ⟨List.mem_append_right _ (List.mem_of_getElem? (i := 672) (by decide +kernel)), (by decide +kernel)⟩
theorem tb_673 : (Jvm.Cond.methodLink "SoundWellsLaw" (22 : Nat) ({ cls := "SoundWellsModel", name := "wipe", desc := "()I" } : Jvm.MethodName)) ∈ TB := List.mem_filter.mpr ⟨List.mem_append_right _ (List.mem_of_getElem? (i := 673) (by decide +kernel)), (by decide +kernel)⟩
theorem tb_674 : (Jvm.Cond.instanceMethod ({ cls := "SoundWellsModel", name := "wipe", desc := "()I" } : Jvm.MethodName)) ∈ TB := List.mem_filter.mpr ⟨List.mem_append_right _ (List.mem_of_getElem? (i := 674) (by decide +kernel)), (by decide +kernel)⟩
theorem tb_675 : (Jvm.Cond.selects "SoundWellsModel" ({ cls := "SoundWellsModel", name := "wipe", desc := "()I" } : Jvm.MethodName) ({ cls := "SoundWellsModel", name := "wipe", desc := "()I" } : Jvm.MethodName)) ∈ TB := List.mem_filter.mpr ⟨List.mem_append_right _ (List.mem_of_getElem? (i := 675) (by decide +kernel)), (by decide +kernel)⟩
theorem tb_676 : (Jvm.Cond.code ({ cls := "SoundWellsModel", name := "wipe", desc := "()I" } : Jvm.MethodName) prog_9_method_12_code (2 : Nat) (Option.some Jvm.ClassFile.FieldType.int)) ∈ TB := List.mem_filter.mpr ⟨List.mem_append_right _ (List.mem_of_getElem? (i := 676) (by decide +kernel)), (by decide +kernel)⟩
theorem tb_677 : (Jvm.Cond.methodLink "SoundWellsLaw" (26 : Nat) ({ cls := "SoundWellsModel", name := "fault", desc := "()I" } : Jvm.MethodName)) ∈ TB := List.mem_filter.mpr ⟨List.mem_append_right _ (List.mem_of_getElem? (i := 677) (by decide +kernel)), (by decide +kernel)⟩
theorem tb_678 : (Jvm.Cond.instanceMethod ({ cls := "SoundWellsModel", name := "fault", desc := "()I" } : Jvm.MethodName)) ∈ TB := List.mem_filter.mpr ⟨List.mem_append_right _ (List.mem_of_getElem? (i := 678) (by decide +kernel)), (by decide +kernel)⟩
theorem tb_679 : (Jvm.Cond.selects "SoundWellsModel" ({ cls := "SoundWellsModel", name := "fault", desc := "()I" } : Jvm.MethodName) ({ cls := "SoundWellsModel", name := "fault", desc := "()I" } : Jvm.MethodName)) ∈ TB := List.mem_filter.mpr ⟨List.mem_append_right _ (List.mem_of_getElem? (i := 679) (by decide +kernel)), (by decide +kernel)⟩
theorem tb_680 : (Jvm.Cond.code ({ cls := "SoundWellsModel", name := "fault", desc := "()I" } : Jvm.MethodName) prog_9_method_18_code (2 : Nat) (Option.some Jvm.ClassFile.FieldType.int)) ∈ TB := List.mem_filter.mpr ⟨List.mem_append_right _ (List.mem_of_getElem? (i := 680) (by decide +kernel)), (by decide +kernel)⟩
theorem tb_681 : (Jvm.Cond.methodLink "SoundWellsModel" (93 : Nat) ({ cls := "SoundWellsModel", name := "item", desc := "(I)Z" } : Jvm.MethodName)) ∈ TB := List.mem_filter.mpr ⟨List.mem_append_right _ (List.mem_of_getElem? (i := 681) (by decide +kernel)), (by decide +kernel)⟩
theorem tb_683 : (Jvm.Cond.instanceMethod ({ cls := "SoundWellsModel", name := "item", desc := "(I)Z" } : Jvm.MethodName)) ∈ TB := List.mem_filter.mpr ⟨List.mem_append_right _ (List.mem_of_getElem? (i := 683) (by decide +kernel)), (by decide +kernel)⟩
theorem tb_684 : (Jvm.Cond.code ({ cls := "SoundWellsModel", name := "item", desc := "(I)Z" } : Jvm.MethodName) prog_9_method_17_code (2 : Nat) (Option.some Jvm.ClassFile.FieldType.boolean)) ∈ TB := List.mem_filter.mpr ⟨List.mem_append_right _ (List.mem_of_getElem? (i := 684) (by decide +kernel)), (by decide +kernel)⟩
theorem tb_685 : (Jvm.Cond.methodLink "SoundWellsModel" (90 : Nat) ({ cls := "SoundWellsModel", name := "panelItem", desc := "(I)Z" } : Jvm.MethodName)) ∈ TB := List.mem_filter.mpr ⟨List.mem_append_right _ (List.mem_of_getElem? (i := 685) (by decide +kernel)), (by decide +kernel)⟩
theorem tb_687 : (Jvm.Cond.instanceMethod ({ cls := "SoundWellsModel", name := "panelItem", desc := "(I)Z" } : Jvm.MethodName)) ∈ TB := List.mem_filter.mpr ⟨List.mem_append_right _ (List.mem_of_getElem? (i := 687) (by decide +kernel)), (by decide +kernel)⟩
theorem tb_688 : (Jvm.Cond.code ({ cls := "SoundWellsModel", name := "panelItem", desc := "(I)Z" } : Jvm.MethodName) prog_9_method_16_code (4 : Nat) (Option.some Jvm.ClassFile.FieldType.boolean)) ∈ TB := List.mem_filter.mpr ⟨List.mem_append_right _ (List.mem_of_getElem? (i := 688) (by decide +kernel)), (by decide +kernel)⟩
theorem tb_689 : (Jvm.Cond.methodLink "SoundWellsModel" (82 : Nat) ({ cls := "SoundWellsModel", name := "number", desc := "(IIII)Z" } : Jvm.MethodName)) ∈ TB := List.mem_filter.mpr ⟨List.mem_append_right _ (List.mem_of_getElem? (i := 689) (by decide +kernel)), (by decide +kernel)⟩
theorem tb_691 : (Jvm.Cond.instanceMethod ({ cls := "SoundWellsModel", name := "number", desc := "(IIII)Z" } : Jvm.MethodName)) ∈ TB := List.mem_filter.mpr ⟨List.mem_append_right _ (List.mem_of_getElem? (i := 691) (by decide +kernel)), (by decide +kernel)⟩
theorem tb_692 : (Jvm.Cond.code ({ cls := "SoundWellsModel", name := "number", desc := "(IIII)Z" } : Jvm.MethodName) prog_9_method_14_code (8 : Nat) (Option.some Jvm.ClassFile.FieldType.boolean)) ∈ TB := List.mem_filter.mpr ⟨List.mem_append_right _ (List.mem_of_getElem? (i := 692) (by decide +kernel)), (by decide +kernel)⟩
theorem tb_693 : (Jvm.Cond.methodLink "SoundWellsModel" (72 : Nat) ({ cls := "SoundWellsModel", name := "byteAt", desc := "(I)I" } : Jvm.MethodName)) ∈ TB := List.mem_filter.mpr ⟨List.mem_append_right _ (List.mem_of_getElem? (i := 693) (by decide +kernel)), (by decide +kernel)⟩
theorem tb_695 : (Jvm.Cond.instanceMethod ({ cls := "SoundWellsModel", name := "byteAt", desc := "(I)I" } : Jvm.MethodName)) ∈ TB := List.mem_filter.mpr ⟨List.mem_append_right _ (List.mem_of_getElem? (i := 695) (by decide +kernel)), (by decide +kernel)⟩
theorem tb_696 : (Jvm.Cond.code ({ cls := "SoundWellsModel", name := "byteAt", desc := "(I)I" } : Jvm.MethodName) prog_9_method_13_code (2 : Nat) (Option.some Jvm.ClassFile.FieldType.int)) ∈ TB := List.mem_filter.mpr ⟨List.mem_append_right _ (List.mem_of_getElem? (i := 696) (by decide +kernel)), (by decide +kernel)⟩
theorem tb_697 : (Jvm.Cond.constantLong "SoundWellsModel" (76 : Nat) (48 : Int64)) ∈ TB := List.mem_filter.mpr ⟨List.mem_append_right _ (List.mem_of_getElem? (i := 697) (by decide +kernel)), (by decide +kernel)⟩
theorem tb_698 : (Jvm.Cond.constantLong "SoundWellsModel" (78 : Nat) (57 : Int64)) ∈ TB := List.mem_filter.mpr ⟨List.mem_append_right _ (List.mem_of_getElem? (i := 698) (by decide +kernel)), (by decide +kernel)⟩
theorem tb_699 : (Jvm.Cond.methodLink "SoundWellsModel" (86 : Nat) ({ cls := "SoundWellsModel", name := "mayBe", desc := "(III)Z" } : Jvm.MethodName)) ∈ TB := List.mem_filter.mpr ⟨List.mem_append_right _ (List.mem_of_getElem? (i := 699) (by decide +kernel)), (by decide +kernel)⟩
theorem tb_700 : (Jvm.Cond.static ({ cls := "SoundWellsModel", name := "mayBe", desc := "(III)Z" } : Jvm.MethodName)) ∈ TB := List.mem_filter.mpr ⟨List.mem_append_right _ (List.mem_of_getElem? (i := 700) (by decide +kernel)), (by decide +kernel)⟩
theorem tb_701 : (Jvm.Cond.code ({ cls := "SoundWellsModel", name := "mayBe", desc := "(III)Z" } : Jvm.MethodName) prog_9_method_15_code (3 : Nat) (Option.some Jvm.ClassFile.FieldType.boolean)) ∈ TB := List.mem_filter.mpr ⟨List.mem_append_right _ (List.mem_of_getElem? (i := 701) (by decide +kernel)), (by decide +kernel)⟩
theorem tb_702 : (Jvm.Cond.constantLong "SoundWellsModel" (80 : Nat) (9 : Int64)) ∈ TB := List.mem_filter.mpr ⟨List.mem_append_right _ (List.mem_of_getElem? (i := 702) (by decide +kernel)), (by decide +kernel)⟩
theorem tb_703 : (Jvm.Cond.methodLink "SoundWellsLaw" (30 : Nat) ({ cls := "SoundWellsModel", name := "lay", desc := "()I" } : Jvm.MethodName)) ∈ TB := List.mem_filter.mpr ⟨List.mem_append_right _ (List.mem_of_getElem? (i := 703) (by decide +kernel)), (by decide +kernel)⟩
theorem tb_704 : (Jvm.Cond.instanceMethod ({ cls := "SoundWellsModel", name := "lay", desc := "()I" } : Jvm.MethodName)) ∈ TB := List.mem_filter.mpr ⟨List.mem_append_right _ (List.mem_of_getElem? (i := 704) (by decide +kernel)), (by decide +kernel)⟩
theorem tb_705 : (Jvm.Cond.selects "SoundWellsModel" ({ cls := "SoundWellsModel", name := "lay", desc := "()I" } : Jvm.MethodName) ({ cls := "SoundWellsModel", name := "lay", desc := "()I" } : Jvm.MethodName)) ∈ TB := List.mem_filter.mpr ⟨List.mem_append_right _ (List.mem_of_getElem? (i := 705) (by decide +kernel)), (by decide +kernel)⟩
theorem tb_706 : (Jvm.Cond.code ({ cls := "SoundWellsModel", name := "lay", desc := "()I" } : Jvm.MethodName) prog_9_method_19_code (2 : Nat) (Option.some Jvm.ClassFile.FieldType.int)) ∈ TB := List.mem_filter.mpr ⟨List.mem_append_right _ (List.mem_of_getElem? (i := 706) (by decide +kernel)), (by decide +kernel)⟩
theorem tb_707 : (Jvm.Cond.methodLink "SoundWellsModel" (96 : Nat) ({ cls := "SoundWellsModel", name := "fault", desc := "()I" } : Jvm.MethodName)) ∈ TB := List.mem_filter.mpr ⟨List.mem_append_right _ (List.mem_of_getElem? (i := 707) (by decide +kernel)), (by decide +kernel)⟩
theorem tb_708 : (Jvm.Cond.methodLink "SoundWellsLaw" (48 : Nat) ({ cls := "SoundWellsModel", name := "undo", desc := "()I" } : Jvm.MethodName)) ∈ TB := List.mem_filter.mpr ⟨List.mem_append_right _ (List.mem_of_getElem? (i := 708) (by decide +kernel)), (by decide +kernel)⟩
theorem tb_709 : (Jvm.Cond.instanceMethod ({ cls := "SoundWellsModel", name := "undo", desc := "()I" } : Jvm.MethodName)) ∈ TB := List.mem_filter.mpr ⟨List.mem_append_right _ (List.mem_of_getElem? (i := 709) (by decide +kernel)), (by decide +kernel)⟩
theorem tb_710 : (Jvm.Cond.selects "SoundWellsModel" ({ cls := "SoundWellsModel", name := "undo", desc := "()I" } : Jvm.MethodName) ({ cls := "SoundWellsModel", name := "undo", desc := "()I" } : Jvm.MethodName)) ∈ TB := List.mem_filter.mpr ⟨List.mem_append_right _ (List.mem_of_getElem? (i := 710) (by decide +kernel)), (by decide +kernel)⟩
theorem tb_711 : (Jvm.Cond.code ({ cls := "SoundWellsModel", name := "undo", desc := "()I" } : Jvm.MethodName) prog_9_method_21_code (2 : Nat) (Option.some Jvm.ClassFile.FieldType.int)) ∈ TB := List.mem_filter.mpr ⟨List.mem_append_right _ (List.mem_of_getElem? (i := 711) (by decide +kernel)), (by decide +kernel)⟩
theorem tb_712 : (Jvm.Cond.methodLink "SoundWellsLaw" (35 : Nat) ({ cls := "SoundWellsModel", name := "set", desc := "(III)I" } : Jvm.MethodName)) ∈ TB := List.mem_filter.mpr ⟨List.mem_append_right _ (List.mem_of_getElem? (i := 712) (by decide +kernel)), (by decide +kernel)⟩
theorem tb_713 : (Jvm.Cond.instanceMethod ({ cls := "SoundWellsModel", name := "set", desc := "(III)I" } : Jvm.MethodName)) ∈ TB := List.mem_filter.mpr ⟨List.mem_append_right _ (List.mem_of_getElem? (i := 713) (by decide +kernel)), (by decide +kernel)⟩
theorem tb_714 : (Jvm.Cond.selects "SoundWellsModel" ({ cls := "SoundWellsModel", name := "set", desc := "(III)I" } : Jvm.MethodName) ({ cls := "SoundWellsModel", name := "set", desc := "(III)I" } : Jvm.MethodName)) ∈ TB := List.mem_filter.mpr ⟨List.mem_append_right _ (List.mem_of_getElem? (i := 714) (by decide +kernel)), (by decide +kernel)⟩
theorem tb_715 : (Jvm.Cond.code ({ cls := "SoundWellsModel", name := "set", desc := "(III)I" } : Jvm.MethodName) prog_9_method_24_code (6 : Nat) (Option.some Jvm.ClassFile.FieldType.int)) ∈ TB := List.mem_filter.mpr ⟨List.mem_append_right _ (List.mem_of_getElem? (i := 715) (by decide +kernel)), (by decide +kernel)⟩
theorem tb_716 : (Jvm.Cond.methodLink "SoundWellsModel" (106 : Nat) ({ cls := "SoundWellsModel", name := "isPanel", desc := "(I)Z" } : Jvm.MethodName)) ∈ TB := List.mem_filter.mpr ⟨List.mem_append_right _ (List.mem_of_getElem? (i := 716) (by decide +kernel)), (by decide +kernel)⟩
theorem tb_718 : (Jvm.Cond.instanceMethod ({ cls := "SoundWellsModel", name := "isPanel", desc := "(I)Z" } : Jvm.MethodName)) ∈ TB := List.mem_filter.mpr ⟨List.mem_append_right _ (List.mem_of_getElem? (i := 718) (by decide +kernel)), (by decide +kernel)⟩
theorem tb_719 : (Jvm.Cond.code ({ cls := "SoundWellsModel", name := "isPanel", desc := "(I)Z" } : Jvm.MethodName) prog_9_method_23_code (2 : Nat) (Option.some Jvm.ClassFile.FieldType.boolean)) ∈ TB := List.mem_filter.mpr ⟨List.mem_append_right _ (List.mem_of_getElem? (i := 719) (by decide +kernel)), (by decide +kernel)⟩
theorem tb_720 : (Jvm.Cond.constantLong "SoundWellsModel" (109 : Nat) (40 : Int64)) ∈ TB := List.mem_filter.mpr ⟨List.mem_append_right _ (List.mem_of_getElem? (i := 720) (by decide +kernel)), (by decide +kernel)⟩
theorem tb_721 : (Jvm.Cond.methodLink "SoundWellsModel" (111 : Nat) ({ cls := "SoundWellsModel", name := "becomes", desc := "(II)I" } : Jvm.MethodName)) ∈ TB := List.mem_filter.mpr ⟨List.mem_append_right _ (List.mem_of_getElem? (i := 721) (by decide +kernel)), (by decide +kernel)⟩
theorem tb_723 : (Jvm.Cond.instanceMethod ({ cls := "SoundWellsModel", name := "becomes", desc := "(II)I" } : Jvm.MethodName)) ∈ TB := List.mem_filter.mpr ⟨List.mem_append_right _ (List.mem_of_getElem? (i := 723) (by decide +kernel)), (by decide +kernel)⟩
theorem tb_724 : (Jvm.Cond.code ({ cls := "SoundWellsModel", name := "becomes", desc := "(II)I" } : Jvm.MethodName) prog_9_method_22_code (4 : Nat) (Option.some Jvm.ClassFile.FieldType.int)) ∈ TB := List.mem_filter.mpr ⟨List.mem_append_right _ (List.mem_of_getElem? (i := 724) (by decide +kernel)), (by decide +kernel)⟩
theorem tb_725 : (Jvm.Cond.methodLink "SoundWellsModel" (103 : Nat) ({ cls := "SoundWellsModel", name := "note", desc := "()V" } : Jvm.MethodName)) ∈ TB := List.mem_filter.mpr ⟨List.mem_append_right _ (List.mem_of_getElem? (i := 725) (by decide +kernel)), (by decide +kernel)⟩
theorem tb_727 : (Jvm.Cond.instanceMethod ({ cls := "SoundWellsModel", name := "note", desc := "()V" } : Jvm.MethodName)) ∈ TB := List.mem_filter.mpr ⟨List.mem_append_right _ (List.mem_of_getElem? (i := 727) (by decide +kernel)), (by decide +kernel)⟩
theorem tb_728 : (Jvm.Cond.code ({ cls := "SoundWellsModel", name := "note", desc := "()V" } : Jvm.MethodName) prog_9_method_20_code (2 : Nat) (Option.none : Option Jvm.ClassFile.FieldType)) ∈ TB := List.mem_filter.mpr ⟨List.mem_append_right _ (List.mem_of_getElem? (i := 728) (by decide +kernel)), (by decide +kernel)⟩
theorem tb_729 : (Jvm.Cond.methodLink "SoundWellsLaw" (40 : Nat) ({ cls := "SoundWellsModel", name := "tell", desc := "(II)I" } : Jvm.MethodName)) ∈ TB := List.mem_filter.mpr ⟨List.mem_append_right _ (List.mem_of_getElem? (i := 729) (by decide +kernel)), (by decide +kernel)⟩
theorem tb_730 : (Jvm.Cond.instanceMethod ({ cls := "SoundWellsModel", name := "tell", desc := "(II)I" } : Jvm.MethodName)) ∈ TB := List.mem_filter.mpr ⟨List.mem_append_right _ (List.mem_of_getElem? (i := 730) (by decide +kernel)), (by decide +kernel)⟩
theorem tb_731 : (Jvm.Cond.selects "SoundWellsModel" ({ cls := "SoundWellsModel", name := "tell", desc := "(II)I" } : Jvm.MethodName) ({ cls := "SoundWellsModel", name := "tell", desc := "(II)I" } : Jvm.MethodName)) ∈ TB := List.mem_filter.mpr ⟨List.mem_append_right _ (List.mem_of_getElem? (i := 731) (by decide +kernel)), (by decide +kernel)⟩
theorem tb_732 : (Jvm.Cond.code ({ cls := "SoundWellsModel", name := "tell", desc := "(II)I" } : Jvm.MethodName) prog_9_method_25_code (4 : Nat) (Option.some Jvm.ClassFile.FieldType.int)) ∈ TB := List.mem_filter.mpr ⟨List.mem_append_right _ (List.mem_of_getElem? (i := 732) (by decide +kernel)), (by decide +kernel)⟩
theorem tb_733 : (Jvm.Cond.constantLong "SoundWellsModel" (114 : Nat) (20 : Int64)) ∈ TB := List.mem_filter.mpr ⟨List.mem_append_right _ (List.mem_of_getElem? (i := 733) (by decide +kernel)), (by decide +kernel)⟩
theorem tb_734 : (Jvm.Cond.constantLong "SoundWellsModel" (116 : Nat) (400 : Int64)) ∈ TB := List.mem_filter.mpr ⟨List.mem_append_right _ (List.mem_of_getElem? (i := 734) (by decide +kernel)), (by decide +kernel)⟩
theorem tb_735 : (Jvm.Cond.constantLong "SoundWellsModel" (118 : Nat) (5 : Int64)) ∈ TB := List.mem_filter.mpr ⟨List.mem_append_right _ (List.mem_of_getElem? (i := 735) (by decide +kernel)), (by decide +kernel)⟩
theorem tb_736 : (Jvm.Cond.methodLink "SoundWellsLaw" (44 : Nat) ({ cls := "SoundWellsModel", name := "take", desc := "(I)I" } : Jvm.MethodName)) ∈ TB := List.mem_filter.mpr ⟨List.mem_append_right _ (List.mem_of_getElem? (i := 736) (by decide +kernel)), (by decide +kernel)⟩
theorem tb_737 : (Jvm.Cond.instanceMethod ({ cls := "SoundWellsModel", name := "take", desc := "(I)I" } : Jvm.MethodName)) ∈ TB := List.mem_filter.mpr ⟨List.mem_append_right _ (List.mem_of_getElem? (i := 737) (by decide +kernel)), (by decide +kernel)⟩
theorem tb_738 : (Jvm.Cond.selects "SoundWellsModel" ({ cls := "SoundWellsModel", name := "take", desc := "(I)I" } : Jvm.MethodName) ({ cls := "SoundWellsModel", name := "take", desc := "(I)I" } : Jvm.MethodName)) ∈ TB := List.mem_filter.mpr ⟨List.mem_append_right _ (List.mem_of_getElem? (i := 738) (by decide +kernel)), (by decide +kernel)⟩
theorem tb_739 : (Jvm.Cond.code ({ cls := "SoundWellsModel", name := "take", desc := "(I)I" } : Jvm.MethodName) prog_9_method_26_code (3 : Nat) (Option.some Jvm.ClassFile.FieldType.int)) ∈ TB := List.mem_filter.mpr ⟨List.mem_append_right _ (List.mem_of_getElem? (i := 739) (by decide +kernel)), (by decide +kernel)⟩
theorem tb_740 : (Jvm.Cond.methodLink "SoundWellsLaw" (72 : Nat) ({ cls := "SoundWellsModel", name := "well", desc := "(II)I" } : Jvm.MethodName)) ∈ TB := List.mem_filter.mpr ⟨List.mem_append_right _ (List.mem_of_getElem? (i := 740) (by decide +kernel)), (by decide +kernel)⟩
theorem tb_741 : (Jvm.Cond.instanceMethod ({ cls := "SoundWellsModel", name := "well", desc := "(II)I" } : Jvm.MethodName)) ∈ TB := List.mem_filter.mpr ⟨List.mem_append_right _ (List.mem_of_getElem? (i := 741) (by decide +kernel)), (by decide +kernel)⟩
theorem tb_742 : (Jvm.Cond.selects "SoundWellsModel" ({ cls := "SoundWellsModel", name := "well", desc := "(II)I" } : Jvm.MethodName) ({ cls := "SoundWellsModel", name := "well", desc := "(II)I" } : Jvm.MethodName)) ∈ TB := List.mem_filter.mpr ⟨List.mem_append_right _ (List.mem_of_getElem? (i := 742) (by decide +kernel)), (by decide +kernel)⟩
theorem tb_743 : (Jvm.Cond.code ({ cls := "SoundWellsModel", name := "well", desc := "(II)I" } : Jvm.MethodName) prog_9_method_30_code (3 : Nat) (Option.some Jvm.ClassFile.FieldType.int)) ∈ TB := List.mem_filter.mpr ⟨List.mem_append_right _ (List.mem_of_getElem? (i := 743) (by decide +kernel)), (by decide +kernel)⟩
theorem tb_744 : (Jvm.Cond.methodLink "SoundWellsModel" (126 : Nat) ({ cls := "SoundWellsModel", name := "wellOf", desc := "(II)I" } : Jvm.MethodName)) ∈ TB := List.mem_filter.mpr ⟨List.mem_append_right _ (List.mem_of_getElem? (i := 744) (by decide +kernel)), (by decide +kernel)⟩
theorem tb_746 : (Jvm.Cond.instanceMethod ({ cls := "SoundWellsModel", name := "wellOf", desc := "(II)I" } : Jvm.MethodName)) ∈ TB := List.mem_filter.mpr ⟨List.mem_append_right _ (List.mem_of_getElem? (i := 746) (by decide +kernel)), (by decide +kernel)⟩
theorem tb_747 : (Jvm.Cond.code ({ cls := "SoundWellsModel", name := "wellOf", desc := "(II)I" } : Jvm.MethodName) prog_9_method_29_code (3 : Nat) (Option.some Jvm.ClassFile.FieldType.int)) ∈ TB := List.mem_filter.mpr ⟨List.mem_append_right _ (List.mem_of_getElem? (i := 747) (by decide +kernel)), (by decide +kernel)⟩
theorem tb_748 : (Jvm.Cond.methodLink "SoundWellsModel" (123 : Nat) ({ cls := "SoundWellsModel", name := "depth", desc := "(II)I" } : Jvm.MethodName)) ∈ TB := List.mem_filter.mpr ⟨List.mem_append_right _ (List.mem_of_getElem? (i := 748) (by decide +kernel)), (by decide +kernel)⟩
theorem tb_750 : (Jvm.Cond.instanceMethod ({ cls := "SoundWellsModel", name := "depth", desc := "(II)I" } : Jvm.MethodName)) ∈ TB := List.mem_filter.mpr ⟨List.mem_append_right _ (List.mem_of_getElem? (i := 750) (by decide +kernel)), (by decide +kernel)⟩
theorem tb_751 : (Jvm.Cond.code ({ cls := "SoundWellsModel", name := "depth", desc := "(II)I" } : Jvm.MethodName) prog_9_method_28_code (8 : Nat) (Option.some Jvm.ClassFile.FieldType.int)) ∈ TB := List.mem_filter.mpr ⟨List.mem_append_right _ (List.mem_of_getElem? (i := 751) (by decide +kernel)), (by decide +kernel)⟩
theorem tb_752 : (Jvm.Cond.methodLink "SoundWellsModel" (120 : Nat) ({ cls := "SoundWellsModel", name := "period", desc := "(I)I" } : Jvm.MethodName)) ∈ TB := List.mem_filter.mpr ⟨List.mem_append_right _ (List.mem_of_getElem? (i := 752) (by decide +kernel)), (by decide +kernel)⟩
theorem tb_754 : (Jvm.Cond.instanceMethod ({ cls := "SoundWellsModel", name := "period", desc := "(I)I" } : Jvm.MethodName)) ∈ TB := List.mem_filter.mpr ⟨List.mem_append_right _ (List.mem_of_getElem? (i := 754) (by decide +kernel)), (by decide +kernel)⟩
theorem tb_755 : (Jvm.Cond.code ({ cls := "SoundWellsModel", name := "period", desc := "(I)I" } : Jvm.MethodName) prog_9_method_27_code (2 : Nat) (Option.some Jvm.ClassFile.FieldType.int)) ∈ TB := List.mem_filter.mpr ⟨List.mem_append_right _ (List.mem_of_getElem? (i := 755) (by decide +kernel)), (by decide +kernel)⟩
theorem tb_756 : (Jvm.Cond.methodLink "SoundWellsLaw" (76 : Nat) ({ cls := "SoundWellsModel", name := "counts", desc := "(III)I" } : Jvm.MethodName)) ∈ TB := List.mem_filter.mpr ⟨List.mem_append_right _ (List.mem_of_getElem? (i := 756) (by decide +kernel)), (by decide +kernel)⟩
theorem tb_757 : (Jvm.Cond.instanceMethod ({ cls := "SoundWellsModel", name := "counts", desc := "(III)I" } : Jvm.MethodName)) ∈ TB := List.mem_filter.mpr ⟨List.mem_append_right _ (List.mem_of_getElem? (i := 757) (by decide +kernel)), (by decide +kernel)⟩
theorem tb_758 : (Jvm.Cond.selects "SoundWellsModel" ({ cls := "SoundWellsModel", name := "counts", desc := "(III)I" } : Jvm.MethodName) ({ cls := "SoundWellsModel", name := "counts", desc := "(III)I" } : Jvm.MethodName)) ∈ TB := List.mem_filter.mpr ⟨List.mem_append_right _ (List.mem_of_getElem? (i := 758) (by decide +kernel)), (by decide +kernel)⟩
theorem tb_759 : (Jvm.Cond.code ({ cls := "SoundWellsModel", name := "counts", desc := "(III)I" } : Jvm.MethodName) prog_9_method_32_code (4 : Nat) (Option.some Jvm.ClassFile.FieldType.int)) ∈ TB := List.mem_filter.mpr ⟨List.mem_append_right _ (List.mem_of_getElem? (i := 759) (by decide +kernel)), (by decide +kernel)⟩
theorem tb_760 : (Jvm.Cond.methodLink "SoundWellsModel" (129 : Nat) ({ cls := "SoundWellsModel", name := "countOf", desc := "(III)I" } : Jvm.MethodName)) ∈ TB := List.mem_filter.mpr ⟨List.mem_append_right _ (List.mem_of_getElem? (i := 760) (by decide +kernel)), (by decide +kernel)⟩
theorem tb_762 : (Jvm.Cond.instanceMethod ({ cls := "SoundWellsModel", name := "countOf", desc := "(III)I" } : Jvm.MethodName)) ∈ TB := List.mem_filter.mpr ⟨List.mem_append_right _ (List.mem_of_getElem? (i := 762) (by decide +kernel)), (by decide +kernel)⟩
theorem tb_763 : (Jvm.Cond.code ({ cls := "SoundWellsModel", name := "countOf", desc := "(III)I" } : Jvm.MethodName) prog_9_method_31_code (8 : Nat) (Option.some Jvm.ClassFile.FieldType.int)) ∈ TB := List.mem_filter.mpr ⟨List.mem_append_right _ (List.mem_of_getElem? (i := 763) (by decide +kernel)), (by decide +kernel)⟩
theorem tb_764 : (Jvm.Cond.methodLink "SoundWellsLaw" (68 : Nat) ({ cls := "SoundWellsModel", name := "panel", desc := "(II)I" } : Jvm.MethodName)) ∈ TB := List.mem_filter.mpr ⟨List.mem_append_right _ (List.mem_of_getElem? (i := 764) (by decide +kernel)), (by decide +kernel)⟩
theorem tb_765 : (Jvm.Cond.instanceMethod ({ cls := "SoundWellsModel", name := "panel", desc := "(II)I" } : Jvm.MethodName)) ∈ TB := List.mem_filter.mpr ⟨List.mem_append_right _ (List.mem_of_getElem? (i := 765) (by decide +kernel)), (by decide +kernel)⟩
theorem tb_766 : (Jvm.Cond.selects "SoundWellsModel" ({ cls := "SoundWellsModel", name := "panel", desc := "(II)I" } : Jvm.MethodName) ({ cls := "SoundWellsModel", name := "panel", desc := "(II)I" } : Jvm.MethodName)) ∈ TB := List.mem_filter.mpr ⟨List.mem_append_right _ (List.mem_of_getElem? (i := 766) (by decide +kernel)), (by decide +kernel)⟩
theorem tb_767 : (Jvm.Cond.code ({ cls := "SoundWellsModel", name := "panel", desc := "(II)I" } : Jvm.MethodName) prog_9_method_35_code (3 : Nat) (Option.some Jvm.ClassFile.FieldType.int)) ∈ TB := List.mem_filter.mpr ⟨List.mem_append_right _ (List.mem_of_getElem? (i := 767) (by decide +kernel)), (by decide +kernel)⟩
theorem tb_768 : (Jvm.Cond.constantLong "SoundWellsModel" (133 : Nat) (10 : Int64)) ∈ TB := List.mem_filter.mpr ⟨List.mem_append_right _ (List.mem_of_getElem? (i := 768) (by decide +kernel)), (by decide +kernel)⟩
theorem tb_769 : (Jvm.Cond.methodLink "SoundWellsModel" (135 : Nat) ({ cls := "SoundWellsModel", name := "sumOf", desc := "(II)I" } : Jvm.MethodName)) ∈ TB := List.mem_filter.mpr ⟨List.mem_append_right _ (List.mem_of_getElem? (i := 769) (by decide +kernel)), (by decide +kernel)⟩
theorem tb_771 : (Jvm.Cond.instanceMethod ({ cls := "SoundWellsModel", name := "sumOf", desc := "(II)I" } : Jvm.MethodName)) ∈ TB := List.mem_filter.mpr ⟨List.mem_append_right _ (List.mem_of_getElem? (i := 771) (by decide +kernel)), (by decide +kernel)⟩
theorem tb_772 : (Jvm.Cond.code ({ cls := "SoundWellsModel", name := "sumOf", desc := "(II)I" } : Jvm.MethodName) prog_9_method_34_code (10 : Nat) (Option.some Jvm.ClassFile.FieldType.int)) ∈ TB := List.mem_filter.mpr ⟨List.mem_append_right _ (List.mem_of_getElem? (i := 772) (by decide +kernel)), (by decide +kernel)⟩
theorem tb_773 : (Jvm.Cond.methodLink "SoundWellsModel" (138 : Nat) ({ cls := "SoundWellsModel", name := "even", desc := "(I)I" } : Jvm.MethodName)) ∈ TB := List.mem_filter.mpr ⟨List.mem_append_right _ (List.mem_of_getElem? (i := 773) (by decide +kernel)), (by decide +kernel)⟩
theorem tb_775 : (Jvm.Cond.instanceMethod ({ cls := "SoundWellsModel", name := "even", desc := "(I)I" } : Jvm.MethodName)) ∈ TB := List.mem_filter.mpr ⟨List.mem_append_right _ (List.mem_of_getElem? (i := 775) (by decide +kernel)), (by decide +kernel)⟩
theorem tb_776 : (Jvm.Cond.code ({ cls := "SoundWellsModel", name := "even", desc := "(I)I" } : Jvm.MethodName) prog_9_method_33_code (7 : Nat) (Option.some Jvm.ClassFile.FieldType.int)) ∈ TB := List.mem_filter.mpr ⟨List.mem_append_right _ (List.mem_of_getElem? (i := 776) (by decide +kernel)), (by decide +kernel)⟩
theorem tb_777 : (Jvm.Cond.methodLink "SoundWellsLaw" (80 : Nat) ({ cls := "SoundWellsModel", name := "plane", desc := "(III)I" } : Jvm.MethodName)) ∈ TB := List.mem_filter.mpr ⟨List.mem_append_right _ (List.mem_of_getElem? (i := 777) (by decide +kernel)), (by decide +kernel)⟩
theorem tb_778 : (Jvm.Cond.instanceMethod ({ cls := "SoundWellsModel", name := "plane", desc := "(III)I" } : Jvm.MethodName)) ∈ TB := List.mem_filter.mpr ⟨List.mem_append_right _ (List.mem_of_getElem? (i := 778) (by decide +kernel)), (by decide +kernel)⟩
theorem tb_779 : (Jvm.Cond.selects "SoundWellsModel" ({ cls := "SoundWellsModel", name := "plane", desc := "(III)I" } : Jvm.MethodName) ({ cls := "SoundWellsModel", name := "plane", desc := "(III)I" } : Jvm.MethodName)) ∈ TB := List.mem_filter.mpr ⟨List.mem_append_right _ (List.mem_of_getElem? (i := 779) (by decide +kernel)), (by decide +kernel)⟩
theorem tb_780 : (Jvm.Cond.code ({ cls := "SoundWellsModel", name := "plane", desc := "(III)I" } : Jvm.MethodName) prog_9_method_37_code (4 : Nat) (Option.some Jvm.ClassFile.FieldType.int)) ∈ TB := List.mem_filter.mpr ⟨List.mem_append_right _ (List.mem_of_getElem? (i := 780) (by decide +kernel)), (by decide +kernel)⟩
theorem tb_781 : (Jvm.Cond.methodLink "SoundWellsModel" (141 : Nat) ({ cls := "SoundWellsModel", name := "planeOf", desc := "(III)I" } : Jvm.MethodName)) ∈ TB := List.mem_filter.mpr ⟨List.mem_append_right _ (List.mem_of_getElem? (i := 781) (by decide +kernel)), (by decide +kernel)⟩
theorem tb_783 : (Jvm.Cond.instanceMethod ({ cls := "SoundWellsModel", name := "planeOf", desc := "(III)I" } : Jvm.MethodName)) ∈ TB := List.mem_filter.mpr ⟨List.mem_append_right _ (List.mem_of_getElem? (i := 783) (by decide +kernel)), (by decide +kernel)⟩
theorem tb_784 : (Jvm.Cond.code ({ cls := "SoundWellsModel", name := "planeOf", desc := "(III)I" } : Jvm.MethodName) prog_9_method_36_code (4 : Nat) (Option.some Jvm.ClassFile.FieldType.int)) ∈ TB := List.mem_filter.mpr ⟨List.mem_append_right _ (List.mem_of_getElem? (i := 784) (by decide +kernel)), (by decide +kernel)⟩
theorem tb_785 : (Jvm.Cond.methodLink "SoundWellsLaw" (84 : Nat) ({ cls := "SoundWellsModel", name := "planes", desc := "(II)I" } : Jvm.MethodName)) ∈ TB := List.mem_filter.mpr ⟨List.mem_append_right _ (List.mem_of_getElem? (i := 785) (by decide +kernel)), (by decide +kernel)⟩
theorem tb_786 : (Jvm.Cond.instanceMethod ({ cls := "SoundWellsModel", name := "planes", desc := "(II)I" } : Jvm.MethodName)) ∈ TB := List.mem_filter.mpr ⟨List.mem_append_right _ (List.mem_of_getElem? (i := 786) (by decide +kernel)), (by decide +kernel)⟩
theorem tb_787 : (Jvm.Cond.selects "SoundWellsModel" ({ cls := "SoundWellsModel", name := "planes", desc := "(II)I" } : Jvm.MethodName) ({ cls := "SoundWellsModel", name := "planes", desc := "(II)I" } : Jvm.MethodName)) ∈ TB := List.mem_filter.mpr ⟨List.mem_append_right _ (List.mem_of_getElem? (i := 787) (by decide +kernel)), (by decide +kernel)⟩
theorem tb_788 : (Jvm.Cond.code ({ cls := "SoundWellsModel", name := "planes", desc := "(II)I" } : Jvm.MethodName) prog_9_method_38_code (6 : Nat) (Option.some Jvm.ClassFile.FieldType.int)) ∈ TB := List.mem_filter.mpr ⟨List.mem_append_right _ (List.mem_of_getElem? (i := 788) (by decide +kernel)), (by decide +kernel)⟩
theorem tb_789 : (Jvm.Cond.methodLink "SoundWellsLaw" (88 : Nat) ({ cls := "SoundWellsModel", name := "cut", desc := "(I)I" } : Jvm.MethodName)) ∈ TB := List.mem_filter.mpr ⟨List.mem_append_right _ (List.mem_of_getElem? (i := 789) (by decide +kernel)), (by decide +kernel)⟩
theorem tb_790 : (Jvm.Cond.instanceMethod ({ cls := "SoundWellsModel", name := "cut", desc := "(I)I" } : Jvm.MethodName)) ∈ TB := List.mem_filter.mpr ⟨List.mem_append_right _ (List.mem_of_getElem? (i := 790) (by decide +kernel)), (by decide +kernel)⟩
theorem tb_791 : (Jvm.Cond.selects "SoundWellsModel" ({ cls := "SoundWellsModel", name := "cut", desc := "(I)I" } : Jvm.MethodName) ({ cls := "SoundWellsModel", name := "cut", desc := "(I)I" } : Jvm.MethodName)) ∈ TB := List.mem_filter.mpr ⟨List.mem_append_right _ (List.mem_of_getElem? (i := 791) (by decide +kernel)), (by decide +kernel)⟩
theorem tb_792 : (Jvm.Cond.code ({ cls := "SoundWellsModel", name := "cut", desc := "(I)I" } : Jvm.MethodName) prog_9_method_41_code (2 : Nat) (Option.some Jvm.ClassFile.FieldType.int)) ∈ TB := List.mem_filter.mpr ⟨List.mem_append_right _ (List.mem_of_getElem? (i := 792) (by decide +kernel)), (by decide +kernel)⟩
theorem tb_793 : (Jvm.Cond.constantLong "SoundWellsModel" (159 : Nat) (4 : Int64)) ∈ TB := List.mem_filter.mpr ⟨List.mem_append_right _ (List.mem_of_getElem? (i := 793) (by decide +kernel)), (by decide +kernel)⟩
theorem tb_794 : (Jvm.Cond.methodLink "SoundWellsModel" (161 : Nat) ({ cls := "SoundWellsModel", name := "cutsAll", desc := "()V" } : Jvm.MethodName)) ∈ TB := List.mem_filter.mpr ⟨List.mem_append_right _ (List.mem_of_getElem? (i := 794) (by decide +kernel)), (by decide +kernel)⟩
theorem tb_796 : (Jvm.Cond.instanceMethod ({ cls := "SoundWellsModel", name := "cutsAll", desc := "()V" } : Jvm.MethodName)) ∈ TB := List.mem_filter.mpr ⟨List.mem_append_right _ (List.mem_of_getElem? (i := 796) (by decide +kernel)), (by decide +kernel)⟩
theorem tb_797 : (Jvm.Cond.code ({ cls := "SoundWellsModel", name := "cutsAll", desc := "()V" } : Jvm.MethodName) prog_9_method_40_code (4 : Nat) (Option.none : Option Jvm.ClassFile.FieldType)) ∈ TB := List.mem_filter.mpr ⟨List.mem_append_right _ (List.mem_of_getElem? (i := 797) (by decide +kernel)), (by decide +kernel)⟩
theorem tb_798 : (Jvm.Cond.methodLink "SoundWellsModel" (156 : Nat) ({ cls := "SoundWellsModel", name := "cuts", desc := "(II)V" } : Jvm.MethodName)) ∈ TB := List.mem_filter.mpr ⟨List.mem_append_right _ (List.mem_of_getElem? (i := 798) (by decide +kernel)), (by decide +kernel)⟩
theorem tb_800 : (Jvm.Cond.instanceMethod ({ cls := "SoundWellsModel", name := "cuts", desc := "(II)V" } : Jvm.MethodName)) ∈ TB := List.mem_filter.mpr ⟨List.mem_append_right _ (List.mem_of_getElem? (i := 800) (by decide +kernel)), (by decide +kernel)⟩
theorem tb_801 : (Jvm.Cond.code ({ cls := "SoundWellsModel", name := "cuts", desc := "(II)V" } : Jvm.MethodName) prog_9_method_39_code (4 : Nat) (Option.none : Option Jvm.ClassFile.FieldType)) ∈ TB := List.mem_filter.mpr ⟨List.mem_append_right _ (List.mem_of_getElem? (i := 801) (by decide +kernel)), (by decide +kernel)⟩
theorem tb_802 : (Jvm.Cond.methodLink "SoundWellsLaw" (92 : Nat) ({ cls := "SoundWellsModel", name := "board", desc := "(II)I" } : Jvm.MethodName)) ∈ TB := List.mem_filter.mpr ⟨List.mem_append_right _ (List.mem_of_getElem? (i := 802) (by decide +kernel)), (by decide +kernel)⟩
theorem tb_803 : (Jvm.Cond.instanceMethod ({ cls := "SoundWellsModel", name := "board", desc := "(II)I" } : Jvm.MethodName)) ∈ TB := List.mem_filter.mpr ⟨List.mem_append_right _ (List.mem_of_getElem? (i := 803) (by decide +kernel)), (by decide +kernel)⟩
theorem tb_804 : (Jvm.Cond.selects "SoundWellsModel" ({ cls := "SoundWellsModel", name := "board", desc := "(II)I" } : Jvm.MethodName) ({ cls := "SoundWellsModel", name := "board", desc := "(II)I" } : Jvm.MethodName)) ∈ TB := List.mem_filter.mpr ⟨List.mem_append_right _ (List.mem_of_getElem? (i := 804) (by decide +kernel)), (by decide +kernel)⟩
theorem tb_805 : (Jvm.Cond.code ({ cls := "SoundWellsModel", name := "board", desc := "(II)I" } : Jvm.MethodName) prog_9_method_42_code (3 : Nat) (Option.some Jvm.ClassFile.FieldType.int)) ∈ TB := List.mem_filter.mpr ⟨List.mem_append_right _ (List.mem_of_getElem? (i := 805) (by decide +kernel)), (by decide +kernel)⟩
theorem tb_806 : (Jvm.Cond.methodLink "SoundWellsLaw" (96 : Nat) ({ cls := "SoundWellsModel", name := "where", desc := "(II)I" } : Jvm.MethodName)) ∈ TB := List.mem_filter.mpr ⟨List.mem_append_right _ (List.mem_of_getElem? (i := 806) (by decide +kernel)), (by decide +kernel)⟩
theorem tb_807 : (Jvm.Cond.instanceMethod ({ cls := "SoundWellsModel", name := "where", desc := "(II)I" } : Jvm.MethodName)) ∈ TB := List.mem_filter.mpr ⟨List.mem_append_right _ (List.mem_of_getElem? (i := 807) (by decide +kernel)), (by decide +kernel)⟩
theorem tb_808 : (Jvm.Cond.selects "SoundWellsModel" ({ cls := "SoundWellsModel", name := "where", desc := "(II)I" } : Jvm.MethodName) ({ cls := "SoundWellsModel", name := "where", desc := "(II)I" } : Jvm.MethodName)) ∈ TB := List.mem_filter.mpr ⟨List.mem_append_right _ (List.mem_of_getElem? (i := 808) (by decide +kernel)), (by decide +kernel)⟩
theorem tb_809 : (Jvm.Cond.code ({ cls := "SoundWellsModel", name := "where", desc := "(II)I" } : Jvm.MethodName) prog_9_method_43_code (3 : Nat) (Option.some Jvm.ClassFile.FieldType.int)) ∈ TB := List.mem_filter.mpr ⟨List.mem_append_right _ (List.mem_of_getElem? (i := 809) (by decide +kernel)), (by decide +kernel)⟩
theorem tb_810 : (Jvm.Cond.methodLink "SoundWellsLaw" (100 : Nat) ({ cls := "SoundWellsModel", name := "best", desc := "(II)I" } : Jvm.MethodName)) ∈ TB := List.mem_filter.mpr ⟨List.mem_append_right _ (List.mem_of_getElem? (i := 810) (by decide +kernel)), (by decide +kernel)⟩
theorem tb_811 : (Jvm.Cond.instanceMethod ({ cls := "SoundWellsModel", name := "best", desc := "(II)I" } : Jvm.MethodName)) ∈ TB := List.mem_filter.mpr ⟨List.mem_append_right _ (List.mem_of_getElem? (i := 811) (by decide +kernel)), (by decide +kernel)⟩
theorem tb_812 : (Jvm.Cond.selects "SoundWellsModel" ({ cls := "SoundWellsModel", name := "best", desc := "(II)I" } : Jvm.MethodName) ({ cls := "SoundWellsModel", name := "best", desc := "(II)I" } : Jvm.MethodName)) ∈ TB := List.mem_filter.mpr ⟨List.mem_append_right _ (List.mem_of_getElem? (i := 812) (by decide +kernel)), (by decide +kernel)⟩
theorem tb_813 : (Jvm.Cond.code ({ cls := "SoundWellsModel", name := "best", desc := "(II)I" } : Jvm.MethodName) prog_9_method_44_code (11 : Nat) (Option.some Jvm.ClassFile.FieldType.int)) ∈ TB := List.mem_filter.mpr ⟨List.mem_append_right _ (List.mem_of_getElem? (i := 813) (by decide +kernel)), (by decide +kernel)⟩
theorem tb_814 : (Jvm.Cond.methodLink "SoundWellsLaw" (104 : Nat) ({ cls := "SoundWellsModel", name := "count", desc := "(I)I" } : Jvm.MethodName)) ∈ TB := List.mem_filter.mpr ⟨List.mem_append_right _ (List.mem_of_getElem? (i := 814) (by decide +kernel)), (by decide +kernel)⟩
theorem tb_815 : (Jvm.Cond.instanceMethod ({ cls := "SoundWellsModel", name := "count", desc := "(I)I" } : Jvm.MethodName)) ∈ TB := List.mem_filter.mpr ⟨List.mem_append_right _ (List.mem_of_getElem? (i := 815) (by decide +kernel)), (by decide +kernel)⟩
theorem tb_816 : (Jvm.Cond.selects "SoundWellsModel" ({ cls := "SoundWellsModel", name := "count", desc := "(I)I" } : Jvm.MethodName) ({ cls := "SoundWellsModel", name := "count", desc := "(I)I" } : Jvm.MethodName)) ∈ TB := List.mem_filter.mpr ⟨List.mem_append_right _ (List.mem_of_getElem? (i := 816) (by decide +kernel)), (by decide +kernel)⟩
theorem tb_817 : (Jvm.Cond.code ({ cls := "SoundWellsModel", name := "count", desc := "(I)I" } : Jvm.MethodName) prog_9_method_45_code (4 : Nat) (Option.some Jvm.ClassFile.FieldType.int)) ∈ TB := List.mem_filter.mpr ⟨List.mem_append_right _ (List.mem_of_getElem? (i := 817) (by decide +kernel)), (by decide +kernel)⟩
theorem tbs_0 : Cond.selects "SoundWells$Reader" (⟨"SoundWells$Reader", "readItem", "(I)I"⟩ : MethodName) (⟨"SoundWells$Reader", "readItem", "(I)I"⟩ : MethodName) ∈ TB := List.mem_filter.mpr ⟨List.mem_append_left _ (List.mem_of_getElem? (i := 0) (by decide +kernel)), (by decide +kernel)⟩
theorem tbs_1 : Cond.selects "SoundWells$Reader" (⟨"SoundWells$Reader", "letterAt", "(I)C"⟩ : MethodName) (⟨"SoundWells$Reader", "letterAt", "(I)C"⟩ : MethodName) ∈ TB := List.mem_filter.mpr ⟨List.mem_append_left _ (List.mem_of_getElem? (i := 1) (by decide +kernel)), (by decide +kernel)⟩
theorem tbs_2 : Cond.selects "SoundWells$Reader" (⟨"SoundWells$Reader", "endOfFigures", "(I)I"⟩ : MethodName) (⟨"SoundWells$Reader", "endOfFigures", "(I)I"⟩ : MethodName) ∈ TB := List.mem_filter.mpr ⟨List.mem_append_left _ (List.mem_of_getElem? (i := 2) (by decide +kernel)), (by decide +kernel)⟩
theorem tbs_3 : Cond.selects "SoundWells$Reader" (⟨"SoundWells$Reader", "isFigure", "(I)Z"⟩ : MethodName) (⟨"SoundWells$Reader", "isFigure", "(I)Z"⟩ : MethodName) ∈ TB := List.mem_filter.mpr ⟨List.mem_append_left _ (List.mem_of_getElem? (i := 3) (by decide +kernel)), (by decide +kernel)⟩
theorem tbs_4 : Cond.selects "SoundWells$Reader" (⟨"SoundWells$Reader", "valueOf", "(II)I"⟩ : MethodName) (⟨"SoundWells$Reader", "valueOf", "(II)I"⟩ : MethodName) ∈ TB := List.mem_filter.mpr ⟨List.mem_append_left _ (List.mem_of_getElem? (i := 4) (by decide +kernel)), (by decide +kernel)⟩
theorem tbs_5 : Cond.selects "SoundWells$Reader" (⟨"SoundWells$Reader", "keepItem", "(C)Z"⟩ : MethodName) (⟨"SoundWells$Reader", "keepItem", "(C)Z"⟩ : MethodName) ∈ TB := List.mem_filter.mpr ⟨List.mem_append_left _ (List.mem_of_getElem? (i := 5) (by decide +kernel)), (by decide +kernel)⟩
theorem tbs_6 : Cond.selects "SoundWells$Reader" (⟨"SoundWells$Reader", "keepUnit", "()Z"⟩ : MethodName) (⟨"SoundWells$Reader", "keepUnit", "()Z"⟩ : MethodName) ∈ TB := List.mem_filter.mpr ⟨List.mem_append_left _ (List.mem_of_getElem? (i := 6) (by decide +kernel)), (by decide +kernel)⟩
theorem tbs_7 : Cond.selects "SoundWells$Reader" (⟨"SoundWells$Reader", "keepBoard", "()Z"⟩ : MethodName) (⟨"SoundWells$Reader", "keepBoard", "()Z"⟩ : MethodName) ∈ TB := List.mem_filter.mpr ⟨List.mem_append_left _ (List.mem_of_getElem? (i := 7) (by decide +kernel)), (by decide +kernel)⟩
theorem tbs_8 : Cond.selects "SoundWells" (⟨"SoundWells", "change", "(LSoundWells$Plan;)V"⟩ : MethodName) (⟨"SoundWells", "change", "(LSoundWells$Plan;)V"⟩ : MethodName) ∈ TB := List.mem_filter.mpr ⟨List.mem_append_left _ (List.mem_of_getElem? (i := 8) (by decide +kernel)), (by decide +kernel)⟩
theorem tbs_9 : Cond.selects "SoundWells$Panel" (⟨"SoundWells$Panel", "differenceAt", "(II)I"⟩ : MethodName) (⟨"SoundWells$Panel", "differenceAt", "(II)I"⟩ : MethodName) ∈ TB := List.mem_filter.mpr ⟨List.mem_append_left _ (List.mem_of_getElem? (i := 9) (by decide +kernel)), (by decide +kernel)⟩
theorem tbs_10 : Cond.selects "SoundWells$Saw" (⟨"SoundWells$Saw", "start", "(LSoundWells$Plan;)V"⟩ : MethodName) (⟨"SoundWells$Saw", "start", "(LSoundWells$Plan;)V"⟩ : MethodName) ∈ TB := List.mem_filter.mpr ⟨List.mem_append_left _ (List.mem_of_getElem? (i := 10) (by decide +kernel)), (by decide +kernel)⟩
theorem tbs_11 : Cond.selects "SoundWells$Saw" (⟨"SoundWells$Saw", "gather", "(LSoundWells$Panel;I)V"⟩ : MethodName) (⟨"SoundWells$Saw", "gather", "(LSoundWells$Panel;I)V"⟩ : MethodName) ∈ TB := List.mem_filter.mpr ⟨List.mem_append_left _ (List.mem_of_getElem? (i := 11) (by decide +kernel)), (by decide +kernel)⟩
theorem tbs_12 : Cond.selects "SoundWells$Saw" (⟨"SoundWells$Saw", "cutAlike", "(II)V"⟩ : MethodName) (⟨"SoundWells$Saw", "cutAlike", "(II)V"⟩ : MethodName) ∈ TB := List.mem_filter.mpr ⟨List.mem_append_left _ (List.mem_of_getElem? (i := 12) (by decide +kernel)), (by decide +kernel)⟩
theorem tbs_13 : Cond.selects "SoundWells$Saw" (⟨"SoundWells$Saw", "hasRoom", "(II)Z"⟩ : MethodName) (⟨"SoundWells$Saw", "hasRoom", "(II)Z"⟩ : MethodName) ∈ TB := List.mem_filter.mpr ⟨List.mem_append_left _ (List.mem_of_getElem? (i := 13) (by decide +kernel)), (by decide +kernel)⟩
theorem tbs_14 : Cond.selects "SoundWells$Saw" (⟨"SoundWells$Saw", "cutFrom", "(II)V"⟩ : MethodName) (⟨"SoundWells$Saw", "cutFrom", "(II)V"⟩ : MethodName) ∈ TB := List.mem_filter.mpr ⟨List.mem_append_left _ (List.mem_of_getElem? (i := 14) (by decide +kernel)), (by decide +kernel)⟩
theorem tbs_15 : Cond.selects "SoundWellsModel" (⟨"SoundWellsModel", "tells", "(IIIIII)V"⟩ : MethodName) (⟨"SoundWellsModel", "tells", "(IIIIII)V"⟩ : MethodName) ∈ TB := List.mem_filter.mpr ⟨List.mem_append_left _ (List.mem_of_getElem? (i := 15) (by decide +kernel)), (by decide +kernel)⟩
theorem tbs_16 : Cond.selects "SoundWellsModel" (⟨"SoundWellsModel", "item", "(I)Z"⟩ : MethodName) (⟨"SoundWellsModel", "item", "(I)Z"⟩ : MethodName) ∈ TB := List.mem_filter.mpr ⟨List.mem_append_left _ (List.mem_of_getElem? (i := 16) (by decide +kernel)), (by decide +kernel)⟩
theorem tbs_17 : Cond.selects "SoundWellsModel" (⟨"SoundWellsModel", "panelItem", "(I)Z"⟩ : MethodName) (⟨"SoundWellsModel", "panelItem", "(I)Z"⟩ : MethodName) ∈ TB := List.mem_filter.mpr ⟨List.mem_append_left _ (List.mem_of_getElem? (i := 17) (by decide +kernel)), (by decide +kernel)⟩
theorem tbs_18 : Cond.selects "SoundWellsModel" (⟨"SoundWellsModel", "number", "(IIII)Z"⟩ : MethodName) (⟨"SoundWellsModel", "number", "(IIII)Z"⟩ : MethodName) ∈ TB := List.mem_filter.mpr ⟨List.mem_append_left _ (List.mem_of_getElem? (i := 18) (by decide +kernel)), (by decide +kernel)⟩
theorem tbs_19 : Cond.selects "SoundWellsModel" (⟨"SoundWellsModel", "byteAt", "(I)I"⟩ : MethodName) (⟨"SoundWellsModel", "byteAt", "(I)I"⟩ : MethodName) ∈ TB := List.mem_filter.mpr ⟨List.mem_append_left _ (List.mem_of_getElem? (i := 19) (by decide +kernel)), (by decide +kernel)⟩
theorem tbs_20 : Cond.selects "SoundWellsModel" (⟨"SoundWellsModel", "isPanel", "(I)Z"⟩ : MethodName) (⟨"SoundWellsModel", "isPanel", "(I)Z"⟩ : MethodName) ∈ TB := List.mem_filter.mpr ⟨List.mem_append_left _ (List.mem_of_getElem? (i := 20) (by decide +kernel)), (by decide +kernel)⟩
theorem tbs_21 : Cond.selects "SoundWellsModel" (⟨"SoundWellsModel", "becomes", "(II)I"⟩ : MethodName) (⟨"SoundWellsModel", "becomes", "(II)I"⟩ : MethodName) ∈ TB := List.mem_filter.mpr ⟨List.mem_append_left _ (List.mem_of_getElem? (i := 21) (by decide +kernel)), (by decide +kernel)⟩
theorem tbs_22 : Cond.selects "SoundWellsModel" (⟨"SoundWellsModel", "note", "()V"⟩ : MethodName) (⟨"SoundWellsModel", "note", "()V"⟩ : MethodName) ∈ TB := List.mem_filter.mpr ⟨List.mem_append_left _ (List.mem_of_getElem? (i := 22) (by decide +kernel)), (by decide +kernel)⟩
theorem tbs_23 : Cond.selects "SoundWellsModel" (⟨"SoundWellsModel", "wellOf", "(II)I"⟩ : MethodName) (⟨"SoundWellsModel", "wellOf", "(II)I"⟩ : MethodName) ∈ TB := List.mem_filter.mpr ⟨List.mem_append_left _ (List.mem_of_getElem? (i := 23) (by decide +kernel)), (by decide +kernel)⟩
theorem tbs_24 : Cond.selects "SoundWellsModel" (⟨"SoundWellsModel", "depth", "(II)I"⟩ : MethodName) (⟨"SoundWellsModel", "depth", "(II)I"⟩ : MethodName) ∈ TB := List.mem_filter.mpr ⟨List.mem_append_left _ (List.mem_of_getElem? (i := 24) (by decide +kernel)), (by decide +kernel)⟩
theorem tbs_25 : Cond.selects "SoundWellsModel" (⟨"SoundWellsModel", "period", "(I)I"⟩ : MethodName) (⟨"SoundWellsModel", "period", "(I)I"⟩ : MethodName) ∈ TB := List.mem_filter.mpr ⟨List.mem_append_left _ (List.mem_of_getElem? (i := 25) (by decide +kernel)), (by decide +kernel)⟩
theorem tbs_26 : Cond.selects "SoundWellsModel" (⟨"SoundWellsModel", "countOf", "(III)I"⟩ : MethodName) (⟨"SoundWellsModel", "countOf", "(III)I"⟩ : MethodName) ∈ TB := List.mem_filter.mpr ⟨List.mem_append_left _ (List.mem_of_getElem? (i := 26) (by decide +kernel)), (by decide +kernel)⟩
theorem tbs_27 : Cond.selects "SoundWellsModel" (⟨"SoundWellsModel", "sumOf", "(II)I"⟩ : MethodName) (⟨"SoundWellsModel", "sumOf", "(II)I"⟩ : MethodName) ∈ TB := List.mem_filter.mpr ⟨List.mem_append_left _ (List.mem_of_getElem? (i := 27) (by decide +kernel)), (by decide +kernel)⟩
theorem tbs_28 : Cond.selects "SoundWellsModel" (⟨"SoundWellsModel", "even", "(I)I"⟩ : MethodName) (⟨"SoundWellsModel", "even", "(I)I"⟩ : MethodName) ∈ TB := List.mem_filter.mpr ⟨List.mem_append_left _ (List.mem_of_getElem? (i := 28) (by decide +kernel)), (by decide +kernel)⟩
theorem tbs_29 : Cond.selects "SoundWellsModel" (⟨"SoundWellsModel", "planeOf", "(III)I"⟩ : MethodName) (⟨"SoundWellsModel", "planeOf", "(III)I"⟩ : MethodName) ∈ TB := List.mem_filter.mpr ⟨List.mem_append_left _ (List.mem_of_getElem? (i := 29) (by decide +kernel)), (by decide +kernel)⟩
theorem tbs_30 : Cond.selects "SoundWellsModel" (⟨"SoundWellsModel", "cutsAll", "()V"⟩ : MethodName) (⟨"SoundWellsModel", "cutsAll", "()V"⟩ : MethodName) ∈ TB := List.mem_filter.mpr ⟨List.mem_append_left _ (List.mem_of_getElem? (i := 30) (by decide +kernel)), (by decide +kernel)⟩
theorem tbs_31 : Cond.selects "SoundWellsModel" (⟨"SoundWellsModel", "cuts", "(II)V"⟩ : MethodName) (⟨"SoundWellsModel", "cuts", "(II)V"⟩ : MethodName) ∈ TB := List.mem_filter.mpr ⟨List.mem_append_left _ (List.mem_of_getElem? (i := 31) (by decide +kernel)), (by decide +kernel)⟩
theorem inTB_X0 : ∀ w ∈ wsX00, w ∈ TB := fun _ h => absurd h List.not_mem_nil
theorem inTB_X1 : ∀ w ∈ wsX10, w ∈ TB := List.forall_mem_cons.mpr ⟨tb_157, List.forall_mem_cons.mpr ⟨tb_159, List.forall_mem_cons.mpr ⟨tb_161, List.forall_mem_cons.mpr ⟨tb_163, List.forall_mem_cons.mpr ⟨tb_165, List.forall_mem_cons.mpr ⟨tb_167, List.forall_mem_cons.mpr ⟨tb_169, fun _ h => absurd h List.not_mem_nil⟩⟩⟩⟩⟩⟩⟩
theorem inTB_X2 : ∀ w ∈ wsX20, w ∈ TB := List.forall_mem_cons.mpr ⟨tb_66, List.forall_mem_cons.mpr ⟨tb_68, fun _ h => absurd h List.not_mem_nil⟩⟩
theorem inTB_X3 : ∀ w ∈ wsX30, w ∈ TB := List.forall_mem_cons.mpr ⟨tb_190, List.forall_mem_cons.mpr ⟨tb_192, List.forall_mem_cons.mpr ⟨tb_194, List.forall_mem_cons.mpr ⟨tb_196, fun _ h => absurd h List.not_mem_nil⟩⟩⟩⟩
theorem inTB_X4 : ∀ w ∈ wsX40, w ∈ TB := List.forall_mem_cons.mpr ⟨tb_36, List.forall_mem_cons.mpr ⟨tb_38, List.forall_mem_cons.mpr ⟨tb_40, List.forall_mem_cons.mpr ⟨tb_42, List.forall_mem_cons.mpr ⟨tb_44, List.forall_mem_cons.mpr ⟨tb_46, List.forall_mem_cons.mpr ⟨tb_48, List.forall_mem_cons.mpr ⟨tb_50, fun _ h => absurd h List.not_mem_nil⟩⟩⟩⟩⟩⟩⟩⟩
theorem inTB_X5 : ∀ w ∈ wsX50, w ∈ TB := List.forall_mem_cons.mpr ⟨tb_97, List.forall_mem_cons.mpr ⟨tb_99, List.forall_mem_cons.mpr ⟨tb_101, List.forall_mem_cons.mpr ⟨tb_103, List.forall_mem_cons.mpr ⟨tb_105, List.forall_mem_cons.mpr ⟨tb_107, List.forall_mem_cons.mpr ⟨tb_109, List.forall_mem_cons.mpr ⟨tb_111, List.forall_mem_cons.mpr ⟨tb_113, List.forall_mem_cons.mpr ⟨tb_115, List.forall_mem_cons.mpr ⟨tb_117, List.forall_mem_cons.mpr ⟨tb_119, List.forall_mem_cons.mpr ⟨tb_121, List.forall_mem_cons.mpr ⟨tb_123, fun _ h => absurd h List.not_mem_nil⟩⟩⟩⟩⟩⟩⟩⟩⟩⟩⟩⟩⟩⟩
theorem inTB_X6 : ∀ w ∈ wsX60, w ∈ TB := List.forall_mem_cons.mpr ⟨tb_205, List.forall_mem_cons.mpr ⟨tb_207, List.forall_mem_cons.mpr ⟨tb_209, List.forall_mem_cons.mpr ⟨tb_211, List.forall_mem_cons.mpr ⟨tb_213, List.forall_mem_cons.mpr ⟨tb_215, fun _ h => absurd h List.not_mem_nil⟩⟩⟩⟩⟩⟩
theorem inTB_X7 : ∀ w ∈ wsX70, w ∈ TB := List.forall_mem_cons.mpr ⟨tb_604, List.forall_mem_cons.mpr ⟨tb_606, List.forall_mem_cons.mpr ⟨tb_608, List.forall_mem_cons.mpr ⟨tb_610, List.forall_mem_cons.mpr ⟨tb_612, List.forall_mem_cons.mpr ⟨tb_614, List.forall_mem_cons.mpr ⟨tb_616, List.forall_mem_cons.mpr ⟨tb_618, List.forall_mem_cons.mpr ⟨tb_620, List.forall_mem_cons.mpr ⟨tb_622, List.forall_mem_cons.mpr ⟨tb_624, List.forall_mem_cons.mpr ⟨tb_626, List.forall_mem_cons.mpr ⟨tb_628, List.forall_mem_cons.mpr ⟨tb_630, List.forall_mem_cons.mpr ⟨tb_632, List.forall_mem_cons.mpr ⟨tb_634, fun _ h => absurd h List.not_mem_nil⟩⟩⟩⟩⟩⟩⟩⟩⟩⟩⟩⟩⟩⟩⟩⟩
theorem gTB {c c2 : Cond} (h : c2 ∈ TB) : GoodIn (c :: TB) (c2 :: TB) := fun w hw => (List.mem_cons.mp hw).elim (fun e => by subst e; exact ⟨List.mem_cons_of_mem _ h, good_of_word (List.mem_filter.mp h).2⟩) (fun h2 => ⟨List.mem_cons_of_mem _ h2, good_of_word (List.mem_filter.mp h2).2⟩)
theorem gTB1 {c c2 : Cond} (h : c2 ∈ TB) : c2 ∈ c :: TB ∧ ((c2.onTables && c2.keeps) = true ∨ ∃ ty, c2 = .arrayClass ty) := ⟨List.mem_cons_of_mem _ h, good_of_word (List.mem_filter.mp h).2⟩
theorem gCons {big ws : List Cond} {w : Cond} (h1 : w ∈ big ∧ ((w.onTables && w.keeps) = true ∨ ∃ ty, w = .arrayClass ty)) (h : GoodIn big ws) : GoodIn big (w :: ws) := fun x hx => (List.mem_cons.mp hx).elim (fun e => by subst e; exact h1) (fun h2 => h x h2)
theorem gV {c c2 : Cond} {own C : String} {i : Nat} {y : MethodName} (h1 : Cond.methodLink own i y ∈ TB) (h2 : Cond.instanceMethod y ∈ TB) (h3 : Cond.selects C y y ∈ TB) (h4 : Cond.initialized C ∈ TB) (h5 : c2 ∈ TB) : GoodIn (c :: TB) (wsV own i C y (c2 :: TB)) := gCons (gTB1 h1) (gCons (gTB1 h2) (gCons (gTB1 h3) (gCons (gTB1 h4) (gTB h5))))
theorem gS {c c2 : Cond} {own : String} {i : Nat} {y : MethodName} (h1 : Cond.methodLink own i y ∈ TB) (h2 : Cond.static y ∈ TB) (h4 : Cond.initialized y.cls ∈ TB) (h5 : c2 ∈ TB) : GoodIn (c :: TB) (va_wsS own i y (c2 :: TB)) := gCons (gTB1 h1) (gCons (gTB1 h2) (gCons (gTB1 h4) (gTB h5)))
theorem gTBl {c2 : Cond} (h : c2 ∈ TB) : GoodIn lw_tbl (c2 :: TB) := fun w hw => (List.mem_cons.mp hw).elim (fun e => by subst e; exact ⟨tb_in h, good_of_word (List.mem_filter.mp h).2⟩) (fun h2 => ⟨tb_in h2, good_of_word (List.mem_filter.mp h2).2⟩)
theorem gVl {c2 : Cond} {own C : String} {i : Nat} {y : MethodName} (h1 : Cond.methodLink own i y ∈ TB) (h2 : Cond.instanceMethod y ∈ TB) (h3 : Cond.selects C y y ∈ TB) (h4 : Cond.initialized C ∈ TB) (h5 : c2 ∈ TB) : GoodIn lw_tbl (wsV own i C y (c2 :: TB)) := gCons ⟨tb_in h1, good_of_word (List.mem_filter.mp h1).2⟩ (gCons ⟨tb_in h2, good_of_word (List.mem_filter.mp h2).2⟩ (gCons ⟨tb_in h3, good_of_word (List.mem_filter.mp h3).2⟩ (gCons ⟨tb_in h4, good_of_word (List.mem_filter.mp h4).2⟩ (gTBl h5))))
end
section
/-! numbers of the machine as Int: iI (ints), lI (longs); rows over them -/
def iI (z : Int) : Int32 := Int32.ofInt z
def lI (z : Int) : Int64 := Int64.ofInt z
def iA (F : Nat → Int) : Nat → Int32 := fun k => iI (F k)
def upI (F : Nat → Int) (j : Nat) (x : Int) : Nat → Int := fun k => if k = j then x else F k
def R1 (a : Int) : Prop := -2147483648 ≤ a ∧ a < 2147483648
theorem iI_add (a b : Int) : iI a + iI b = iI (a + b) := (Int32.ofInt_add a b).symm
theorem iI_sub (a b : Int) : iI a - iI b = iI (a - b) := (Int32.ofInt_sub a b).symm
theorem iI_mul (a b : Int) : iI a * iI b = iI (a * b) := (Int32.ofInt_mul a b).symm
theorem iI_toInt {a : Int} (h : -2147483648 ≤ a ∧ a < 2147483648) : (iI a).toInt = a := Int32.toInt_ofInt_of_le (by omega) (by omega)
theorem lI_toInt {a : Int} (h : -2147483648 ≤ a ∧ a < 2147483648) : (lI a).toInt = a := Int64.toInt_ofInt_of_le (by omega) (by omega)
theorem iI_of (x : Int32) : ∃ z : Int, (-2147483648 ≤ z ∧ z < 2147483648) ∧ x = iI z := ⟨x.toInt, ⟨by have := x.le_toInt; omega, by have := x.toInt_lt; omega⟩, (Int32.ofInt_toInt x).symm⟩
theorem iI_lt {a b : Int} (ha : -2147483648 ≤ a ∧ a < 2147483648) (hb : -2147483648 ≤ b ∧ b < 2147483648) : iI a < iI b ↔ a < b := by rw [Int32.lt_iff_toInt_lt, iI_toInt ha, iI_toInt hb]
theorem iI_le {a b : Int} (ha : -2147483648 ≤ a ∧ a < 2147483648) (hb : -2147483648 ≤ b ∧ b < 2147483648) : iI a ≤ iI b ↔ a ≤ b := by rw [Int32.le_iff_toInt_le, iI_toInt ha, iI_toInt hb]
theorem iI_eq {a b : Int} (ha : -2147483648 ≤ a ∧ a < 2147483648) (hb : -2147483648 ≤ b ∧ b < 2147483648) : iI a = iI b ↔ a = b := by rw [← Int32.toInt_inj, iI_toInt ha, iI_toInt hb]
theorem iI_z : iI 0 = 0 := rfl
theorem iI_tdiv {a b : Int} (ha : -2147483648 ≤ a ∧ a < 2147483648) (hb : -2147483648 ≤ b ∧ b < 2147483648) : iI a / iI b = iI (a.tdiv b) := (Int32.ofInt_tdiv (a := a) (b := b) (show (-2147483648 : Int) ≤ a from ha.1) (show a ≤ (2147483647 : Int) by omega) (show (-2147483648 : Int) ≤ b from hb.1) (show b ≤ (2147483647 : Int) by omega)).symm
theorem iI_trem {a b : Int} (ha : -2147483648 ≤ a ∧ a < 2147483648) (hb : -2147483648 ≤ b ∧ b < 2147483648) : iI a - iI a / iI b * iI b = iI (a.tmod b) := by
  rw [iI_tdiv ha hb, iI_mul, iI_sub, Int.tmod_def, Int.mul_comm b]
theorem iI_rem {a b : Int} (h : 0 ≤ a ∧ a < 2147483648 ∧ 0 < b ∧ b < 2147483648) : iI a - iI a / iI b * iI b = iI (a % b) := by
  rw [iI_trem (by omega) (by omega), Int.tmod_eq_emod_of_nonneg h.1]
theorem iI_div {a b : Int} (h : 0 ≤ a ∧ a < 2147483648 ∧ 0 < b ∧ b < 2147483648) : iI a / iI b = iI (a / b) := by
  rw [iI_tdiv (by omega) (by omega), Int.tdiv_eq_ediv_of_nonneg h.1]
theorem iI_l {a : Int} (h : -2147483648 ≤ a ∧ a < 2147483648) : (iI a).toInt64 = lI a := by
  rw [← Int64.toInt_inj, Int32.toInt_toInt64, iI_toInt h, lI_toInt h]
theorem iI_cl {a : Int} (h : -2147483648 ≤ a ∧ a < 2147483648) : (iI a).toNatClampNeg = a.toNat := by rw [Int32.toNatClampNeg, iI_toInt h]
theorem iI_in {z : Int} {j n : Nat} (hj : z = (j : Int)) (h : j < n ∧ n < 2147483648) : vp_in (iI z) n := by
  subst hj
  rw [vp_in_iff, iI_toInt (by omega)]
  omega
theorem iI_at {z : Int} {j n : Nat} (hj : z = (j : Int)) (h : j < n ∧ n < 2147483648) : (iI z).toNatClampNeg = j := by
  subst hj
  rw [iI_cl (by omega), Int.toNat_natCast]
theorem iA_up {F : Nat → Int} {j : Nat} {x : Int} : upd (iA F) j (iI x) = iA (upI F j x) := by
  funext k
  simp only [upd, iA, upI]
  by_cases h : k = j <;> simp [h]
theorem upI_s {F : Nat → Int} {j : Nat} {x : Int} : upI F j x j = x := by simp [upI]
theorem upI_n {F : Nat → Int} {j k : Nat} {x : Int} (h : k ≠ j) : upI F j x k = F k := by simp [upI, h]
theorem iI_nat (n : Nat) : Int32.ofNat n = iI (n : Int) := (Int32.ofInt_eq_ofNat (n := n)).symm
section RV
variable {p : Program} {l : Launch} {e : Env} {R : Room} {s : State} {m : MethodId} {args : Array Value} {below : List Frame} {meth : Method} {c : Code} {H : Heap} {locs : List Loc} {cells slots : Nat} {Q : State → Prop}
variable {cc : ByteArray} {pc : Nat} {ls : Array Slot} {rest : List Value} {D : va_G} {cl : List vw_C} {A : Nat → Prop} {tys : List (ClassId × FieldType)} {ws : va_W} {H0 : Heap}
theorem rv_iconst (hx : p.tables.exec = Jvm.exec) (hb : c.code = cc) {n : Int} (hdg : decode cc pc = .ok (.iconst n, 1))
    (k : W p l e R s m args below meth c H locs cells slots Q (F0 m (pc + 1) ls (.int (iI n) :: rest))) : W p l e R s m args below meth c H locs cells slots Q (F0 m pc ls (rest)) := lv_iconst hx hb hdg rfl k
theorem rv_bipush (hx : p.tables.exec = Jvm.exec) (hb : c.code = cc) {n : Int} (hdg : decode cc pc = .ok (.bipush n, 2)) (hv : (Int8.ofInt n).toInt32 = iI n)
    (k : W p l e R s m args below meth c H locs cells slots Q (F0 m (pc + 2) ls (.int (iI n) :: rest))) : W p l e R s m args below meth c H locs cells slots Q (F0 m pc ls (rest)) := lv_bipush hx hb hdg hv k
theorem rv_sipush (hx : p.tables.exec = Jvm.exec) (hb : c.code = cc) {n : Int} (hdg : decode cc pc = .ok (.sipush n, 3)) (hv : (Int16.ofInt n).toInt32 = iI n)
    (k : W p l e R s m args below meth c H locs cells slots Q (F0 m (pc + 3) ls (.int (iI n) :: rest))) : W p l e R s m args below meth c H locs cells slots Q (F0 m pc ls (rest)) := lv_sipush hx hb hdg hv k
theorem rv_lconst (hx : p.tables.exec = Jvm.exec) (hb : c.code = cc) {n : Fin 2} {z : Int} (hdg : decode cc pc = .ok (.lconst n, 1)) (hv : Int64.ofNat (n : Nat) = lI z)
    (k : W p l e R s m args below meth c H locs cells slots Q (F0 m (pc + 1) ls (.long (lI z) :: rest))) : W p l e R s m args below meth c H locs cells slots Q (F0 m pc ls (rest)) := lv_lconst hx hb hdg hv k
theorem rv_iadd (hx : p.tables.exec = Jvm.exec) (hb : c.code = cc) {x y : Int} (hdg : decode cc pc = .ok (.iadd, 1))
    (k : W p l e R s m args below meth c H locs cells slots Q (F0 m (pc + 1) ls (.int (iI (x + y)) :: rest))) : W p l e R s m args below meth c H locs cells slots Q (F0 m pc ls (.int (iI y) :: .int (iI x) :: rest)) := lv_iadd hx hb hdg (by rw [iI_add]; exact k)
theorem rv_isub (hx : p.tables.exec = Jvm.exec) (hb : c.code = cc) {x y : Int} (hdg : decode cc pc = .ok (.isub, 1))
    (k : W p l e R s m args below meth c H locs cells slots Q (F0 m (pc + 1) ls (.int (iI (x - y)) :: rest))) : W p l e R s m args below meth c H locs cells slots Q (F0 m pc ls (.int (iI y) :: .int (iI x) :: rest)) := lv_isub hx hb hdg (by rw [iI_sub]; exact k)
theorem rv_imul (hx : p.tables.exec = Jvm.exec) (hb : c.code = cc) {x y : Int} (hdg : decode cc pc = .ok (.imul, 1))
    (k : W p l e R s m args below meth c H locs cells slots Q (F0 m (pc + 1) ls (.int (iI (x * y)) :: rest))) : W p l e R s m args below meth c H locs cells slots Q (F0 m pc ls (.int (iI y) :: .int (iI x) :: rest)) := lv_imul hx hb hdg (by rw [iI_mul]; exact k)
theorem rv_idiv (hx : p.tables.exec = Jvm.exec) (hb : c.code = cc) {x y : Int} (hdg : decode cc pc = .ok (.idiv, 1)) (h : 0 ≤ x ∧ x < 2147483648 ∧ 0 < y ∧ y < 2147483648)
    (k : W p l e R s m args below meth c H locs cells slots Q (F0 m (pc + 1) ls (.int (iI (x / y)) :: rest))) : W p l e R s m args below meth c H locs cells slots Q (F0 m pc ls (.int (iI y) :: .int (iI x) :: rest)) :=
  lv_idiv hx hb hdg (by rw [← iI_z, iI_eq (by omega) (by omega)]; omega) (by rw [iI_div h]; exact k)
theorem rv_irem (hx : p.tables.exec = Jvm.exec) (hb : c.code = cc) {x y : Int} (hdg : decode cc pc = .ok (.irem, 1)) (h : 0 ≤ x ∧ x < 2147483648 ∧ 0 < y ∧ y < 2147483648)
    (k : W p l e R s m args below meth c H locs cells slots Q (F0 m (pc + 1) ls (.int (iI (x % y)) :: rest))) : W p l e R s m args below meth c H locs cells slots Q (F0 m pc ls (.int (iI y) :: .int (iI x) :: rest)) :=
  lv_irem hx hb hdg (by rw [← iI_z, iI_eq (by omega) (by omega)]; omega) (by rw [iI_rem h]; exact k)
theorem rv_iremT (hx : p.tables.exec = Jvm.exec) (hb : c.code = cc) {x y : Int} (hdg : decode cc pc = .ok (.irem, 1)) (h : -2147483648 ≤ x ∧ x < 2147483648 ∧ 0 < y ∧ y < 2147483648)
    (k : W p l e R s m args below meth c H locs cells slots Q (F0 m (pc + 1) ls (.int (iI (x.tmod y)) :: rest))) : W p l e R s m args below meth c H locs cells slots Q (F0 m pc ls (.int (iI y) :: .int (iI x) :: rest)) :=
  lv_irem hx hb hdg (by rw [← iI_z, iI_eq (by omega) (by omega)]; omega) (by rw [iI_trem (by omega) (by omega)]; exact k)
theorem rv_i2l (hx : p.tables.exec = Jvm.exec) (hb : c.code = cc) {x : Int} (hdg : decode cc pc = .ok (.i2l, 1)) (h : -2147483648 ≤ x ∧ x < 2147483648)
    (k : W p l e R s m args below meth c H locs cells slots Q (F0 m (pc + 1) ls (.long (lI x) :: rest))) : W p l e R s m args below meth c H locs cells slots Q (F0 m pc ls (.int (iI x) :: rest)) := lv_i2l hx hb hdg (iI_l h) k
theorem rv_iinc (hx : p.tables.exec = Jvm.exec) (hb : c.code = cc) {i nL k : Nat} {n : Int} {x : Int} {lv lv' : List (Nat × Value)} (hdg : decode cc pc = .ok (.iinc i n, 3)) (h : lv_has ls nL lv) (hk : lv[k]? = some (i, .int (iI x))) (hn : i < nL) (hl : (i, Value.int (iI (x + n))) :: lv.filter (fun q => !(q.1 == i) && !(q.1 + 1 == i && q.2.category == 2)) = lv')
    (kk : ∀ ls' : Array Slot, lv_has ls' nL lv' → W p l e R s m args below meth c H locs cells slots Q (F0 m (pc + 3) ls' rest)) : W p l e R s m args below meth c H locs cells slots Q (F0 m pc ls rest) := lv_iinc hx hb hdg h hk (iI_add x n) hn hl kk
theorem rv_icmp_eq (hx : p.tables.exec = Jvm.exec) (hb : c.code = cc) {x y : Int} {off : Int} {tgt : Nat} (hdg : decode cc pc = .ok (.if_icmp .eq off, 3)) (ht : (pc : Int) + off = (tgt : Int)) (h : (-2147483648 ≤ x ∧ x < 2147483648) ∧ (-2147483648 ≤ y ∧ y < 2147483648))
    (kt : x = y → W p l e R s m args below meth c H locs cells slots Q (F0 m tgt ls rest)) (kf : ¬ x = y → W p l e R s m args below meth c H locs cells slots Q (F0 m (pc + 3) ls rest)) : W p l e R s m args below meth c H locs cells slots Q (F0 m pc ls (.int (iI y) :: .int (iI x) :: rest)) :=
  lv_icmp_eq hx hb hdg ht (fun g => kt ((iI_eq h.1 h.2).mp g)) (fun g => kf (fun q => g ((iI_eq h.1 h.2).mpr q)))
theorem rv_icmp_ne (hx : p.tables.exec = Jvm.exec) (hb : c.code = cc) {x y : Int} {off : Int} {tgt : Nat} (hdg : decode cc pc = .ok (.if_icmp .ne off, 3)) (ht : (pc : Int) + off = (tgt : Int)) (h : (-2147483648 ≤ x ∧ x < 2147483648) ∧ (-2147483648 ≤ y ∧ y < 2147483648))
    (kt : ¬ x = y → W p l e R s m args below meth c H locs cells slots Q (F0 m tgt ls rest)) (kf : x = y → W p l e R s m args below meth c H locs cells slots Q (F0 m (pc + 3) ls rest)) : W p l e R s m args below meth c H locs cells slots Q (F0 m pc ls (.int (iI y) :: .int (iI x) :: rest)) :=
  lv_icmp_ne hx hb hdg ht (fun g => kt (fun q => g ((iI_eq h.1 h.2).mpr q))) (fun g => kf ((iI_eq h.1 h.2).mp g))
theorem rv_icmp_lt (hx : p.tables.exec = Jvm.exec) (hb : c.code = cc) {x y : Int} {off : Int} {tgt : Nat} (hdg : decode cc pc = .ok (.if_icmp .lt off, 3)) (ht : (pc : Int) + off = (tgt : Int)) (h : (-2147483648 ≤ x ∧ x < 2147483648) ∧ (-2147483648 ≤ y ∧ y < 2147483648))
    (kt : x < y → W p l e R s m args below meth c H locs cells slots Q (F0 m tgt ls rest)) (kf : ¬ x < y → W p l e R s m args below meth c H locs cells slots Q (F0 m (pc + 3) ls rest)) : W p l e R s m args below meth c H locs cells slots Q (F0 m pc ls (.int (iI y) :: .int (iI x) :: rest)) :=
  lv_icmp_lt hx hb hdg ht (fun g => kt ((iI_lt h.1 h.2).mp g)) (fun g => kf (fun q => g ((iI_lt h.1 h.2).mpr q)))
theorem rv_icmp_ge (hx : p.tables.exec = Jvm.exec) (hb : c.code = cc) {x y : Int} {off : Int} {tgt : Nat} (hdg : decode cc pc = .ok (.if_icmp .ge off, 3)) (ht : (pc : Int) + off = (tgt : Int)) (h : (-2147483648 ≤ x ∧ x < 2147483648) ∧ (-2147483648 ≤ y ∧ y < 2147483648))
    (kt : y ≤ x → W p l e R s m args below meth c H locs cells slots Q (F0 m tgt ls rest)) (kf : ¬ y ≤ x → W p l e R s m args below meth c H locs cells slots Q (F0 m (pc + 3) ls rest)) : W p l e R s m args below meth c H locs cells slots Q (F0 m pc ls (.int (iI y) :: .int (iI x) :: rest)) :=
  lv_icmp_ge hx hb hdg ht (fun g => kt ((iI_le h.2 h.1).mp g)) (fun g => kf (fun q => g ((iI_le h.2 h.1).mpr q)))
theorem rv_icmp_gt (hx : p.tables.exec = Jvm.exec) (hb : c.code = cc) {x y : Int} {off : Int} {tgt : Nat} (hdg : decode cc pc = .ok (.if_icmp .gt off, 3)) (ht : (pc : Int) + off = (tgt : Int)) (h : (-2147483648 ≤ x ∧ x < 2147483648) ∧ (-2147483648 ≤ y ∧ y < 2147483648))
    (kt : y < x → W p l e R s m args below meth c H locs cells slots Q (F0 m tgt ls rest)) (kf : ¬ y < x → W p l e R s m args below meth c H locs cells slots Q (F0 m (pc + 3) ls rest)) : W p l e R s m args below meth c H locs cells slots Q (F0 m pc ls (.int (iI y) :: .int (iI x) :: rest)) :=
  lv_icmp_gt hx hb hdg ht (fun g => kt ((iI_lt h.2 h.1).mp g)) (fun g => kf (fun q => g ((iI_lt h.2 h.1).mpr q)))
theorem rv_icmp_le (hx : p.tables.exec = Jvm.exec) (hb : c.code = cc) {x y : Int} {off : Int} {tgt : Nat} (hdg : decode cc pc = .ok (.if_icmp .le off, 3)) (ht : (pc : Int) + off = (tgt : Int)) (h : (-2147483648 ≤ x ∧ x < 2147483648) ∧ (-2147483648 ≤ y ∧ y < 2147483648))
    (kt : x ≤ y → W p l e R s m args below meth c H locs cells slots Q (F0 m tgt ls rest)) (kf : ¬ x ≤ y → W p l e R s m args below meth c H locs cells slots Q (F0 m (pc + 3) ls rest)) : W p l e R s m args below meth c H locs cells slots Q (F0 m pc ls (.int (iI y) :: .int (iI x) :: rest)) :=
  lv_icmp_le hx hb hdg ht (fun g => kt ((iI_le h.1 h.2).mp g)) (fun g => kf (fun q => g ((iI_le h.1 h.2).mpr q)))
theorem rv_if_eq (hx : p.tables.exec = Jvm.exec) (hb : c.code = cc) {x : Int} {off : Int} {tgt : Nat} (hdg : decode cc pc = .ok (.ifCond .eq off, 3)) (ht : (pc : Int) + off = (tgt : Int)) (h : (-2147483648 ≤ x ∧ x < 2147483648))
    (kt : x = 0 → W p l e R s m args below meth c H locs cells slots Q (F0 m tgt ls rest)) (kf : ¬ x = 0 → W p l e R s m args below meth c H locs cells slots Q (F0 m (pc + 3) ls rest)) : W p l e R s m args below meth c H locs cells slots Q (F0 m pc ls (.int (iI x) :: rest)) :=
  lv_if_eq hx hb hdg ht (fun g => kt ((iI_eq h (by decide)).mp (g.trans iI_z.symm))) (fun g => kf (fun q => g (((iI_eq h (by decide)).mpr q).trans iI_z)))
theorem rv_if_ne (hx : p.tables.exec = Jvm.exec) (hb : c.code = cc) {x : Int} {off : Int} {tgt : Nat} (hdg : decode cc pc = .ok (.ifCond .ne off, 3)) (ht : (pc : Int) + off = (tgt : Int)) (h : (-2147483648 ≤ x ∧ x < 2147483648))
    (kt : ¬ x = 0 → W p l e R s m args below meth c H locs cells slots Q (F0 m tgt ls rest)) (kf : x = 0 → W p l e R s m args below meth c H locs cells slots Q (F0 m (pc + 3) ls rest)) : W p l e R s m args below meth c H locs cells slots Q (F0 m pc ls (.int (iI x) :: rest)) :=
  lv_if_ne hx hb hdg ht (fun g => kt (fun q => g (((iI_eq h (by decide)).mpr q).trans iI_z))) (fun g => kf ((iI_eq h (by decide)).mp (g.trans iI_z.symm)))
theorem rv_if_lt (hx : p.tables.exec = Jvm.exec) (hb : c.code = cc) {x : Int} {off : Int} {tgt : Nat} (hdg : decode cc pc = .ok (.ifCond .lt off, 3)) (ht : (pc : Int) + off = (tgt : Int)) (h : (-2147483648 ≤ x ∧ x < 2147483648))
    (kt : x < 0 → W p l e R s m args below meth c H locs cells slots Q (F0 m tgt ls rest)) (kf : ¬ x < 0 → W p l e R s m args below meth c H locs cells slots Q (F0 m (pc + 3) ls rest)) : W p l e R s m args below meth c H locs cells slots Q (F0 m pc ls (.int (iI x) :: rest)) :=
  lv_if_lt hx hb hdg ht (fun g => kt ((iI_lt h (by decide)).mp (by rw [iI_z]; exact g))) (fun g => kf (fun q => g (by rw [← iI_z]; exact (iI_lt h (by decide)).mpr q)))
theorem rv_if_ge (hx : p.tables.exec = Jvm.exec) (hb : c.code = cc) {x : Int} {off : Int} {tgt : Nat} (hdg : decode cc pc = .ok (.ifCond .ge off, 3)) (ht : (pc : Int) + off = (tgt : Int)) (h : (-2147483648 ≤ x ∧ x < 2147483648))
    (kt : 0 ≤ x → W p l e R s m args below meth c H locs cells slots Q (F0 m tgt ls rest)) (kf : ¬ 0 ≤ x → W p l e R s m args below meth c H locs cells slots Q (F0 m (pc + 3) ls rest)) : W p l e R s m args below meth c H locs cells slots Q (F0 m pc ls (.int (iI x) :: rest)) :=
  lv_if_ge hx hb hdg ht (fun g => kt ((iI_le (by decide) h).mp (by rw [iI_z]; exact g))) (fun g => kf (fun q => g (by rw [← iI_z]; exact (iI_le (by decide) h).mpr q)))
theorem rv_if_gt (hx : p.tables.exec = Jvm.exec) (hb : c.code = cc) {x : Int} {off : Int} {tgt : Nat} (hdg : decode cc pc = .ok (.ifCond .gt off, 3)) (ht : (pc : Int) + off = (tgt : Int)) (h : (-2147483648 ≤ x ∧ x < 2147483648))
    (kt : 0 < x → W p l e R s m args below meth c H locs cells slots Q (F0 m tgt ls rest)) (kf : ¬ 0 < x → W p l e R s m args below meth c H locs cells slots Q (F0 m (pc + 3) ls rest)) : W p l e R s m args below meth c H locs cells slots Q (F0 m pc ls (.int (iI x) :: rest)) :=
  lv_if_gt hx hb hdg ht (fun g => kt ((iI_lt (by decide) h).mp (by rw [iI_z]; exact g))) (fun g => kf (fun q => g (by rw [← iI_z]; exact (iI_lt (by decide) h).mpr q)))
theorem rv_if_le (hx : p.tables.exec = Jvm.exec) (hb : c.code = cc) {x : Int} {off : Int} {tgt : Nat} (hdg : decode cc pc = .ok (.ifCond .le off, 3)) (ht : (pc : Int) + off = (tgt : Int)) (h : (-2147483648 ≤ x ∧ x < 2147483648))
    (kt : x ≤ 0 → W p l e R s m args below meth c H locs cells slots Q (F0 m tgt ls rest)) (kf : ¬ x ≤ 0 → W p l e R s m args below meth c H locs cells slots Q (F0 m (pc + 3) ls rest)) : W p l e R s m args below meth c H locs cells slots Q (F0 m pc ls (.int (iI x) :: rest)) :=
  lv_if_le hx hb hdg ht (fun g => kt ((iI_le h (by decide)).mp (by rw [iI_z]; exact g))) (fun g => kf (fun q => g (by rw [← iI_z]; exact (iI_le h (by decide)).mpr q)))
theorem rv_lcmp (hx : p.tables.exec = Jvm.exec) (hb : c.code = cc) {x y : Int} (hdg : decode cc pc = .ok (.lcmp, 1)) (h : (-2147483648 ≤ x ∧ x < 2147483648) ∧ (-2147483648 ≤ y ∧ y < 2147483648))
    (k : ∀ z : Int, (-1 ≤ z ∧ z ≤ 1) → (z < 0 ↔ x < y) → (0 < z ↔ y < x) → W p l e R s m args below meth c H locs cells slots Q (F0 m (pc + 1) ls (.int (iI z) :: rest))) : W p l e R s m args below meth c H locs cells slots Q (F0 m pc ls (.long (lI y) :: .long (lI x) :: rest)) := by
  refine W.lcmp hx hb hdg ?_
  by_cases h1 : y < x
  · rw [show lg_cmp (lI x) (lI y) = iI 1 by simp only [lg_cmp, gt_iff_lt, Int64.lt_iff_toInt_lt, lI_toInt h.1, lI_toInt h.2, h1, if_true]; rfl]
    exact k 1 (by decide) (by omega) (by omega)
  · by_cases h2 : x = y
    · subst h2
      rw [show lg_cmp (lI x) (lI x) = iI 0 by simp [lg_cmp]; rfl]
      exact k 0 (by decide) (by omega) (by omega)
    · rw [show lg_cmp (lI x) (lI y) = iI (-1) by simp only [lg_cmp, gt_iff_lt, Int64.lt_iff_toInt_lt, ← Int64.toInt_inj, lI_toInt h.1, lI_toInt h.2, h1, h2, if_false]; rfl]
      exact k (-1) (by decide) (by omega) (by omega)
theorem rv_iald (hx : p.tables.exec = Jvm.exec) (hb : c.code = cc) (hK : va_K D cl tys s) (hP : va_P D cl ws H) (q0 t0 : Nat) {a : Nat} {cA : ClassId} {n : Nat} {F : Nat → Int} (ha : ws[q0]? = some (a, .inl (cA, n, .inl (iA F)))) (ht : tys[t0]? = some (cA, .int)) {z : Int} (j : Nat) (hj : z = (j : Int)) (hlt : j < n ∧ n < 2147483648) (hdg : decode cc pc = .ok (.iaload, 1))
    (kk : W p l e R s m args below meth c H locs cells slots Q (F0 m (pc + 1) ls (.int (iI (F j)) :: rest))) : W p l e R s m args below meth c H locs cells slots Q (F0 m pc ls (.int (iI z) :: .ref a :: rest)) :=
  va_iald hx hb hK hP q0 t0 ha ht (iI_in hj hlt) hdg (by rw [iI_at hj hlt]; exact kk)
theorem rv_cald (hx : p.tables.exec = Jvm.exec) (hb : c.code = cc) (hK : va_K D cl tys s) (hP : va_P D cl ws H) (q0 t0 : Nat) {a : Nat} {cA : ClassId} {n : Nat} {F : Nat → Int} (ha : ws[q0]? = some (a, .inl (cA, n, .inl (iA F)))) (ht : tys[t0]? = some (cA, .char)) {z : Int} (j : Nat) (hj : z = (j : Int)) (hlt : j < n ∧ n < 2147483648) (hdg : decode cc pc = .ok (.caload, 1))
    (kk : W p l e R s m args below meth c H locs cells slots Q (F0 m (pc + 1) ls (.int (iI (F j)) :: rest))) : W p l e R s m args below meth c H locs cells slots Q (F0 m pc ls (.int (iI z) :: .ref a :: rest)) :=
  va_cald hx hb hK hP q0 t0 ha ht (iI_in hj hlt) hdg (by rw [iI_at hj hlt]; exact kk)
theorem rv_iast (hx : p.tables.exec = Jvm.exec) (hb : c.code = cc) (hK : va_K D cl tys s) (hP : va_P D cl ws H) (hD : va_D A ws) (hS : va_S A H0 H locs) (q0 t0 : Nat) {a : Nat} {cA : ClassId} {n : Nat} {F : Nat → Int} (ha : ws[q0]? = some (a, .inl (cA, n, .inl (iA F)))) (ht : tys[t0]? = some (cA, .int)) {z x : Int} (j : Nat) (hj : z = (j : Int)) (hlt : j < n ∧ n < 2147483648) (hdg : decode cc pc = .ok (.iastore, 1))
    (kk : ∀ (H1 : Heap) (locs1 : List Loc), va_P D cl (ws.set q0 (a, .inl (cA, n, .inl (iA (upI F j x))))) H1 → va_D A (ws.set q0 (a, .inl (cA, n, .inl (iA (upI F j x))))) → va_S A H0 H1 locs1 → W p l e R s m args below meth c H1 locs1 cells slots Q (F0 m (pc + 1) ls rest)) : W p l e R s m args below meth c H locs cells slots Q (F0 m pc ls (.int (iI x) :: .int (iI z) :: .ref a :: rest)) :=
  va_iast hx hb hK hP hD hS q0 t0 ha ht (iI_in hj hlt) hdg (by rw [iI_at hj hlt, iA_up]; exact kk)
theorem rv_cast (hx : p.tables.exec = Jvm.exec) (hb : c.code = cc) (hK : va_K D cl tys s) (hP : va_P D cl ws H) (hD : va_D A ws) (hS : va_S A H0 H locs) (q0 t0 : Nat) {a : Nat} {cA : ClassId} {n : Nat} {F : Nat → Int} (ha : ws[q0]? = some (a, .inl (cA, n, .inl (iA F)))) (ht : tys[t0]? = some (cA, .char)) {z x : Int} (j : Nat) (hj : z = (j : Int)) (hlt : j < n ∧ n < 2147483648) (hc : 0 ≤ x ∧ x < 65536) (hdg : decode cc pc = .ok (.castore, 1))
    (kk : ∀ (H1 : Heap) (locs1 : List Loc), va_P D cl (ws.set q0 (a, .inl (cA, n, .inl (iA (upI F j x))))) H1 → va_D A (ws.set q0 (a, .inl (cA, n, .inl (iA (upI F j x))))) → va_S A H0 H1 locs1 → W p l e R s m args below meth c H1 locs1 cells slots Q (F0 m (pc + 1) ls rest)) : W p l e R s m args below meth c H locs cells slots Q (F0 m pc ls (.int (iI x) :: .int (iI z) :: .ref a :: rest)) :=
  va_cast hx hb hK hP hD hS q0 t0 ha ht (iI_in hj hlt) hdg (by
    rw [iI_at hj hlt, vp_nar_char, ← lg_i2c_nf, lg_i2c_word (by rw [iI_toInt (by omega)]; omega) (by rw [iI_toInt (by omega)]; omega), iA_up]; exact kk)
theorem rv_i2c (hx : p.tables.exec = Jvm.exec) (hb : c.code = cc) {x : Int} (hdg : decode cc pc = .ok (.i2c, 1)) (h : 0 ≤ x ∧ x < 65536)
    (k : W p l e R s m args below meth c H locs cells slots Q (F0 m (pc + 1) ls (.int (iI x) :: rest))) : W p l e R s m args below meth c H locs cells slots Q (F0 m pc ls (.int (iI x) :: rest)) := lv_i2c hx hb hdg (lg_i2c_word (by rw [iI_toInt (by omega)]; omega) (by rw [iI_toInt (by omega)]; omega)) k
theorem rv_alen (hx : p.tables.exec = Jvm.exec) (hb : c.code = cc) (hK : va_K D cl tys s) (hP : va_P D cl ws H) (q0 t0 : Nat) {a : Nat} {cA : ClassId} {x : vp_A} (ha : ws[q0]? = some (a, .inl (cA, x))) {ty : FieldType} (ht : tys[t0]? = some (cA, ty)) (hdg : decode cc pc = .ok (.arraylength, 1))
    (kk : W p l e R s m args below meth c H locs cells slots Q (F0 m (pc + 1) ls (.int (iI (x.1 : Int)) :: rest))) : W p l e R s m args below meth c H locs cells slots Q (F0 m pc ls (.ref a :: rest)) := va_alen hx hb hK hP q0 t0 ha ht (iI_nat x.1) hdg kk
/-- a number told another way -/
theorem rv_top {x y : Int} (h : x = y) (k : W p l e R s m args below meth c H locs cells slots Q (F0 m pc ls (.int (iI y) :: rest))) : W p l e R s m args below meth c H locs cells slots Q (F0 m pc ls (.int (iI x) :: rest)) := by rw [h]; exact k
end RV
theorem lv_chg {ls : Array Slot} {nL : Nat} {l l' : List (Nat × Value)} (h : lv_has ls nL l) (e : l = l') : lv_has ls nL l' := e ▸ h
/-! the entry of a method -/
theorem enter {l : Launch} {y : MethodName} {rm : Room} {vs : List Value} {Bf : State → Prop} {Qc : Array Value → State → Outcome → State → Prop} {mc ms : Nat} {free : Addr → Prop} {cc : ByteArray} {maxL : Nat} {ret : Option FieldType}
    (hy : plainName y.cls = true) (hn : (lg_sl vs).length ≤ maxL)
    (body : ∀ (p : Program) (e : Env) (s : State) (m : MethodId) (below : List Frame) (meth : Method) (c : Code) (Q : State → Prop) (ls : Array Slot), p.tables.exec = Jvm.exec → c.code = cc → c.maxLocals = maxL → s.vm.findClass y.cls = some m.cls → (∀ w ∈ Cond.code y cc maxL ret :: TB, w.before vs.toArray s = true) → meth.sig.returnType = ret → meth.locks = false → meth.name = y.name → Bf s → lv_has ls maxL (lv_args 0 vs) → Q = MQ below Qc vs.toArray s mc ms free →
      W p l e rm s m vs.toArray below meth c s.heap [] 0 0 Q (F0 m 0 ls [])) : Met l y (Cond.code y cc maxL ret :: TB) rm (va_Pc vs Bf) Qc mc ms free := by
  refine Met.ofW (cc := cc) (maxL := maxL) (ret := ret) hy rfl ?_
  intro p e s m args below meth c s₁ B hml hv
  obtain ⟨rfl, hB⟩ := hv
  have hl := lv_entry vs (n := maxL) hn
  rw [lg_entry_eq]
  exact body p e s m below meth c _ _ B.exec B.bytes hml (findClass_of_methodNamed B.named) (atoms_spec (ws := Cond.code y cc maxL ret :: TB) B.pre) B.returns B.notSynchronized (name_of_methodNamed B.named B.method).1 hB hl rfl
end
section
/-! rests, bits, and what the numbers of SoundWells are -/
theorem md_bd {x y : Int} (h : 0 < y) : 0 ≤ x % y ∧ x % y < y := ⟨Int.emod_nonneg _ (by omega), Int.emod_lt_of_pos _ h⟩
theorem tm_bd {a n : Int} (h : 0 < n) : (-n < a.tmod n ∧ a.tmod n < n) ∧ (0 ≤ a.tmod n → a.tmod n = a % n) ∧ (a.tmod n < 0 → a.tmod n + n = a % n) := by
  rcases Int.le_total 0 a with h0 | h0
  · have h1 := md_bd (x := a) h
    rw [Int.tmod_eq_emod_of_nonneg h0]
    omega
  · have e1 : a.tmod n = -((-a) % n) := by
      rw [← Int.tmod_eq_emod_of_nonneg (show 0 ≤ -a by omega), Int.neg_tmod, Int.neg_neg]
    have h1 := md_bd (x := -a) h
    have h2 : -a = (-a) % n + n * ((-a) / n) := (Int.emod_add_mul_ediv (-a) n).symm
    generalize hr : (-a) % n = r at *
    generalize (-a) / n = q at *
    have h3 : a % n = (-r) % n := by
      rw [show a = -r + n * (-q) by rw [Int.mul_neg]; omega, Int.add_mul_emod_self_left]
    rw [e1, h3]
    by_cases hz : r = 0
    · subst hz
      refine ⟨by omega, fun _ => by simp, fun h => by omega⟩
    · have h4 : (-r) % n = n - r := by
        rw [show (-r) % n = (n - r + n * (-1)) % n by rw [Int.mul_neg, Int.mul_one]; congr 1; omega, Int.add_mul_emod_self_left, Int.emod_eq_of_lt (by omega) (by omega)]
      rw [h4]
      omega
def orI (a b : Int) : Int := (iI a ||| iI b).toInt
def andI (a b : Int) : Int := (iI a &&& iI b).toInt
def shlI (a b : Int) : Int := (iI a <<< (iI b &&& 31)).toInt
def shrI (a b : Int) : Int := (iI a >>> (iI b &&& 31)).toInt
theorem iI_back (x : Int32) : iI x.toInt = x := Int32.ofInt_toInt x
theorem i32_bd (x : Int32) : -2147483648 ≤ x.toInt ∧ x.toInt < 2147483648 := ⟨by have := x.le_toInt; omega, by have := x.toInt_lt; omega⟩
theorem orI_bd (a b : Int) : -2147483648 ≤ orI a b ∧ orI a b < 2147483648 := i32_bd _
theorem andI_bd (a b : Int) : -2147483648 ≤ andI a b ∧ andI a b < 2147483648 := i32_bd _
theorem shlI_bd (a b : Int) : -2147483648 ≤ shlI a b ∧ shlI a b < 2147483648 := i32_bd _
theorem shrI_bd (a b : Int) : -2147483648 ≤ shrI a b ∧ shrI a b < 2147483648 := i32_bd _
section RB
variable {p : Program} {l : Launch} {e : Env} {R : Room} {s : State} {m : MethodId} {args : Array Value} {below : List Frame} {meth : Method} {c : Code} {H : Heap} {locs : List Loc} {cells slots : Nat} {Q : State → Prop}
variable {cc : ByteArray} {pc : Nat} {ls : Array Slot} {rest : List Value}
theorem rv_ior (hx : p.tables.exec = Jvm.exec) (hb : c.code = cc) {x y : Int} (hdg : decode cc pc = .ok (.ior, 1))
    (k : W p l e R s m args below meth c H locs cells slots Q (F0 m (pc + 1) ls (.int (iI (orI x y)) :: rest))) : W p l e R s m args below meth c H locs cells slots Q (F0 m pc ls (.int (iI y) :: .int (iI x) :: rest)) := lv_ior hx hb hdg (by rw [← iI_back (iI x ||| iI y)]; exact k)
theorem rv_iand (hx : p.tables.exec = Jvm.exec) (hb : c.code = cc) {x y : Int} (hdg : decode cc pc = .ok (.iand, 1))
    (k : W p l e R s m args below meth c H locs cells slots Q (F0 m (pc + 1) ls (.int (iI (andI x y)) :: rest))) : W p l e R s m args below meth c H locs cells slots Q (F0 m pc ls (.int (iI y) :: .int (iI x) :: rest)) := lv_iand hx hb hdg (by rw [← iI_back (iI x &&& iI y)]; exact k)
theorem rv_ishl (hx : p.tables.exec = Jvm.exec) (hb : c.code = cc) {x y : Int} (hdg : decode cc pc = .ok (.ishl, 1))
    (k : W p l e R s m args below meth c H locs cells slots Q (F0 m (pc + 1) ls (.int (iI (shlI x y)) :: rest))) : W p l e R s m args below meth c H locs cells slots Q (F0 m pc ls (.int (iI y) :: .int (iI x) :: rest)) := lv_ishl hx hb hdg (by rw [← iI_back (iI x <<< (iI y &&& 31))]; exact k)
theorem rv_ishr (hx : p.tables.exec = Jvm.exec) (hb : c.code = cc) {x y : Int} (hdg : decode cc pc = .ok (.ishr, 1))
    (k : W p l e R s m args below meth c H locs cells slots Q (F0 m (pc + 1) ls (.int (iI (shrI x y)) :: rest))) : W p l e R s m args below meth c H locs cells slots Q (F0 m pc ls (.int (iI y) :: .int (iI x) :: rest)) := lv_ishr hx hb hdg (by rw [← iI_back (iI x >>> (iI y &&& 31))]; exact k)
end RB
theorem preS0 {s : State} {H : Heap} {vs : List Value} : PreS s H (va_Pc vs (fun _ => True)) vs := ⟨fun _ _ _ _ q => q, fun _ _ _ => ⟨rfl, trivial⟩⟩
/-- the ten primes -/
def isPr (n : Int) : Prop := n = 3 ∨ n = 5 ∨ n = 7 ∨ n = 11 ∨ n = 13 ∨ n = 17 ∨ n = 19 ∨ n = 23 ∨ n = 29 ∨ n = 31
theorem isPr_bd {n : Int} (h : isPr n) : 3 ≤ n ∧ n ≤ 31 := by unfold isPr at h; omega
def prN : List Nat := [3, 5, 7, 11, 13, 17, 19, 23, 29, 31]
theorem isPr_mem {n : Int} (h : isPr n) : ∃ k ∈ prN, n = (k : Int) := by
  rcases h with h | h | h | h | h | h | h | h | h | h <;> subst h
  · exact ⟨3, by decide, rfl⟩
  · exact ⟨5, by decide, rfl⟩
  · exact ⟨7, by decide, rfl⟩
  · exact ⟨11, by decide, rfl⟩
  · exact ⟨13, by decide, rfl⟩
  · exact ⟨17, by decide, rfl⟩
  · exact ⟨19, by decide, rfl⟩
  · exact ⟨23, by decide, rfl⟩
  · exact ⟨29, by decide, rfl⟩
  · exact ⟨31, by decide, rfl⟩
/-- the squares of n as bits: of 1 to k -/
def sqBn (n : Int) : Nat → Int
  | 0 => 0
  | k + 1 => orI (sqBn n k) (shlI 1 (((k + 1 : Nat) : Int) * ((k + 1 : Nat) : Int) % n))
def sqB (n : Int) : Int := sqBn n (n - 1).toNat
theorem sqBn_bd (n : Int) (k : Nat) : -2147483648 ≤ sqBn n k ∧ sqBn n k < 2147483648 := by
  cases k with
  | zero => exact (show (-2147483648 : Int) ≤ 0 ∧ (0 : Int) < 2147483648 by decide)
  | succ k => exact orI_bd _ _
/-- is r (0 to n - 1) a square's rest: as the model asks it -/
def sqM (r n : Nat) : Bool := (List.range n).any (fun v => decide (1 ≤ v ∧ v * v % n = r))
/-- SIGN of r by n -/
def sgN (r n : Nat) : Int := if r = 0 then 0 else if sqM r n = true then 1 else -1
def sg (a n : Int) : Int := sgN (a % n).toNat n.toNat
theorem sg_bd (a n : Int) : -1 ≤ sg a n ∧ sg a n ≤ 1 := by
  unfold sg sgN
  split
  · decide
  · split <;> decide
theorem sg_tab : ∀ n ∈ prN, ∀ r, r < n → (andI (shrI (sqB (n : Int)) (r : Int)) 1 = 1 ↔ sqM r n = true) := by decide +kernel
def pwI (f n : Int) : Nat → Int
  | 0 => 1
  | k + 1 => pwI f n k * f % n
def snI (f n : Int) : Nat → Int
  | 0 => 0
  | k + 1 => orI (snI f n k) (shlI 1 (pwI f n (k + 1)))
def rootP (f n : Int) : Bool := (List.range (n - 1).toNat).all (fun k => decide (k = 0) || decide (¬ pwI f n k = 1))
/-- f is a ROOT of n -/
def isRt (f n : Int) : Prop := 2 ≤ f ∧ f < n ∧ rootP f n = true
theorem pwI_bd {f n : Int} (h : 1 < n) (k : Nat) : 0 ≤ pwI f n k ∧ pwI f n k < n := by
  cases k with
  | zero => exact ⟨by simp [pwI], by simpa [pwI] using h⟩
  | succ k => exact md_bd (by omega)
theorem snI_bd (f n : Int) (k : Nat) : -2147483648 ≤ snI f n k ∧ snI f n k < 2147483648 := by
  cases k with
  | zero => exact (show (-2147483648 : Int) ≤ 0 ∧ (0 : Int) < 2147483648 by decide)
  | succ k => exact orI_bd _ _
theorem rt_tab : ∀ n ∈ prN, ∀ f, f < n → 2 ≤ f → ((∀ e, e < n - 1 → ¬ andI (shrI (snI (f : Int) (n : Int) e) (pwI (f : Int) (n : Int) (e + 1))) 1 = 1) ↔ rootP (f : Int) (n : Int) = true) ∧ pwI (f : Int) (n : Int) (n - 1) = 1 := by decide +kernel
theorem rt_cls {f n : Int} (hn : isPr n) (h2 : 2 ≤ f) (hf : f < n) : (∀ e : Nat, (e : Int) < n - 1 → ¬ andI (shrI (snI f n e) (pwI f n (e + 1))) 1 = 1) ↔ rootP f n = true := by
  obtain ⟨k, hk, rfl⟩ := isPr_mem hn
  obtain ⟨g, rfl⟩ : ∃ g : Nat, f = (g : Int) := ⟨f.toNat, by omega⟩
  have h := (rt_tab k hk g (by omega) (by omega)).1
  refine Iff.trans ⟨fun q e he => q e (by omega), fun q e he => q e (by omega)⟩ h
theorem rt_one {f n : Int} (hn : isPr n) (h2 : 2 ≤ f) (hf : f < n) : pwI f n (n - 1).toNat = 1 := by
  obtain ⟨k, hk, rfl⟩ := isPr_mem hn
  obtain ⟨g, rfl⟩ : ∃ g : Nat, f = (g : Int) := ⟨f.toNat, by omega⟩
  have h := (rt_tab k hk g (by omega) (by omega)).2
  rw [show ((k : Int) - 1).toNat = k - 1 by omega]
  exact h
/-- the lowest root as a walk upwards -/
def lowC (n : Int) : Nat → Int → Int
  | 0, _ => -1
  | k + 1, f => if 2 ≤ f ∧ f < n ∧ rootP f n = true then f else lowC n k (f + 1)
def cntC (n : Int) : Nat → Int → Int → Int
  | 0, _, r => r
  | k + 1, f, r => cntC n k (f + 1) (if 2 ≤ f ∧ f < n ∧ rootP f n = true then r + 1 else r)
def lowR (n : Int) : Int := lowC n (n - 2).toNat 2
def cntR (n : Int) : Int := cntC n (n - 2).toNat 2 0
def prI (j : Nat) : Int := ((prN.getD j 0 : Nat) : Int)
theorem prI_bd (j : Nat) : -2147483648 ≤ prI j ∧ prI j < 2147483648 := by
  unfold prI
  rcases Nat.lt_or_ge j 10 with h | h
  · have h2 : ∀ j, j < 10 → prN.getD j 0 < 32 := by decide
    have := h2 j h
    omega
  · rw [List.getD_eq_getElem?_getD, List.getElem?_eq_none (by simpa [prN] using h)]
    decide
theorem pr_in {j : Nat} {n : Int} (h : j < 10) (e : prI j = n) : isPr n := by
  subst e
  have h2 : ∀ j, j < 10 → prN.getD j 0 = 3 ∨ prN.getD j 0 = 5 ∨ prN.getD j 0 = 7 ∨ prN.getD j 0 = 11 ∨ prN.getD j 0 = 13 ∨ prN.getD j 0 = 17 ∨ prN.getD j 0 = 19 ∨ prN.getD j 0 = 23 ∨ prN.getD j 0 = 29 ∨ prN.getD j 0 = 31 := by decide
  have := h2 j h
  unfold isPr prI
  omega
theorem pr_out {n : Int} (h : ∀ j : Nat, j < 10 → ¬ prI j = n) : ¬ isPr n := by
  have h0 : ¬ (3 : Int) = n := h 0 (by decide)
  have h1 : ¬ (5 : Int) = n := h 1 (by decide)
  have h2 : ¬ (7 : Int) = n := h 2 (by decide)
  have h3 : ¬ (11 : Int) = n := h 3 (by decide)
  have h4 : ¬ (13 : Int) = n := h 4 (by decide)
  have h5 : ¬ (17 : Int) = n := h 5 (by decide)
  have h6 : ¬ (19 : Int) = n := h 6 (by decide)
  have h7 : ¬ (23 : Int) = n := h 7 (by decide)
  have h8 : ¬ (29 : Int) = n := h 8 (by decide)
  have h9 : ¬ (31 : Int) = n := h 9 (by decide)
  unfold isPr
  omega
/-- the static row of primes, read off the tables -/
def PZ (U : State) (H : Heap) (A : Nat → Prop) : Prop := (∃ t : Nat, va_Z "SoundWells" "PRIMES" "[I" (.ref t) A U H ∧ va_T .int t 10 (fun j => .int (iI (prI j))) A U H) ∧ va_Nw (.fieldLinkNest "SoundWells$Numbers" 9 "SoundWells" "PRIMES" "[I" "SoundWells") U
theorem PZ.narrow {U : State} {H : Heap} {A B : Nat → Prop} (h : PZ U H A) (hAB : ∀ q, B q → A q) : PZ U H B := by
  obtain ⟨⟨t, h1, h2⟩, h3⟩ := h
  exact ⟨⟨t, h1.narrow hAB, h2.narrow hAB⟩, h3⟩
theorem PZ.kept {U : State} {H H1 : Heap} {A : Nat → Prop} (h : PZ U H A) (hq : ∀ a : Nat, a < H.size → ¬ A a → H1[a]? = H[a]?) : PZ U H1 A := by
  obtain ⟨⟨t, h1, h2⟩, h3⟩ := h
  exact ⟨⟨t, h1.kept hq, h2.kept hq⟩, h3⟩
end
section
/-! Numbers -/
def Stb (Bf : State → Heap → Prop) : Prop := (∀ (u U : State) (H : Heap), u.vm = U.vm → Bf u H → Bf U H) ∧ ∀ (s U : State) (H : Heap), s.WarmedH U.vm → Bf s H → Bf U H
theorem preS_of {s : State} {H : Heap} {vs : List Value} {Bf : State → Heap → Prop} (hst : Stb Bf) (h : Bf s H) : PreS s H (va_Pc vs (fun U => Bf U U.heap)) vs := ⟨fun a U g mk q => ⟨q.1, hst.1 U (U.calling g mk a) U.heap rfl q.2⟩, fun U hU hW => ⟨rfl, by show Bf U U.heap; rw [hU]; exact hst.2 s U H hW h⟩⟩
theorem preV_of {s : State} {H : Heap} {C : String} {b : Nat} {vs : List Value} {Bf : State → Heap → Prop} (hst : Stb Bf) (hr : ∃ cell : Cell, H[b]? = some cell ∧ cell.vm.isStatics = false ∧ s.vm.findClass C = some cell.cls) (h : Bf s H) : PreV s H C b (va_Pc (.ref b :: vs) (fun U => Bf U U.heap)) vs := ⟨fun a U g mk q => ⟨q.1, hst.1 U (U.calling g mk a) U.heap rfl q.2⟩, hr, fun U hU hW => ⟨rfl, by show Bf U U.heap; rw [hU]; exact hst.2 s U H hW h⟩⟩
theorem Stb_H {X : Heap → Prop} : Stb (fun _ H => X H) := ⟨fun _ _ _ _ h => h, fun _ _ _ _ h => h⟩
theorem Stb_and {B1 B2 : State → Heap → Prop} (h1 : Stb B1) (h2 : Stb B2) : Stb (fun U H => B1 U H ∧ B2 U H) := ⟨fun u U H e h => ⟨h1.1 u U H e h.1, h2.1 u U H e h.2⟩, fun s U H w h => ⟨h1.2 s U H w h.1, h2.2 s U H w h.2⟩⟩
theorem PZ_stb (A : Nat → Prop) : Stb (fun U H => PZ U H A) := by
  refine ⟨fun u U H e h => ?_, fun s U H hW h => ?_⟩
  · obtain ⟨⟨t, h1, h2⟩, h3⟩ := h
    have ha : u.vm.Alike U.vm := e ▸ Vm.Alike.refl u.vm
    exact ⟨⟨t, h1.moved ha, h2.moved ha⟩, h3.same rfl e⟩
  · obtain ⟨⟨t, h1, h2⟩, h3⟩ := h
    exact ⟨⟨t, h1.moved hW.alike, h2.moved hW.alike⟩, h3.warmF hW⟩

abbrev rm_X0_rest : Room := { frames := 0, cells := 0, slots := 0, locals := 0 }
set_option maxHeartbeats 4000000 in
set_option maxRecDepth 100000 in
/-- rest -/
theorem c_X0_rest (l : Launch) (a : Int) (n : Int) (ha : -2147483648 ≤ a ∧ a < 2147483648) (hn : 1 ≤ n ∧ n < 2147483648) : Met l yX0_rest (Cond.code yX0_rest cX0_rest 3 (some .int) :: TB) rm_X0_rest (va_Pc [.int (iI a), .int (iI n)] (fun _ => True)) (vp_Si (fun r => r = iI (a % n) ∧ (0 ≤ a % n ∧ a % n < n))) 0 0 (fun _ => False) := by
  refine enter (cc := cX0_rest) (maxL := 3) (ret := (some .int)) (by decide) (Nat.le_of_ble_eq_true rfl) ?_
  intro p e s m below meth c Q ls hx hb hml hown hts hr hlocks hnm _ hl hQ
  have ht : ∀ w ∈ TB, w.before _ s = true := fun w h => hts w (List.mem_cons_of_mem _ h)
  have hl : lv_has ls 3 [(0, .int (iI a)), (1, .int (iI n))] := hl
  have htm := tm_bd (a := a) (n := n) (by omega)
  refine lv_iload_n hx hb dX0_rest_0 rfl (lv_at hl 1 rfl) ?_
  refine rv_iconst hx hb dX0_rest_1 ?_
  refine rv_icmp_ge (tgt := 7) hx hb dX0_rest_2 (by decide) (by omega) (fun h2 => ?_) (fun h2 => False.elim (by omega))
  refine lv_iload_n hx hb dX0_rest_7 rfl (lv_at hl 0 rfl) ?_
  refine lv_iload_n hx hb dX0_rest_8 rfl (lv_at hl 1 rfl) ?_
  refine rv_iremT hx hb dX0_rest_9 (by omega) ?_
  refine lv_istore_n (lv' := [(2, .int (iI (Int.tmod a n))), (0, .int (iI a)), (1, .int (iI n))]) hx hb dX0_rest_10 rfl hl (by decide) rfl (fun ls hl => ?_)
  refine lv_iload_n hx hb dX0_rest_11 rfl (lv_at hl 0 rfl) ?_
  refine rv_if_ge (tgt := 21) hx hb dX0_rest_12 (by decide) (by omega) (fun h12 => ?_) (fun h12 => ?_)
  · refine lv_iload_n hx hb dX0_rest_21 rfl (lv_at hl 0 rfl) ?_
    subst hQ
    exact W.iret hx hb hr (fun t9 ht9 hW9 => ⟨_, rfl, ⟨by rw [show (Int.tmod a n) = a % n by omega], md_bd (by omega)⟩, ht9⟩) (fun _ h => absurd h List.not_mem_nil) dX0_rest_22
  · refine lv_iload_n hx hb dX0_rest_15 rfl (lv_at hl 0 rfl) ?_
    refine lv_iload_n hx hb dX0_rest_16 rfl (lv_at hl 2 rfl) ?_
    refine rv_iadd hx hb dX0_rest_17 ?_
    refine lv_goto (tgt := 22) hx hb dX0_rest_18 (by decide) ?_
    subst hQ
    exact W.iret hx hb hr (fun t9 ht9 hW9 => ⟨_, rfl, ⟨by rw [show ((Int.tmod a n) + n) = a % n by omega], md_bd (by omega)⟩, ht9⟩) (fun _ h => absurd h List.not_mem_nil) dX0_rest_22

abbrev rm_X0_roundedUp : Room := { frames := 0, cells := 0, slots := 0, locals := 0 }
set_option maxHeartbeats 4000000 in
set_option maxRecDepth 100000 in
/-- roundedUp -/
theorem c_X0_roundedUp (l : Launch) (a : Int) (n : Int) (ha : 0 ≤ a ∧ a < 1000000) (hn : 1 ≤ n ∧ n < 1000000) : Met l yX0_roundedUp (Cond.code yX0_roundedUp cX0_roundedUp 2 (some .int) :: TB) rm_X0_roundedUp (va_Pc [.int (iI a), .int (iI n)] (fun _ => True)) (vp_Si (fun r => r = iI ((a + n - 1) / n))) 0 0 (fun _ => False) := by
  refine enter (cc := cX0_roundedUp) (maxL := 2) (ret := (some .int)) (by decide) (Nat.le_of_ble_eq_true rfl) ?_
  intro p e s m below meth c Q ls hx hb hml hown hts hr hlocks hnm _ hl hQ
  have ht : ∀ w ∈ TB, w.before _ s = true := fun w h => hts w (List.mem_cons_of_mem _ h)
  have hl : lv_has ls 2 [(0, .int (iI a)), (1, .int (iI n))] := hl
  refine lv_iload_n hx hb dX0_roundedUp_0 rfl (lv_at hl 1 rfl) ?_
  refine rv_iconst hx hb dX0_roundedUp_1 ?_
  refine rv_icmp_ge (tgt := 9) hx hb dX0_roundedUp_2 (by decide) (by omega) (fun h2 => ?_) (fun h2 => False.elim (by omega))
  refine lv_iload_n hx hb dX0_roundedUp_9 rfl (lv_at hl 0 rfl) ?_
  refine lv_iload_n hx hb dX0_roundedUp_10 rfl (lv_at hl 1 rfl) ?_
  refine rv_iadd hx hb dX0_roundedUp_11 ?_
  refine rv_iconst hx hb dX0_roundedUp_12 ?_
  refine rv_isub hx hb dX0_roundedUp_13 ?_
  refine lv_iload_n hx hb dX0_roundedUp_14 rfl (lv_at hl 1 rfl) ?_
  refine rv_idiv hx hb dX0_roundedUp_15 (by omega) ?_
  subst hQ
  exact W.iret hx hb hr (fun t9 ht9 hW9 => ⟨_, rfl, rfl, ht9⟩) (fun _ h => absurd h List.not_mem_nil) dX0_roundedUp_16

abbrev rm_X0_squareBits : Room := { frames := 0, cells := 0, slots := 0, locals := 0 }
set_option maxHeartbeats 4000000 in
set_option maxRecDepth 100000 in
/-- squareBits -/
theorem c_X0_squareBits (l : Launch) (n : Int) (hn : 2 ≤ n ∧ n < 1000) : Met l yX0_squareBits (Cond.code yX0_squareBits cX0_squareBits 3 (some .int) :: TB) rm_X0_squareBits (va_Pc [.int (iI n)] (fun _ => True)) (vp_Si (fun r => r = iI (sqB n) ∧ (-2147483648 ≤ sqB n ∧ sqB n < 2147483648))) 0 0 (fun _ => False) := by
  refine enter (cc := cX0_squareBits) (maxL := 3) (ret := (some .int)) (by decide) (Nat.le_of_ble_eq_true rfl) ?_
  intro p e s m below meth c Q ls hx hb hml hown hts hr hlocks hnm _ hl hQ
  have ht : ∀ w ∈ TB, w.before _ s = true := fun w h => hts w (List.mem_cons_of_mem _ h)
  have hl : lv_has ls 3 [(0, .int (iI n))] := hl
  refine rv_iconst hx hb dX0_squareBits_0 ?_
  refine lv_istore_n (lv' := [(1, .int (iI 0)), (0, .int (iI n))]) hx hb dX0_squareBits_1 rfl hl (by decide) rfl (fun ls hl => ?_)
  refine rv_iconst hx hb dX0_squareBits_2 ?_
  refine lv_istore_n (lv' := [(2, .int (iI 1)), (1, .int (iI 0)), (0, .int (iI n))]) hx hb dX0_squareBits_3 rfl hl (by decide) rfl (fun ls hl => ?_)
  have loop4 : ∀ (fuel : Nat) (k : Nat), ((k : Int) + 1 ≤ n) → (n - (k : Int)).toNat < fuel → ∀ (x1 x2 : Int), x1 = sqBn n k → x2 = ((k : Int) + 1) → ∀ ls : Array Slot, lv_has ls 3 [(0, .int (iI n)), (1, .int (iI x1)), (2, .int (iI x2))] → W p l e rm_X0_squareBits s m [.int (iI n)].toArray below meth c s.heap [] 0 0 Q (F0 m 4 ls []) := by
    intro fuel
    induction fuel with
    | zero => intro k hk hfuel; exact absurd hfuel (Nat.not_lt_zero _)
    | succ fuel ih =>
      intro k hk hfuel x1 x2 ex1 ex2 ls hl
      subst ex1 ex2
      refine lv_iload_n hx hb dX0_squareBits_4 rfl (lv_at hl 2 rfl) ?_
      refine lv_iload_n hx hb dX0_squareBits_5 rfl (lv_at hl 0 rfl) ?_
      refine rv_icmp_ge (tgt := 25) hx hb dX0_squareBits_6 (by decide) (by omega) (fun h6 => ?_) (fun h6 => ?_)
      · refine lv_iload_n hx hb dX0_squareBits_25 rfl (lv_at hl 1 rfl) ?_
        subst hQ
        exact W.iret hx hb hr (fun t9 ht9 hW9 => ⟨_, rfl, ⟨by rw [sqB, show (n - 1).toNat = k by omega], sqBn_bd _ _⟩, ht9⟩) (fun _ h => absurd h List.not_mem_nil) dX0_squareBits_26
      · refine lv_iload_n hx hb dX0_squareBits_9 rfl (lv_at hl 1 rfl) ?_
        refine rv_iconst hx hb dX0_squareBits_10 ?_
        refine lv_iload_n hx hb dX0_squareBits_11 rfl (lv_at hl 2 rfl) ?_
        refine lv_iload_n hx hb dX0_squareBits_12 rfl (lv_at hl 2 rfl) ?_
        have hq : ((k : Int) + 1) * ((k : Int) + 1) ≤ 1000 * 1000 := Int.mul_le_mul (by omega) (by omega) (by omega) (by omega)
        have hq0 : 0 ≤ ((k : Int) + 1) * ((k : Int) + 1) := Int.mul_nonneg (by omega) (by omega)
        refine rv_imul hx hb dX0_squareBits_13 ?_
        refine lv_iload_n hx hb dX0_squareBits_14 rfl (lv_at hl 0 rfl) ?_
        refine rv_irem hx hb dX0_squareBits_15 (by omega) ?_
        have hm15 := md_bd (x := (((k : Int) + 1) * ((k : Int) + 1))) (y := n) (by omega)
        refine rv_ishl hx hb dX0_squareBits_16 ?_
        refine rv_ior hx hb dX0_squareBits_17 ?_
        refine lv_istore_n (lv' := [(1, .int (iI (orI (sqBn n k) (shlI 1 ((((k : Int) + 1) * ((k : Int) + 1)) % n))))), (0, .int (iI n)), (2, .int (iI ((k : Int) + 1)))]) hx hb dX0_squareBits_18 rfl hl (by decide) rfl (fun ls hl => ?_)
        refine rv_iinc (k := 2) (lv' := [(2, .int (iI (((k : Int) + 1) + 1))), (1, .int (iI (orI (sqBn n k) (shlI 1 ((((k : Int) + 1) * ((k : Int) + 1)) % n))))), (0, .int (iI n))]) hx hb dX0_squareBits_19 hl rfl (by decide) rfl (fun ls hl => ?_)
        refine lv_goto (tgt := 4) hx hb dX0_squareBits_22 (by decide) ?_
        exact ih (k + 1) (by omega) (by omega) _ _ rfl (by omega) ls (lv_sub hl [2, 1, 0] rfl)
  exact loop4 (_ + 1) 0 (by omega) (Nat.lt_succ_self _) _ _ rfl rfl ls (lv_sub hl [2, 1, 0] rfl)

abbrev rm_X0_signOf : Room := { frames := 1, cells := 0, slots := 0, locals := 22 }
set_option maxHeartbeats 4000000 in
set_option maxRecDepth 100000 in
/-- signOf -/
theorem c_X0_signOf (l : Launch) (a : Int) (n : Int) (ha : -2147483648 ≤ a ∧ a < 2147483648) (hn : isPr n) : Met l yX0_signOf (Cond.code yX0_signOf cX0_signOf 3 (some .int) :: TB) rm_X0_signOf (va_Pc [.int (iI a), .int (iI n)] (fun _ => True)) (vp_Si (fun r => r = iI (sg a n) ∧ (-1 ≤ sg a n ∧ sg a n ≤ 1))) 0 0 (fun _ => False) := by
  refine enter (cc := cX0_signOf) (maxL := 3) (ret := (some .int)) (by decide) (Nat.le_of_ble_eq_true rfl) ?_
  intro p e s m below meth c Q ls hx hb hml hown hts hr hlocks hnm _ hl hQ
  have ht : ∀ w ∈ TB, w.before _ s = true := fun w h => hts w (List.mem_cons_of_mem _ h)
  have hl : lv_has ls 3 [(0, .int (iI a)), (1, .int (iI n))] := hl
  have hnb := isPr_bd hn
  have hmb := md_bd (x := a) (y := n) (by omega)
  obtain ⟨k, hk, hkn⟩ := isPr_mem hn
  have htab := sg_tab k hk (a % n).toNat (by omega)
  rw [show (((a % n).toNat : Nat) : Int) = a % n by omega, ← hkn] at htab
  have hs1 := andI_bd (shrI (sqB n) (a % n)) 1
  refine lv_iload_n hx hb dX0_signOf_0 rfl (lv_at hl 0 rfl) ?_
  refine lv_iload_n hx hb dX0_signOf_1 rfl (lv_at hl 1 rfl) ?_
  refine vp_callSi (W.runS (As := [.int (iI a), .int (iI n)]) (rest := []) ⟨hx, hb, hml, hown, hts⟩ (c_X0_rest l a n (by omega) (by omega)) (va_cwS 2 hts (gS tb_399 tb_139 tb_6 tb_140) rfl rfl rfl (by decide +kernel) ⟨Nat.le_of_ble_eq_true rfl, Nat.le_of_ble_eq_true rfl⟩) preS0 rfl rfl hl.1 rfl (lv_room (Nat.le_of_ble_eq_true rfl)) dX0_signOf_2 ⟨Nat.le_of_ble_eq_true rfl, Nat.le_of_ble_eq_true rfl⟩) (fun r9 hr9 => ?_)
  obtain ⟨rfl, hx2_0⟩ := hr9
  refine lv_istore_n (lv' := [(2, .int (iI (a % n))), (0, .int (iI a)), (1, .int (iI n))]) hx hb dX0_signOf_5 rfl hl (by decide) rfl (fun ls hl => ?_)
  refine lv_iload_n hx hb dX0_signOf_6 rfl (lv_at hl 0 rfl) ?_
  refine rv_if_ne (tgt := 12) hx hb dX0_signOf_7 (by decide) (by omega) (fun h7 => ?_) (fun h7 => ?_)
  · refine lv_iload_n hx hb dX0_signOf_12 rfl (lv_at hl 2 rfl) ?_
    refine vp_callSi (W.runS (As := [.int (iI n)]) (rest := []) ⟨hx, hb, hml, hown, hts⟩ (c_X0_squareBits l n (by omega)) (va_cwS 1 hts (gS tb_400 tb_136 tb_6 tb_137) rfl rfl rfl (by decide +kernel) ⟨Nat.le_of_ble_eq_true rfl, Nat.le_of_ble_eq_true rfl⟩) preS0 rfl rfl hl.1 rfl (lv_room (Nat.le_of_ble_eq_true rfl)) dX0_signOf_13 ⟨Nat.le_of_ble_eq_true rfl, Nat.le_of_ble_eq_true rfl⟩) (fun r9 hr9 => ?_)
    obtain ⟨rfl, hx13_0⟩ := hr9
    refine lv_iload_n hx hb dX0_signOf_16 rfl (lv_at hl 0 rfl) ?_
    refine rv_ishr hx hb dX0_signOf_17 ?_
    refine rv_iconst hx hb dX0_signOf_18 ?_
    refine rv_iand hx hb dX0_signOf_19 ?_
    refine rv_iconst hx hb dX0_signOf_20 ?_
    refine rv_icmp_ne (tgt := 28) hx hb dX0_signOf_21 (by decide) (by omega) (fun h21 => ?_) (fun h21 => ?_)
    · refine rv_iconst hx hb dX0_signOf_28 ?_
      subst hQ
      exact W.iret hx hb hr (fun t9 ht9 hW9 => ⟨_, rfl, ⟨by rw [sg, sgN, if_neg (by omega), show n.toNat = k by omega]; rw [if_neg (fun q => h21 (htab.mpr q))], sg_bd _ _⟩, ht9⟩) (fun _ h => absurd h List.not_mem_nil) dX0_signOf_29
    · refine rv_iconst hx hb dX0_signOf_24 ?_
      refine lv_goto (tgt := 29) hx hb dX0_signOf_25 (by decide) ?_
      subst hQ
      exact W.iret hx hb hr (fun t9 ht9 hW9 => ⟨_, rfl, ⟨by rw [sg, sgN, if_neg (by omega), show n.toNat = k by omega]; rw [if_pos (htab.mp h21)], sg_bd _ _⟩, ht9⟩) (fun _ h => absurd h List.not_mem_nil) dX0_signOf_29
  · refine rv_iconst hx hb dX0_signOf_10 ?_
    subst hQ
    exact W.iret hx hb hr (fun t9 ht9 hW9 => ⟨_, rfl, ⟨by rw [sg, sgN, if_pos (by omega)], sg_bd _ _⟩, ht9⟩) (fun _ h => absurd h List.not_mem_nil) dX0_signOf_11

abbrev rm_X0_isRoot : Room := { frames := 0, cells := 0, slots := 0, locals := 0 }
set_option maxHeartbeats 4000000 in
set_option maxRecDepth 100000 in
/-- isRoot -/
theorem c_X0_isRoot (l : Launch) (f : Int) (n : Int) (hf : -2147483648 ≤ f ∧ f < 2147483648) (hn : isPr n) : Met l yX0_isRoot (Cond.code yX0_isRoot cX0_isRoot 5 (some .boolean) :: TB) rm_X0_isRoot (va_Pc [.int (iI f), .int (iI n)] (fun _ => True)) (vp_Si (fun r => (r = iI 1 ∧ (isRt f n)) ∨ (r = iI 0 ∧ ¬ (isRt f n)))) 0 0 (fun _ => False) := by
  refine enter (cc := cX0_isRoot) (maxL := 5) (ret := (some .boolean)) (by decide) (Nat.le_of_ble_eq_true rfl) ?_
  intro p e s m below meth c Q ls hx hb hml hown hts hr hlocks hnm _ hl hQ
  have ht : ∀ w ∈ TB, w.before _ s = true := fun w h => hts w (List.mem_cons_of_mem _ h)
  have hl : lv_has ls 5 [(0, .int (iI f)), (1, .int (iI n))] := hl
  have hnb := isPr_bd hn
  refine lv_iload_n hx hb dX0_isRoot_0 rfl (lv_at hl 0 rfl) ?_
  refine rv_iconst hx hb dX0_isRoot_1 ?_
  refine rv_icmp_lt (tgt := 10) hx hb dX0_isRoot_2 (by decide) (by omega) (fun h2 => ?_) (fun h2 => ?_)
  · refine rv_iconst hx hb dX0_isRoot_10 ?_
    subst hQ
    exact W.zret (ty := .boolean) hx hb hr (by decide) (fun t9 ht9 hW9 => ⟨_, rfl, Or.inr ⟨rfl, fun q => by have := q.1; have := q.2.1; omega⟩, ht9⟩) (fun _ h => absurd h List.not_mem_nil) dX0_isRoot_11
  · refine lv_iload_n hx hb dX0_isRoot_5 rfl (lv_at hl 0 rfl) ?_
    refine lv_iload_n hx hb dX0_isRoot_6 rfl (lv_at hl 1 rfl) ?_
    refine rv_icmp_lt (tgt := 12) hx hb dX0_isRoot_7 (by decide) (by omega) (fun h7 => ?_) (fun h7 => ?_)
    · refine rv_iconst hx hb dX0_isRoot_12 ?_
      refine lv_istore_n (lv' := [(2, .int (iI 0)), (0, .int (iI f)), (1, .int (iI n))]) hx hb dX0_isRoot_13 rfl hl (by decide) rfl (fun ls hl => ?_)
      refine rv_iconst hx hb dX0_isRoot_14 ?_
      refine lv_istore_n (lv' := [(3, .int (iI 1)), (2, .int (iI 0)), (0, .int (iI f)), (1, .int (iI n))]) hx hb dX0_isRoot_15 rfl hl (by decide) rfl (fun ls hl => ?_)
      refine rv_iconst hx hb dX0_isRoot_16 ?_
      refine lv_istore (lv' := [(4, .int (iI 1)), (3, .int (iI 1)), (2, .int (iI 0)), (0, .int (iI f)), (1, .int (iI n))]) hx hb dX0_isRoot_17 hl (by decide) rfl (fun ls hl => ?_)
      have loop19 : ∀ (fuel : Nat) (k : Nat), ((k : Int) + 1 ≤ n) → (∀ e : Nat, e < k → ¬ andI (shrI (snI f n e) (pwI f n (e + 1))) 1 = 1) → (n - (k : Int)).toNat < fuel → ∀ (x2 x3 x4 : Int), x2 = snI f n k → x3 = pwI f n k → x4 = ((k : Int) + 1) → ∀ ls : Array Slot, lv_has ls 5 [(0, .int (iI f)), (1, .int (iI n)), (2, .int (iI x2)), (3, .int (iI x3)), (4, .int (iI x4))] → W p l e rm_X0_isRoot s m [.int (iI f), .int (iI n)].toArray below meth c s.heap [] 0 0 Q (F0 m 19 ls []) := by
        intro fuel
        induction fuel with
        | zero => intro k hk hi hfuel; exact absurd hfuel (Nat.not_lt_zero _)
        | succ fuel ih =>
          intro k hk hi hfuel x2 x3 x4 ex2 ex3 ex4 ls hl
          subst ex2 ex3 ex4
          have hpb := pwI_bd (f := f) (n := n) (by omega) k
          have hpc := pwI_bd (f := f) (n := n) (by omega) (k + 1)
          have hpm : 0 ≤ pwI f n k * f := Int.mul_nonneg (by omega) (by omega)
          have hpn : pwI f n k * f ≤ 31 * 31 := Int.mul_le_mul (by omega) (by omega) (by omega) (by omega)
          have hab := andI_bd (shrI (snI f n k) (pwI f n (k + 1))) 1
          refine lv_iload hx hb dX0_isRoot_19 (lv_at hl 4 rfl) ?_
          refine lv_iload_n hx hb dX0_isRoot_21 rfl (lv_at hl 1 rfl) ?_
          refine rv_icmp_ge (tgt := 54) hx hb dX0_isRoot_22 (by decide) (by omega) (fun h22 => ?_) (fun h22 => ?_)
          · refine rv_iconst hx hb dX0_isRoot_54 ?_
            subst hQ
            exact W.zret (ty := .boolean) hx hb hr (by decide) (fun t9 ht9 hW9 => ⟨_, rfl, Or.inl ⟨rfl, by omega, by omega, (rt_cls hn (by omega) (by omega)).mp (fun e he => hi e (by omega))⟩, ht9⟩) (fun _ h => absurd h List.not_mem_nil) dX0_isRoot_55
          · refine lv_iload_n hx hb dX0_isRoot_25 rfl (lv_at hl 3 rfl) ?_
            refine lv_iload_n hx hb dX0_isRoot_26 rfl (lv_at hl 0 rfl) ?_
            refine rv_imul hx hb dX0_isRoot_27 ?_
            refine lv_iload_n hx hb dX0_isRoot_28 rfl (lv_at hl 1 rfl) ?_
            refine rv_irem hx hb dX0_isRoot_29 (by omega) ?_
            refine rv_top (y := (pwI f n (k + 1))) rfl ?_
            refine lv_istore_n (lv' := [(3, .int (iI (pwI f n (k + 1)))), (0, .int (iI f)), (1, .int (iI n)), (2, .int (iI (snI f n k))), (4, .int (iI ((k : Int) + 1)))]) hx hb dX0_isRoot_30 rfl hl (by decide) rfl (fun ls hl => ?_)
            refine lv_iload_n hx hb dX0_isRoot_31 rfl (lv_at hl 3 rfl) ?_
            refine lv_iload_n hx hb dX0_isRoot_32 rfl (lv_at hl 0 rfl) ?_
            refine rv_ishr hx hb dX0_isRoot_33 ?_
            refine rv_iconst hx hb dX0_isRoot_34 ?_
            refine rv_iand hx hb dX0_isRoot_35 ?_
            refine rv_iconst hx hb dX0_isRoot_36 ?_
            refine rv_icmp_ne (tgt := 42) hx hb dX0_isRoot_37 (by decide) (by omega) (fun h37 => ?_) (fun h37 => ?_)
            · refine lv_iload_n hx hb dX0_isRoot_42 rfl (lv_at hl 3 rfl) ?_
              refine rv_iconst hx hb dX0_isRoot_43 ?_
              refine lv_iload_n hx hb dX0_isRoot_44 rfl (lv_at hl 0 rfl) ?_
              refine rv_ishl hx hb dX0_isRoot_45 ?_
              refine rv_ior hx hb dX0_isRoot_46 ?_
              refine lv_istore_n (lv' := [(2, .int (iI (orI (snI f n k) (shlI 1 (pwI f n (k + 1)))))), (3, .int (iI (pwI f n (k + 1)))), (0, .int (iI f)), (1, .int (iI n)), (4, .int (iI ((k : Int) + 1)))]) hx hb dX0_isRoot_47 rfl hl (by decide) rfl (fun ls hl => ?_)
              refine rv_iinc (k := 4) (lv' := [(4, .int (iI (((k : Int) + 1) + 1))), (2, .int (iI (orI (snI f n k) (shlI 1 (pwI f n (k + 1)))))), (3, .int (iI (pwI f n (k + 1)))), (0, .int (iI f)), (1, .int (iI n))]) hx hb dX0_isRoot_48 hl rfl (by decide) rfl (fun ls hl => ?_)
              refine lv_goto (tgt := 19) hx hb dX0_isRoot_51 (by decide) ?_
              exact ih (k + 1) (by omega) (fun e he => by rcases Nat.lt_or_ge e k with q | q; exact hi e q; rw [show e = k by omega]; exact h37) (by omega) _ _ _ rfl rfl (by omega) ls (lv_sub hl [3, 4, 1, 2, 0] rfl)
            · refine rv_iconst hx hb dX0_isRoot_40 ?_
              subst hQ
              exact W.zret (ty := .boolean) hx hb hr (by decide) (fun t9 ht9 hW9 => ⟨_, rfl, Or.inr ⟨rfl, fun q => (rt_cls hn (by omega) (by omega)).mpr q.2.2 k (by omega) h37⟩, ht9⟩) (fun _ h => absurd h List.not_mem_nil) dX0_isRoot_41
      exact loop19 (_ + 1) 0 (by omega) (fun e he => absurd he (Nat.not_lt_zero _)) (Nat.lt_succ_self _) _ _ _ rfl rfl rfl ls (lv_sub hl [3, 4, 2, 1, 0] rfl)
    · refine rv_iconst hx hb dX0_isRoot_10 ?_
      subst hQ
      exact W.zret (ty := .boolean) hx hb hr (by decide) (fun t9 ht9 hW9 => ⟨_, rfl, Or.inr ⟨rfl, fun q => by have := q.1; have := q.2.1; omega⟩, ht9⟩) (fun _ h => absurd h List.not_mem_nil) dX0_isRoot_11

abbrev rm_X0_isPrime : Room := { frames := 0, cells := 0, slots := 0, locals := 0 }
set_option maxHeartbeats 4000000 in
set_option maxRecDepth 100000 in
/-- isPrime -/
theorem c_X0_isPrime (l : Launch) (n : Int) (hn : -2147483648 ≤ n ∧ n < 2147483648) : Met l yX0_isPrime (Cond.code yX0_isPrime cX0_isPrime 5 (some .boolean) :: TB) rm_X0_isPrime (va_Pc [.int (iI n)] (fun U => PZ U U.heap (fun _ => False))) (vp_Si (fun r => (r = iI 1 ∧ (isPr n)) ∨ (r = iI 0 ∧ ¬ (isPr n)))) 0 0 (fun _ => False) := by
  refine enter (cc := cX0_isPrime) (maxL := 5) (ret := (some .boolean)) (by decide) (Nat.le_of_ble_eq_true rfl) ?_
  intro p e s m below meth c Q ls hx hb hml hown hts hr hlocks hnm ⟨⟨t, hZ, hT⟩, hN⟩ hl hQ
  have ht : ∀ w ∈ TB, w.before _ s = true := fun w h => hts w (List.mem_cons_of_mem _ h)
  have hl : lv_has ls 5 [(0, .int (iI n))] := hl
  refine va_getsN hx hb hZ va_S.rf hown (hN.use rfl) (fun _ h9 => h9) dX0_isPrime_0 ?_
  refine lv_astore_n (lv' := [(1, .ref t), (0, .int (iI n))]) hx hb dX0_isPrime_3 rfl hl (by decide) rfl (fun ls hl => ?_)
  refine lv_aload_n hx hb dX0_isPrime_4 rfl (lv_at hl 0 rfl) ?_
  refine va_tlen (v := iI 10) hx hb hT va_S.rf rfl dX0_isPrime_5 ?_
  refine lv_istore_n (lv' := [(2, .int (iI 10)), (1, .ref t), (0, .int (iI n))]) hx hb dX0_isPrime_6 rfl hl (by decide) rfl (fun ls hl => ?_)
  refine rv_iconst hx hb dX0_isPrime_7 ?_
  refine lv_istore_n (lv' := [(3, .int (iI 0)), (2, .int (iI 10)), (1, .ref t), (0, .int (iI n))]) hx hb dX0_isPrime_8 rfl hl (by decide) rfl (fun ls hl => ?_)
  have loop9 : ∀ (fuel : Nat) (i : Nat), (i ≤ 10) → (∀ j : Nat, j < i → ¬ prI j = n) → 10 - i < fuel → ∀ (x3 : Int), x3 = (i : Int) → ∀ ls : Array Slot, lv_has ls 5 [(0, .int (iI n)), (1, .ref t), (2, .int (iI 10)), (3, .int (iI x3))] → W p l e rm_X0_isPrime s m [.int (iI n)].toArray below meth c s.heap [] 0 0 Q (F0 m 9 ls []) := by
    intro fuel
    induction fuel with
    | zero => intro i hi hq hfuel; exact absurd hfuel (Nat.not_lt_zero _)
    | succ fuel ih =>
      intro i hi hq hfuel x3 ex3 ls hl
      subst ex3
      have hpi := prI_bd i
      refine lv_iload_n hx hb dX0_isPrime_9 rfl (lv_at hl 3 rfl) ?_
      refine lv_iload_n hx hb dX0_isPrime_10 rfl (lv_at hl 2 rfl) ?_
      refine rv_icmp_ge (tgt := 33) hx hb dX0_isPrime_11 (by decide) (by omega) (fun h11 => ?_) (fun h11 => ?_)
      · refine rv_iconst hx hb dX0_isPrime_33 ?_
        subst hQ
        exact W.zret (ty := .boolean) hx hb hr (by decide) (fun t9 ht9 hW9 => ⟨_, rfl, Or.inr ⟨rfl, pr_out (fun j h => hq j (by omega))⟩, ht9⟩) (fun _ h => absurd h List.not_mem_nil) dX0_isPrime_34
      · refine lv_aload_n hx hb dX0_isPrime_14 rfl (lv_at hl 1 rfl) ?_
        refine lv_iload_n hx hb dX0_isPrime_15 rfl (lv_at hl 3 rfl) ?_
        refine va_ti (v := .int (iI (prI i))) hx hb hT va_S.rf (iI_in (j := i) rfl (by omega)) (by rw [iI_at (j := i) (n := 10) rfl (by omega)]) dX0_isPrime_16 ?_
        refine lv_istore (lv' := [(4, .int (iI (prI i))), (0, .int (iI n)), (1, .ref t), (2, .int (iI 10)), (3, .int (iI (i : Int)))]) hx hb dX0_isPrime_17 hl (by decide) rfl (fun ls hl => ?_)
        refine lv_iload hx hb dX0_isPrime_19 (lv_at hl 0 rfl) ?_
        refine lv_iload_n hx hb dX0_isPrime_21 rfl (lv_at hl 1 rfl) ?_
        refine rv_icmp_ne (tgt := 27) hx hb dX0_isPrime_22 (by decide) (by omega) (fun h22 => ?_) (fun h22 => ?_)
        · refine rv_iinc (k := 4) (lv' := [(3, .int (iI ((i : Int) + 1))), (4, .int (iI (prI i))), (0, .int (iI n)), (1, .ref t), (2, .int (iI 10))]) hx hb dX0_isPrime_27 hl rfl (by decide) rfl (fun ls hl => ?_)
          refine lv_goto (tgt := 9) hx hb dX0_isPrime_30 (by decide) ?_
          exact ih (i + 1) (by omega) (fun j h => by rcases Nat.lt_or_ge j i with q | q; exact hq j q; rw [show j = i by omega]; exact h22) (by omega) _ (by omega) ls (lv_sub hl [2, 3, 4, 0] rfl)
        · refine rv_iconst hx hb dX0_isPrime_25 ?_
          subst hQ
          exact W.zret (ty := .boolean) hx hb hr (by decide) (fun t9 ht9 hW9 => ⟨_, rfl, Or.inl ⟨rfl, pr_in (by omega) h22⟩, ht9⟩) (fun _ h => absurd h List.not_mem_nil) dX0_isPrime_26
  exact loop9 (_ + 1) 0 (by omega) (fun j h => absurd h (Nat.not_lt_zero _)) (Nat.lt_succ_self _) _ rfl ls (lv_sub hl [3, 2, 1, 0] rfl)

abbrev rm_X0_lowestRoot : Room := { frames := 1, cells := 0, slots := 0, locals := 24 }
set_option maxHeartbeats 4000000 in
set_option maxRecDepth 100000 in
/-- lowestRoot -/
theorem c_X0_lowestRoot (l : Launch) (n : Int) (hn : isPr n) : Met l yX0_lowestRoot (Cond.code yX0_lowestRoot cX0_lowestRoot 2 (some .int) :: TB) rm_X0_lowestRoot (va_Pc [.int (iI n)] (fun _ => True)) (vp_Si (fun r => r = iI (lowR n))) 0 0 (fun _ => False) := by
  refine enter (cc := cX0_lowestRoot) (maxL := 2) (ret := (some .int)) (by decide) (Nat.le_of_ble_eq_true rfl) ?_
  intro p e s m below meth c Q ls hx hb hml hown hts hr hlocks hnm _ hl hQ
  have ht : ∀ w ∈ TB, w.before _ s = true := fun w h => hts w (List.mem_cons_of_mem _ h)
  have hl : lv_has ls 2 [(0, .int (iI n))] := hl
  have hnb := isPr_bd hn
  refine rv_iconst hx hb dX0_lowestRoot_0 ?_
  refine lv_istore_n (lv' := [(1, .int (iI 2)), (0, .int (iI n))]) hx hb dX0_lowestRoot_1 rfl hl (by decide) rfl (fun ls hl => ?_)
  have loop2 : ∀ (fuel : Nat) (f : Int), (2 ≤ f ∧ f ≤ n) → (lowC n (n - f).toNat f = lowR n) → (n - f).toNat < fuel → ∀ ls : Array Slot, lv_has ls 2 [(0, .int (iI n)), (1, .int (iI f))] → W p l e rm_X0_lowestRoot s m [.int (iI n)].toArray below meth c s.heap [] 0 0 Q (F0 m 2 ls []) := by
    intro fuel
    induction fuel with
    | zero => intro f hf hq hfuel; exact absurd hfuel (Nat.not_lt_zero _)
    | succ fuel ih =>
      intro f hf hq hfuel ls hl
      refine lv_iload_n hx hb dX0_lowestRoot_2 rfl (lv_at hl 1 rfl) ?_
      refine lv_iload_n hx hb dX0_lowestRoot_3 rfl (lv_at hl 0 rfl) ?_
      refine rv_icmp_ge (tgt := 23) hx hb dX0_lowestRoot_4 (by decide) (by omega) (fun h4 => ?_) (fun h4 => ?_)
      · refine rv_iconst hx hb dX0_lowestRoot_23 ?_
        subst hQ
        exact W.iret hx hb hr (fun t9 ht9 hW9 => ⟨_, rfl, (by rw [show (n - f).toNat = 0 by omega, lowC] at hq; rw [← hq]), ht9⟩) (fun _ h => absurd h List.not_mem_nil) dX0_lowestRoot_24
      · refine lv_iload_n hx hb dX0_lowestRoot_7 rfl (lv_at hl 1 rfl) ?_
        refine lv_iload_n hx hb dX0_lowestRoot_8 rfl (lv_at hl 0 rfl) ?_
        refine vp_callSi (W.runS (As := [.int (iI f), .int (iI n)]) (rest := []) ⟨hx, hb, hml, hown, hts⟩ (c_X0_isRoot l f n (by omega) hn) (va_cwS 2 hts (gS tb_408 tb_281 tb_6 tb_282) rfl rfl rfl (by decide +kernel) ⟨Nat.le_of_ble_eq_true rfl, Nat.le_of_ble_eq_true rfl⟩) preS0 rfl rfl hl.1 rfl (lv_room (Nat.le_of_ble_eq_true rfl)) dX0_lowestRoot_9 ⟨Nat.le_of_ble_eq_true rfl, Nat.le_of_ble_eq_true rfl⟩) (fun r9 hr9 => ?_)
        rcases hr9 with ⟨rfl, hb9⟩ | ⟨rfl, hb9⟩
        · refine rv_if_eq (tgt := 17) hx hb dX0_lowestRoot_12 (by decide) (by decide) (fun q => absurd q (by decide)) (fun _ => ?_)
          refine lv_iload_n hx hb dX0_lowestRoot_15 rfl (lv_at hl 1 rfl) ?_
          subst hQ
          exact W.iret hx hb hr (fun t9 ht9 hW9 => ⟨_, rfl, (by rw [show (n - f).toNat = (n - (f + 1)).toNat + 1 by omega, lowC, if_pos (show 2 ≤ f ∧ f < n ∧ rootP f n = true from hb9)] at hq; rw [hq]), ht9⟩) (fun _ h => absurd h List.not_mem_nil) dX0_lowestRoot_16
        · refine rv_if_eq (tgt := 17) hx hb dX0_lowestRoot_12 (by decide) (by decide) (fun _ => ?_) (fun q => absurd q (by decide))
          refine rv_iinc (k := 1) (lv' := [(1, .int (iI (f + 1))), (0, .int (iI n))]) hx hb dX0_lowestRoot_17 hl rfl (by decide) rfl (fun ls hl => ?_)
          refine lv_goto (tgt := 2) hx hb dX0_lowestRoot_20 (by decide) ?_
          exact ih (f + 1) (by omega) (by rw [show (n - f).toNat = (n - (f + 1)).toNat + 1 by omega, lowC, if_neg (show ¬ (2 ≤ f ∧ f < n ∧ rootP f n = true) from hb9)] at hq; exact hq) (by omega) ls (lv_sub hl [1, 0] rfl)
  exact loop2 (_ + 1) 2 (by omega) rfl (Nat.lt_succ_self _) ls (lv_sub hl [1, 0] rfl)

abbrev rm_X0_rootCount : Room := { frames := 1, cells := 0, slots := 0, locals := 24 }
set_option maxHeartbeats 4000000 in
set_option maxRecDepth 100000 in
/-- rootCount -/
theorem c_X0_rootCount (l : Launch) (n : Int) (hn : isPr n) : Met l yX0_rootCount (Cond.code yX0_rootCount cX0_rootCount 3 (some .int) :: TB) rm_X0_rootCount (va_Pc [.int (iI n)] (fun _ => True)) (vp_Si (fun r => r = iI (cntR n))) 0 0 (fun _ => False) := by
  refine enter (cc := cX0_rootCount) (maxL := 3) (ret := (some .int)) (by decide) (Nat.le_of_ble_eq_true rfl) ?_
  intro p e s m below meth c Q ls hx hb hml hown hts hr hlocks hnm _ hl hQ
  have ht : ∀ w ∈ TB, w.before _ s = true := fun w h => hts w (List.mem_cons_of_mem _ h)
  have hl : lv_has ls 3 [(0, .int (iI n))] := hl
  have hnb := isPr_bd hn
  refine rv_iconst hx hb dX0_rootCount_0 ?_
  refine lv_istore_n (lv' := [(1, .int (iI 0)), (0, .int (iI n))]) hx hb dX0_rootCount_1 rfl hl (by decide) rfl (fun ls hl => ?_)
  refine rv_iconst hx hb dX0_rootCount_2 ?_
  refine lv_istore_n (lv' := [(2, .int (iI 2)), (1, .int (iI 0)), (0, .int (iI n))]) hx hb dX0_rootCount_3 rfl hl (by decide) rfl (fun ls hl => ?_)
  have loop4 : ∀ (fuel : Nat) (f : Int) (r : Int), (2 ≤ f ∧ f ≤ n) → (cntC n (n - f).toNat f r = cntR n) → (n - f).toNat < fuel → ∀ ls : Array Slot, lv_has ls 3 [(0, .int (iI n)), (1, .int (iI r)), (2, .int (iI f))] → W p l e rm_X0_rootCount s m [.int (iI n)].toArray below meth c s.heap [] 0 0 Q (F0 m 4 ls []) := by
    intro fuel
    induction fuel with
    | zero => intro f r hf hq hfuel; exact absurd hfuel (Nat.not_lt_zero _)
    | succ fuel ih =>
      intro f r hf hq hfuel ls hl
      refine lv_iload_n hx hb dX0_rootCount_4 rfl (lv_at hl 2 rfl) ?_
      refine lv_iload_n hx hb dX0_rootCount_5 rfl (lv_at hl 0 rfl) ?_
      refine rv_icmp_ge (tgt := 26) hx hb dX0_rootCount_6 (by decide) (by omega) (fun h6 => ?_) (fun h6 => ?_)
      · refine lv_iload_n hx hb dX0_rootCount_26 rfl (lv_at hl 1 rfl) ?_
        subst hQ
        exact W.iret hx hb hr (fun t9 ht9 hW9 => ⟨_, rfl, (by rw [show (n - f).toNat = 0 by omega, cntC] at hq; rw [hq]), ht9⟩) (fun _ h => absurd h List.not_mem_nil) dX0_rootCount_27
      · refine lv_iload_n hx hb dX0_rootCount_9 rfl (lv_at hl 2 rfl) ?_
        refine lv_iload_n hx hb dX0_rootCount_10 rfl (lv_at hl 0 rfl) ?_
        refine vp_callSi (W.runS (As := [.int (iI f), .int (iI n)]) (rest := []) ⟨hx, hb, hml, hown, hts⟩ (c_X0_isRoot l f n (by omega) hn) (va_cwS 2 hts (gS tb_408 tb_281 tb_6 tb_282) rfl rfl rfl (by decide +kernel) ⟨Nat.le_of_ble_eq_true rfl, Nat.le_of_ble_eq_true rfl⟩) preS0 rfl rfl hl.1 rfl (lv_room (Nat.le_of_ble_eq_true rfl)) dX0_rootCount_11 ⟨Nat.le_of_ble_eq_true rfl, Nat.le_of_ble_eq_true rfl⟩) (fun r9 hr9 => ?_)
        rcases hr9 with ⟨rfl, hb11⟩ | ⟨rfl, hb11⟩
        · refine rv_if_eq (tgt := 20) hx hb dX0_rootCount_14 (by decide) (by decide) (fun q => absurd q (by decide)) (fun _ => ?_)
          refine rv_iinc (k := 1) (lv' := [(1, .int (iI (r + 1))), (0, .int (iI n)), (2, .int (iI f))]) hx hb dX0_rootCount_17 hl rfl (by decide) rfl (fun ls hl => ?_)
          refine rv_iinc (k := 2) (lv' := [(2, .int (iI (f + 1))), (1, .int (iI (r + 1))), (0, .int (iI n))]) hx hb dX0_rootCount_20 hl rfl (by decide) rfl (fun ls hl => ?_)
          refine lv_goto (tgt := 4) hx hb dX0_rootCount_23 (by decide) ?_
          exact ih (f + 1) (r + 1) (by omega) (by rw [show (n - f).toNat = (n - (f + 1)).toNat + 1 by omega, cntC] at hq; first | (rw [if_pos (show 2 ≤ f ∧ f < n ∧ rootP f n = true from hb11)] at hq; exact hq) | (rw [if_neg (show ¬ (2 ≤ f ∧ f < n ∧ rootP f n = true) from hb11)] at hq; exact hq)) (by omega) ls (lv_sub hl [2, 1, 0] rfl)
        · refine rv_if_eq (tgt := 20) hx hb dX0_rootCount_14 (by decide) (by decide) (fun _ => ?_) (fun q => absurd q (by decide))
          refine rv_iinc (k := 2) (lv' := [(2, .int (iI (f + 1))), (0, .int (iI n)), (1, .int (iI r))]) hx hb dX0_rootCount_20 hl rfl (by decide) rfl (fun ls hl => ?_)
          refine lv_goto (tgt := 4) hx hb dX0_rootCount_23 (by decide) ?_
          exact ih (f + 1) r (by omega) (by rw [show (n - f).toNat = (n - (f + 1)).toNat + 1 by omega, cntC] at hq; first | (rw [if_pos (show 2 ≤ f ∧ f < n ∧ rootP f n = true from hb11)] at hq; exact hq) | (rw [if_neg (show ¬ (2 ≤ f ∧ f < n ∧ rootP f n = true) from hb11)] at hq; exact hq)) (by omega) ls (lv_sub hl [1, 2, 0] rfl)
  exact loop4 (_ + 1) 2 0 (by omega) rfl (Nat.lt_succ_self _) ls (lv_sub hl [2, 1, 0] rfl)
end
section
/-! what the heap holds: panels, plans -/
abbrev classes : List vw_C := [(RX1, TX1, 7), (RX2, TX2, 2), (RX3, TX3, 4), (RX4, TX4, 8), (RX5, TX5, 14), (RX6, TX6, 6), (RX7, TX7, 16)]
abbrev KT (cs : Nat → ClassId) : List (ClassId × FieldType) := [(cs 0, .int), (cs 1, .char), (cs 2, .object "SoundWells$Panel"), (cs 3, .object "SoundWells$Plan")]
abbrev KA (D : va_G) (cs : Nat → ClassId) (U : State) : Prop := va_K D classes (KT cs) U
theorem KA_stb (D : va_G) (cs : Nat → ClassId) : Stb (fun U _ => KA D cs U) := ⟨fun u U H e h => va_K.moved (e ▸ Vm.Alike.refl u.vm) h, fun s U H w h => va_K.moved w.alike h⟩
def mxI (a b : Int) : Int := if a < b then b else a
def mnI (a b : Int) : Int := if b < a then b else a
section RM
variable {p : Program} {l : Launch} {e : Env} {R : Room} {s : State} {m : MethodId} {args : Array Value} {below : List Frame} {meth : Method} {c : Code} {H : Heap} {locs : List Loc} {cells slots : Nat} {Q : State → Prop}
variable {cc : ByteArray} {pc : Nat} {ls : Array Slot} {rest : List Value}
theorem rv_mmax (hx : p.tables.exec = Jvm.exec) (hb : c.code = cc) (hml : c.maxLocals = ls.size) {own : String} {index : Nat} (hown : s.vm.findClass own = some m.cls) (hlink : (Cond.methodLink own index Lib.Math.max.name).before args s = true) (hstat : (Cond.static Lib.Math.max.name).before args s = true) (hini : (Cond.initialized "java/lang/Math").before args s = true) (hcode : (Cond.code Lib.Math.max.name Lib.Math.max.code 2 (some .int)).before args s = true)
    (hframes : 1 ≤ R.frames) (hlocals : (rest.map fun v => v.category).sum + 13 ≤ R.locals) (hc : cells ≤ R.cells) (hs : slots ≤ R.slots) {x y : Int} (h : (-2147483648 ≤ x ∧ x < 2147483648) ∧ (-2147483648 ≤ y ∧ y < 2147483648)) (hdg : decode cc pc = .ok (.invokestatic index, 3))
    (kk : W p l e R s m args below meth c H locs cells slots Q (F0 m (pc + 3) ls (.int (iI (mxI x y)) :: rest))) : W p l e R s m args below meth c H locs cells slots Q (F0 m pc ls (.int (iI y) :: .int (iI x) :: rest)) :=
  va_mmax hx hb hml hown hlink hstat hini hcode hframes hlocals hc hs hdg (by
    rw [show (if iI x < iI y then iI y else iI x) = iI (mxI x y) by unfold mxI; by_cases q : x < y; rw [if_pos q, if_pos ((iI_lt h.1 h.2).mpr q)]; rw [if_neg q, if_neg (fun z => q ((iI_lt h.1 h.2).mp z))]]
    exact kk)
theorem rv_mmin (hx : p.tables.exec = Jvm.exec) (hb : c.code = cc) (hml : c.maxLocals = ls.size) {own : String} {index : Nat} (hown : s.vm.findClass own = some m.cls) (hlink : (Cond.methodLink own index Lib.Math.min.name).before args s = true) (hstat : (Cond.static Lib.Math.min.name).before args s = true) (hini : (Cond.initialized "java/lang/Math").before args s = true) (hcode : (Cond.code Lib.Math.min.name Lib.Math.min.code 2 (some .int)).before args s = true)
    (hframes : 1 ≤ R.frames) (hlocals : (rest.map fun v => v.category).sum + 13 ≤ R.locals) (hc : cells ≤ R.cells) (hs : slots ≤ R.slots) {x y : Int} (h : (-2147483648 ≤ x ∧ x < 2147483648) ∧ (-2147483648 ≤ y ∧ y < 2147483648)) (hdg : decode cc pc = .ok (.invokestatic index, 3))
    (kk : W p l e R s m args below meth c H locs cells slots Q (F0 m (pc + 3) ls (.int (iI (mnI x y)) :: rest))) : W p l e R s m args below meth c H locs cells slots Q (F0 m pc ls (.int (iI y) :: .int (iI x) :: rest)) :=
  va_mmin hx hb hml hown hlink hstat hini hcode hframes hlocals hc hs hdg (by
    rw [show (if iI y < iI x then iI y else iI x) = iI (mnI x y) by unfold mnI; by_cases q : y < x; rw [if_pos q, if_pos ((iI_lt h.2 h.1).mpr q)]; rw [if_neg q, if_neg (fun z => q ((iI_lt h.2 h.1).mp z))]]
    exact kk)
end RM
/-- PERIOD -/
def per (k n : Int) : Int := if k = 1 then n - 1 else n
/-- depth of place i of the ROW (0 to PERIOD less 1) -/
def dep (k n f : Int) (i : Nat) : Int := if k = 0 then f * (i : Int) * (i : Int) % n else if k = 1 then pwI f n (i + 1) else if sg (i : Int) n = 1 then f else 0
/-- depth of any place -/
def dpt (k n f place : Int) : Int := dep k n f (place % per k n).toNat
def fOK (k n f : Int) : Prop := (k = 0 → 1 ≤ f ∧ f < n) ∧ (k = 1 → isRt f n) ∧ (k = 2 → 1 ≤ f ∧ f ≤ 9)
/-- a panel as it may be -/
def vP (k n f o w : Int) : Prop := (0 ≤ k ∧ k ≤ 2) ∧ isPr n ∧ fOK k n f ∧ (0 ≤ o ∧ o < n) ∧ (1 ≤ w ∧ w ≤ 40)
theorem per_bd {k n : Int} (hn : isPr n) : 2 ≤ per k n ∧ per k n ≤ 31 ∧ per k n ≤ n := by
  have := isPr_bd hn
  unfold per
  split <;> omega
theorem fOK_bd {k n f : Int} (hk : 0 ≤ k ∧ k ≤ 2) (hn : isPr n) (h : fOK k n f) : 1 ≤ f ∧ f ≤ 30 := by
  have hb := isPr_bd hn
  obtain ⟨h0, h1, h2⟩ := h
  rcases (show k = 0 ∨ k = 1 ∨ k = 2 by omega) with e | e | e
  · have := h0 e; omega
  · have h3 := h1 e; unfold isRt at h3; omega
  · have := h2 e; omega
theorem dep_bd {k n f : Int} (hk : 0 ≤ k ∧ k ≤ 2) (hn : isPr n) (h : fOK k n f) (i : Nat) : 0 ≤ dep k n f i ∧ dep k n f i ≤ 30 := by
  have hb := isPr_bd hn
  have hf := fOK_bd hk hn h
  unfold dep
  split
  · have := md_bd (x := f * (i : Int) * (i : Int)) (y := n) (by omega); omega
  · split
    · have := pwI_bd (f := f) (n := n) (by omega) (i + 1); omega
    · split <;> omega
theorem dpt_bd {k n f : Int} (hk : 0 ≤ k ∧ k ≤ 2) (hn : isPr n) (h : fOK k n f) (i : Int) : 0 ≤ dpt k n f i ∧ dpt k n f i ≤ 30 := dep_bd hk hn h _
abbrev pnC (k n f o w : Int) (r : Nat) : va_E := .inr (0, [.int (iI k), .int (iI n), .int (iI f), .int (iI o), .int (iI w), .int (iI (per k n)), .ref r])
abbrev iaC (cs : Nat → ClassId) (n : Nat) (F : Nat → Int) : va_E := .inl (cs 0, n, .inl (iA F))
abbrev caC (cs : Nat → ClassId) (n : Nat) (F : Nat → Int) : va_E := .inl (cs 1, n, .inl (iA F))
abbrev raC (c : ClassId) (n : Nat) (g : Nat → Option Nat) : va_E := .inl (c, n, .inr (.inr (.inr (.inr g))))
abbrev plC (arr : Nat) (u b c : Int) : va_E := .inr (2, [.ref arr, .int (iI u), .int (iI b), .int (iI c)])
/-- a panel in the heap; none of its cells is in A -/
def PanelAt (D : va_G) (cs : Nat → ClassId) (A : Nat → Prop) (H : Heap) (a : Nat) (k n f o w : Int) : Prop :=
  vP k n f o w ∧ ∃ (r : Nat) (row : Nat → Int), va_P D classes [(a, pnC k n f o w r), (r, iaC cs 31 row)] H ∧ ¬ A a ∧ ¬ A r ∧ ∀ i : Nat, (i : Int) < n → row i = dep k n f i
theorem PanelAt.narrow {D : va_G} {cs : Nat → ClassId} {A B : Nat → Prop} {H : Heap} {a : Nat} {k n f o w : Int} (h : PanelAt D cs A H a k n f o w) (hAB : ∀ q, B q → A q) : PanelAt D cs B H a k n f o w := by
  obtain ⟨hv, r, row, h1, h2, h3, h4⟩ := h
  exact ⟨hv, r, row, h1, fun z => h2 (hAB _ z), fun z => h3 (hAB _ z), h4⟩
theorem PanelAt.any {D : va_G} {cs : Nat → ClassId} {A : Nat → Prop} {H : Heap} {a : Nat} {k n f o w : Int} (h : PanelAt D cs A H a k n f o w) : PanelAt D cs (fun _ => False) H a k n f o w := h.narrow (fun _ q => q.elim)
theorem va_P.two {D : va_G} {cl : List vw_C} {x y : Nat × va_E} {H : Heap} (h : va_P D cl [x, y] H) : va_at D cl x H ∧ va_at D cl y H := ⟨h 0 x rfl, h 1 y rfl⟩
theorem va_P.of2 {D : va_G} {cl : List vw_C} {x y : Nat × va_E} {H : Heap} (h1 : va_at D cl x H) (h2 : va_at D cl y H) : va_P D cl [x, y] H := by
  intro k q hk
  match k, hk with
  | 0, hk => cases hk; exact h1
  | 1, hk => cases hk; exact h2
  | k + 2, hk => simp at hk
theorem PanelAt.kept {D : va_G} {cs : Nat → ClassId} {A : Nat → Prop} {H H1 : Heap} {a : Nat} {k n f o w : Int} (h : PanelAt D cs A H a k n f o w) (hq : ∀ q : Nat, q < H.size → ¬ A q → H1[q]? = H[q]?) : PanelAt D cs A H1 a k n f o w := by
  obtain ⟨hv, r, row, h1, h2, h3, h4⟩ := h
  obtain ⟨g1, g2⟩ := h1.two
  exact ⟨hv, r, row, va_P.of2 (g1.kept (hq _ g1.lt h2)) (g2.kept (hq _ g2.lt h3)), h2, h3, h4⟩
theorem PanelAt.recv {D : va_G} {cs : Nat → ClassId} {A : Nat → Prop} {H : Heap} {a : Nat} {k n f o w : Int} {s : State} (hK : KA D cs s) (h : PanelAt D cs A H a k n f o w) : ∃ cell : Cell, H[a]? = some cell ∧ cell.vm.isStatics = false ∧ s.vm.findClass RX1 = some cell.cls := by
  obtain ⟨hv, r, row, h1, h2, h3, h4⟩ := h
  exact va_recv hK h1 (ci := 0) (q0 := 0) rfl rfl
/-- a state that is laid: 24 numbers, five of each panel, then how many, unit, board, cut -/
def vL (v : Nat → Int) : Prop := (0 ≤ v 20 ∧ v 20 ≤ 4) ∧ (1 ≤ v 21 ∧ v 21 ≤ 20) ∧ (20 ≤ v 22 ∧ v 22 ≤ 400) ∧ (0 ≤ v 23 ∧ v 23 ≤ 5) ∧ ∀ q : Nat, (q : Int) < v 20 → vP (v (5 * q)) (v (5 * q + 1)) (v (5 * q + 2)) (v (5 * q + 3)) (v (5 * q + 4))
/-- a plan in the heap -/
def PlanAt (D : va_G) (cs : Nat → ClassId) (A : Nat → Prop) (H : Heap) (a : Nat) (v : Nat → Int) : Prop :=
  vL v ∧ ∃ (arr : Nat) (g : Nat → Option Nat), va_P D classes [(a, plC arr (v 21) (v 22) (v 23)), (arr, raC (cs 2) (v 20).toNat g)] H ∧ ¬ A a ∧ ¬ A arr ∧ ∀ q : Nat, (q : Int) < v 20 → ∃ y : Nat, g q = some y ∧ PanelAt D cs A H y (v (5 * q)) (v (5 * q + 1)) (v (5 * q + 2)) (v (5 * q + 3)) (v (5 * q + 4))
theorem PlanAt.narrow {D : va_G} {cs : Nat → ClassId} {A B : Nat → Prop} {H : Heap} {a : Nat} {v : Nat → Int} (h : PlanAt D cs A H a v) (hAB : ∀ q, B q → A q) : PlanAt D cs B H a v := by
  obtain ⟨hv, arr, g, h1, h2, h3, h4⟩ := h
  exact ⟨hv, arr, g, h1, fun z => h2 (hAB _ z), fun z => h3 (hAB _ z), fun q hq => by obtain ⟨y, e, hy⟩ := h4 q hq; exact ⟨y, e, hy.narrow hAB⟩⟩
theorem PlanAt.any {D : va_G} {cs : Nat → ClassId} {A : Nat → Prop} {H : Heap} {a : Nat} {v : Nat → Int} (h : PlanAt D cs A H a v) : PlanAt D cs (fun _ => False) H a v := h.narrow (fun _ q => q.elim)
theorem PlanAt.kept {D : va_G} {cs : Nat → ClassId} {A : Nat → Prop} {H H1 : Heap} {a : Nat} {v : Nat → Int} (h : PlanAt D cs A H a v) (hq : ∀ q : Nat, q < H.size → ¬ A q → H1[q]? = H[q]?) : PlanAt D cs A H1 a v := by
  obtain ⟨hv, arr, g, h1, h2, h3, h4⟩ := h
  obtain ⟨g1, g2⟩ := h1.two
  exact ⟨hv, arr, g, va_P.of2 (g1.kept (hq _ g1.lt h2)) (g2.kept (hq _ g2.lt h3)), h2, h3, fun q hq1 => by obtain ⟨y, e, hy⟩ := h4 q hq1; exact ⟨y, e, hy.kept hq⟩⟩
theorem PlanAt.recv {D : va_G} {cs : Nat → ClassId} {A : Nat → Prop} {H : Heap} {a : Nat} {v : Nat → Int} {s : State} (hK : KA D cs s) (h : PlanAt D cs A H a v) : ∃ cell : Cell, H[a]? = some cell ∧ cell.vm.isStatics = false ∧ s.vm.findClass RX3 = some cell.cls := by
  obtain ⟨hv, arr, g, h1, h2, h3, h4⟩ := h
  exact va_recv hK h1 (ci := 2) (q0 := 0) rfl rfl
/-! folds over the wells and the places of a panel -/
def mxW (k n f o : Int) : Nat → Int
  | 0 => 0
  | i + 1 => mxI (mxW k n f o i) (dpt k n f ((i : Int) + o))
def smW (k n f o : Int) : Nat → Int
  | 0 => 0
  | i + 1 => smW k n f o i + dpt k n f ((i : Int) + o)
def bsW (k n f o : Int) : Nat → Int
  | 0 => 0
  | i + 1 => orI (bsW k n f o i) (shlI 1 (dpt k n f ((i : Int) + o)))
def mirP (k n f o w : Int) : Prop := ∀ i : Nat, (i : Int) < w → dpt k n f ((i : Int) + o) = dpt k n f (w - 1 - (i : Int) + o)
def cnC (k n f sh d : Int) : Nat → Int
  | 0 => 0
  | i + 1 => cnC k n f sh d i + (if (dpt k n f ((i : Int) + sh) - dpt k n f (i : Int)) % n = d then 1 else 0)
def plD (k n f x y : Int) : Int := (dpt k n f x + dpt k n f y) % n
def ppI (k n f d x : Int) : Nat → Int
  | 0 => 0
  | y + 1 => ppI k n f d x y + (if plD k n f x (y : Int) = d then 1 else 0)
def ppO (k n f d : Int) (N : Nat) : Nat → Int
  | 0 => 0
  | x + 1 => ppO k n f d N x + ppI k n f d (x : Int) N
theorem mxW_bd {k n f o : Int} (hk : 0 ≤ k ∧ k ≤ 2) (hn : isPr n) (h : fOK k n f) (i : Nat) : 0 ≤ mxW k n f o i ∧ mxW k n f o i ≤ 30 := by
  induction i with
  | zero => exact ⟨by simp [mxW], by simp [mxW]⟩
  | succ i ih =>
    have := dpt_bd hk hn h ((i : Int) + o)
    simp only [mxW, mxI]
    split <;> omega
theorem smW_bd {k n f o : Int} (hk : 0 ≤ k ∧ k ≤ 2) (hn : isPr n) (h : fOK k n f) (i : Nat) : 0 ≤ smW k n f o i ∧ smW k n f o i ≤ 30 * (i : Int) := by
  induction i with
  | zero => exact ⟨by simp [smW], by simp [smW]⟩
  | succ i ih =>
    have := dpt_bd hk hn h ((i : Int) + o)
    simp only [smW]
    omega
theorem bsW_bd (k n f o : Int) (i : Nat) : -2147483648 ≤ bsW k n f o i ∧ bsW k n f o i < 2147483648 := by
  cases i with
  | zero => exact (show (-2147483648 : Int) ≤ 0 ∧ (0 : Int) < 2147483648 by decide)
  | succ k => exact orI_bd _ _
theorem cnC_bd (k n f sh d : Int) (i : Nat) : 0 ≤ cnC k n f sh d i ∧ cnC k n f sh d i ≤ (i : Int) := by
  induction i with
  | zero => exact ⟨by simp [cnC], by simp [cnC]⟩
  | succ i ih =>
    simp only [cnC]
    split <;> omega
theorem ppI_bd (k n f d x : Int) (i : Nat) : 0 ≤ ppI k n f d x i ∧ ppI k n f d x i ≤ (i : Int) := by
  induction i with
  | zero => exact ⟨by simp [ppI], by simp [ppI]⟩
  | succ i ih =>
    simp only [ppI]
    split <;> omega
theorem ppO_bd (k n f d : Int) (N i : Nat) (hN : N ≤ 31) : 0 ≤ ppO k n f d N i ∧ ppO k n f d N i ≤ 31 * (i : Int) := by
  induction i with
  | zero => exact ⟨by simp [ppO], by simp [ppO]⟩
  | succ i ih =>
    have := ppI_bd k n f d (i : Int) N
    simp only [ppO]
    omega
end
section
/-! Panel: what it is asked -/
theorem preV_pan {D : va_G} {cs : Nat → ClassId} {A : Nat → Prop} {s : State} {H : Heap} {a : Nat} {k n f o w : Int} {vs : List Value} (hK : KA D cs s) (h : PanelAt D cs A H a k n f o w) : PreV s H "SoundWells$Panel" a (va_Pc (.ref a :: vs) (fun U => KA D cs U ∧ PanelAt D cs (fun _ => False) U.heap a k n f o w)) vs := preV_of (Bf := fun U H => KA D cs U ∧ PanelAt D cs (fun _ => False) H a k n f o w) (Stb_and (KA_stb D cs) Stb_H) (h.recv hK) ⟨hK, h.any⟩

abbrev rm_X1_factorFits : Room := { frames := 1, cells := 0, slots := 0, locals := 24 }
set_option maxHeartbeats 4000000 in
set_option maxRecDepth 100000 in
/-- factorFits -/
theorem c_X1_factorFits (l : Launch) (k : Int) (n : Int) (f : Int) (hk : 0 ≤ k ∧ k ≤ 2) (hn : isPr n) (hf : -2147483648 ≤ f ∧ f < 2147483648) : Met l yX1_factorFits (Cond.code yX1_factorFits cX1_factorFits 3 (some .boolean) :: TB) rm_X1_factorFits (va_Pc [.int (iI k), .int (iI n), .int (iI f)] (fun _ => True)) (vp_Si (fun r => (r = iI 1 ∧ (fOK k n f)) ∨ (r = iI 0 ∧ ¬ (fOK k n f)))) 0 0 (fun _ => False) := by
  refine enter (cc := cX1_factorFits) (maxL := 3) (ret := (some .boolean)) (by decide) (Nat.le_of_ble_eq_true rfl) ?_
  intro p e s m below meth c Q ls hx hb hml hown hts hr hlocks hnm _ hl hQ
  have ht : ∀ w ∈ TB, w.before _ s = true := fun w h => hts w (List.mem_cons_of_mem _ h)
  have hl : lv_has ls 3 [(0, .int (iI k)), (1, .int (iI n)), (2, .int (iI f))] := hl
  have hnb := isPr_bd hn
  refine lv_iload_n hx hb dX1_factorFits_0 rfl (lv_at hl 0 rfl) ?_
  refine rv_if_ne (tgt := 20) hx hb dX1_factorFits_1 (by decide) (by omega) (fun h1 => ?_) (fun h1 => ?_)
  · refine lv_iload_n hx hb dX1_factorFits_20 rfl (lv_at hl 0 rfl) ?_
    refine rv_iconst hx hb dX1_factorFits_21 ?_
    refine rv_icmp_ne (tgt := 31) hx hb dX1_factorFits_22 (by decide) (by omega) (fun h22 => ?_) (fun h22 => ?_)
    · refine lv_iload_n hx hb dX1_factorFits_31 rfl (lv_at hl 2 rfl) ?_
      refine rv_iconst hx hb dX1_factorFits_32 ?_
      refine rv_icmp_lt (tgt := 46) hx hb dX1_factorFits_33 (by decide) (by omega) (fun h33 => ?_) (fun h33 => ?_)
      · refine rv_iconst hx hb dX1_factorFits_46 ?_
        subst hQ
        exact W.zret (ty := .boolean) hx hb hr (by decide) (fun t9 ht9 hW9 => ⟨_, rfl, Or.inr ⟨rfl, fun q => by have := q.2.2 (by omega); omega⟩, ht9⟩) (fun _ h => absurd h List.not_mem_nil) dX1_factorFits_47
      · refine lv_iload_n hx hb dX1_factorFits_36 rfl (lv_at hl 2 rfl) ?_
        refine rv_bipush hx hb dX1_factorFits_37 (by decide) ?_
        refine rv_icmp_gt (tgt := 46) hx hb dX1_factorFits_39 (by decide) (by omega) (fun h39 => ?_) (fun h39 => ?_)
        · refine rv_iconst hx hb dX1_factorFits_46 ?_
          subst hQ
          exact W.zret (ty := .boolean) hx hb hr (by decide) (fun t9 ht9 hW9 => ⟨_, rfl, Or.inr ⟨rfl, fun q => by have := q.2.2 (by omega); omega⟩, ht9⟩) (fun _ h => absurd h List.not_mem_nil) dX1_factorFits_47
        · refine rv_iconst hx hb dX1_factorFits_42 ?_
          refine lv_goto (tgt := 47) hx hb dX1_factorFits_43 (by decide) ?_
          subst hQ
          exact W.zret (ty := .boolean) hx hb hr (by decide) (fun t9 ht9 hW9 => ⟨_, rfl, Or.inl ⟨rfl, fun q => by omega, fun q => by omega, fun _ => by omega⟩, ht9⟩) (fun _ h => absurd h List.not_mem_nil) dX1_factorFits_47
    · refine lv_iload_n hx hb dX1_factorFits_25 rfl (lv_at hl 2 rfl) ?_
      refine lv_iload_n hx hb dX1_factorFits_26 rfl (lv_at hl 1 rfl) ?_
      refine vp_callSi (W.runS (As := [.int (iI f), .int (iI n)]) (rest := []) ⟨hx, hb, hml, hown, hts⟩ (c_X0_isRoot l f n (by omega) hn) (va_cwS 2 hts (gS tb_280 tb_281 tb_6 tb_282) rfl rfl rfl (by decide +kernel) ⟨Nat.le_of_ble_eq_true rfl, Nat.le_of_ble_eq_true rfl⟩) preS0 rfl rfl hl.1 rfl (lv_room (Nat.le_of_ble_eq_true rfl)) dX1_factorFits_27 ⟨Nat.le_of_ble_eq_true rfl, Nat.le_of_ble_eq_true rfl⟩) (fun r9 hr9 => ?_)
      rcases hr9 with ⟨rfl, hb27⟩ | ⟨rfl, hb27⟩
      · subst hQ
        exact W.zret (ty := .boolean) hx hb hr (by decide) (fun t9 ht9 hW9 => ⟨_, rfl, Or.inl ⟨rfl, fun q => by omega, fun _ => hb27, fun q => by omega⟩, ht9⟩) (fun _ h => absurd h List.not_mem_nil) dX1_factorFits_30
      · subst hQ
        exact W.zret (ty := .boolean) hx hb hr (by decide) (fun t9 ht9 hW9 => ⟨_, rfl, Or.inr ⟨rfl, fun q => hb27 (q.2.1 (by omega))⟩, ht9⟩) (fun _ h => absurd h List.not_mem_nil) dX1_factorFits_30
  · refine lv_iload_n hx hb dX1_factorFits_4 rfl (lv_at hl 2 rfl) ?_
    refine rv_iconst hx hb dX1_factorFits_5 ?_
    refine rv_icmp_lt (tgt := 18) hx hb dX1_factorFits_6 (by decide) (by omega) (fun h6 => ?_) (fun h6 => ?_)
    · refine rv_iconst hx hb dX1_factorFits_18 ?_
      subst hQ
      exact W.zret (ty := .boolean) hx hb hr (by decide) (fun t9 ht9 hW9 => ⟨_, rfl, Or.inr ⟨rfl, fun q => by have := q.1 (by omega); omega⟩, ht9⟩) (fun _ h => absurd h List.not_mem_nil) dX1_factorFits_19
    · refine lv_iload_n hx hb dX1_factorFits_9 rfl (lv_at hl 2 rfl) ?_
      refine lv_iload_n hx hb dX1_factorFits_10 rfl (lv_at hl 1 rfl) ?_
      refine rv_icmp_ge (tgt := 18) hx hb dX1_factorFits_11 (by decide) (by omega) (fun h11 => ?_) (fun h11 => ?_)
      · refine rv_iconst hx hb dX1_factorFits_18 ?_
        subst hQ
        exact W.zret (ty := .boolean) hx hb hr (by decide) (fun t9 ht9 hW9 => ⟨_, rfl, Or.inr ⟨rfl, fun q => by have := q.1 (by omega); omega⟩, ht9⟩) (fun _ h => absurd h List.not_mem_nil) dX1_factorFits_19
      · refine rv_iconst hx hb dX1_factorFits_14 ?_
        refine lv_goto (tgt := 19) hx hb dX1_factorFits_15 (by decide) ?_
        subst hQ
        exact W.zret (ty := .boolean) hx hb hr (by decide) (fun t9 ht9 hW9 => ⟨_, rfl, Or.inl ⟨rfl, fun _ => by omega, fun q => by omega, fun q => by omega⟩, ht9⟩) (fun _ h => absurd h List.not_mem_nil) dX1_factorFits_19

abbrev rm_X1_offsetFits : Room := { frames := 0, cells := 0, slots := 0, locals := 0 }
set_option maxHeartbeats 4000000 in
set_option maxRecDepth 100000 in
/-- offsetFits -/
theorem c_X1_offsetFits (l : Launch) (n : Int) (o : Int) (hn : -2147483648 ≤ n ∧ n < 2147483648) (ho : -2147483648 ≤ o ∧ o < 2147483648) : Met l yX1_offsetFits (Cond.code yX1_offsetFits cX1_offsetFits 2 (some .boolean) :: TB) rm_X1_offsetFits (va_Pc [.int (iI n), .int (iI o)] (fun _ => True)) (vp_Si (fun r => (r = iI 1 ∧ (0 ≤ o ∧ o < n)) ∨ (r = iI 0 ∧ ¬ (0 ≤ o ∧ o < n)))) 0 0 (fun _ => False) := by
  refine enter (cc := cX1_offsetFits) (maxL := 2) (ret := (some .boolean)) (by decide) (Nat.le_of_ble_eq_true rfl) ?_
  intro p e s m below meth c Q ls hx hb hml hown hts hr hlocks hnm _ hl hQ
  have ht : ∀ w ∈ TB, w.before _ s = true := fun w h => hts w (List.mem_cons_of_mem _ h)
  have hl : lv_has ls 2 [(0, .int (iI n)), (1, .int (iI o))] := hl
  refine lv_iload_n hx hb dX1_offsetFits_0 rfl (lv_at hl 1 rfl) ?_
  refine rv_if_lt (tgt := 13) hx hb dX1_offsetFits_1 (by decide) (by omega) (fun h1 => ?_) (fun h1 => ?_)
  · refine rv_iconst hx hb dX1_offsetFits_13 ?_
    subst hQ
    exact W.zret (ty := .boolean) hx hb hr (by decide) (fun t9 ht9 hW9 => ⟨_, rfl, Or.inr ⟨rfl, fun q => by omega⟩, ht9⟩) (fun _ h => absurd h List.not_mem_nil) dX1_offsetFits_14
  · refine lv_iload_n hx hb dX1_offsetFits_4 rfl (lv_at hl 1 rfl) ?_
    refine lv_iload_n hx hb dX1_offsetFits_5 rfl (lv_at hl 0 rfl) ?_
    refine rv_icmp_ge (tgt := 13) hx hb dX1_offsetFits_6 (by decide) (by omega) (fun h6 => ?_) (fun h6 => ?_)
    · refine rv_iconst hx hb dX1_offsetFits_13 ?_
      subst hQ
      exact W.zret (ty := .boolean) hx hb hr (by decide) (fun t9 ht9 hW9 => ⟨_, rfl, Or.inr ⟨rfl, fun q => by omega⟩, ht9⟩) (fun _ h => absurd h List.not_mem_nil) dX1_offsetFits_14
    · refine rv_iconst hx hb dX1_offsetFits_9 ?_
      refine lv_goto (tgt := 14) hx hb dX1_offsetFits_10 (by decide) ?_
      subst hQ
      exact W.zret (ty := .boolean) hx hb hr (by decide) (fun t9 ht9 hW9 => ⟨_, rfl, Or.inl ⟨rfl, by omega⟩, ht9⟩) (fun _ h => absurd h List.not_mem_nil) dX1_offsetFits_14

abbrev rm_X1_wellsFit : Room := { frames := 0, cells := 0, slots := 0, locals := 0 }
set_option maxHeartbeats 4000000 in
set_option maxRecDepth 100000 in
/-- wellsFit -/
theorem c_X1_wellsFit (l : Launch) (w : Int) (hw : -2147483648 ≤ w ∧ w < 2147483648) : Met l yX1_wellsFit (Cond.code yX1_wellsFit cX1_wellsFit 1 (some .boolean) :: TB) rm_X1_wellsFit (va_Pc [.int (iI w)] (fun _ => True)) (vp_Si (fun r => (r = iI 1 ∧ (1 ≤ w ∧ w ≤ 40)) ∨ (r = iI 0 ∧ ¬ (1 ≤ w ∧ w ≤ 40)))) 0 0 (fun _ => False) := by
  refine enter (cc := cX1_wellsFit) (maxL := 1) (ret := (some .boolean)) (by decide) (Nat.le_of_ble_eq_true rfl) ?_
  intro p e s m below meth c Q ls hx hb hml hown hts hr hlocks hnm _ hl hQ
  have ht : ∀ w ∈ TB, w.before _ s = true := fun w h => hts w (List.mem_cons_of_mem _ h)
  have hl : lv_has ls 1 [(0, .int (iI w))] := hl
  refine lv_iload_n hx hb dX1_wellsFit_0 rfl (lv_at hl 0 rfl) ?_
  refine rv_iconst hx hb dX1_wellsFit_1 ?_
  refine rv_icmp_lt (tgt := 15) hx hb dX1_wellsFit_2 (by decide) (by omega) (fun h2 => ?_) (fun h2 => ?_)
  · refine rv_iconst hx hb dX1_wellsFit_15 ?_
    subst hQ
    exact W.zret (ty := .boolean) hx hb hr (by decide) (fun t9 ht9 hW9 => ⟨_, rfl, Or.inr ⟨rfl, fun q => by omega⟩, ht9⟩) (fun _ h => absurd h List.not_mem_nil) dX1_wellsFit_16
  · refine lv_iload_n hx hb dX1_wellsFit_5 rfl (lv_at hl 0 rfl) ?_
    refine rv_bipush hx hb dX1_wellsFit_6 (by decide) ?_
    refine rv_icmp_gt (tgt := 15) hx hb dX1_wellsFit_8 (by decide) (by omega) (fun h8 => ?_) (fun h8 => ?_)
    · refine rv_iconst hx hb dX1_wellsFit_15 ?_
      subst hQ
      exact W.zret (ty := .boolean) hx hb hr (by decide) (fun t9 ht9 hW9 => ⟨_, rfl, Or.inr ⟨rfl, fun q => by omega⟩, ht9⟩) (fun _ h => absurd h List.not_mem_nil) dX1_wellsFit_16
    · refine rv_iconst hx hb dX1_wellsFit_11 ?_
      refine lv_goto (tgt := 16) hx hb dX1_wellsFit_12 (by decide) ?_
      subst hQ
      exact W.zret (ty := .boolean) hx hb hr (by decide) (fun t9 ht9 hW9 => ⟨_, rfl, Or.inl ⟨rfl, by omega⟩, ht9⟩) (fun _ h => absurd h List.not_mem_nil) dX1_wellsFit_16

abbrev rm_X1_allows : Room := { frames := 2, cells := 0, slots := 0, locals := 46 }
set_option maxHeartbeats 4000000 in
set_option maxRecDepth 100000 in
/-- allows -/
theorem c_X1_allows (l : Launch) (D : va_G) (cs : Nat → ClassId) (a : Nat) (k : Int) (n : Int) (f : Int) (o : Int) (w : Int) (what : Int) (v : Int) (hw : -2147483648 ≤ what ∧ what < 2147483648) (hv0 : -2147483648 ≤ v ∧ v < 2147483648) : Met l yX1_allows (Cond.code yX1_allows cX1_allows 3 (some .boolean) :: TB) rm_X1_allows (va_Pc [.ref a, .int (iI what), .int (iI v)] (fun U => KA D cs U ∧ PanelAt D cs (fun _ => False) U.heap a k n f o w)) (vp_Si (fun r => (r = iI 1 ∧ ((what = 0 ∧ fOK k n v) ∨ (what = 1 ∧ 0 ≤ v ∧ v < n) ∨ (what = 2 ∧ 1 ≤ v ∧ v ≤ 40))) ∨ (r = iI 0 ∧ ¬ ((what = 0 ∧ fOK k n v) ∨ (what = 1 ∧ 0 ≤ v ∧ v < n) ∨ (what = 2 ∧ 1 ≤ v ∧ v ≤ 40))))) 0 0 (fun _ => False) := by
  refine enter (cc := cX1_allows) (maxL := 3) (ret := (some .boolean)) (by decide) (Nat.le_of_ble_eq_true rfl) ?_
  intro p e s m below meth c Q ls hx hb hml hown hts hr hlocks hnm ⟨hK, hpan⟩ hl hQ
  have ht : ∀ w ∈ TB, w.before _ s = true := fun w h => hts w (List.mem_cons_of_mem _ h)
  have hl : lv_has ls 3 [(0, .ref a), (1, .int (iI what)), (2, .int (iI v))] := hl
  obtain ⟨hv, r, row, hPn, -, -, hrow⟩ := id hpan
  obtain ⟨hvk, hvn, hvf, hvo, hvw⟩ := hv
  have hnb := isPr_bd hvn
  have hpb := per_bd (k := k) hvn
  have hfb := fOK_bd hvk hvn hvf
  refine lv_iload_n hx hb dX1_allows_0 rfl (lv_at hl 1 rfl) ?_
  by_cases hc0 : what = 0
  · refine rv_top (y := 0) hc0 ?_
    refine lv_tableIn (tgt := 28) hx hb dX1_allows_1 (by decide) (by decide) rfl (by decide) ?_
    refine lv_aload_n hx hb dX1_allows_28 rfl (lv_at hl 0 rfl) ?_
    refine va_get (D := D) (ci := 0) (v := .int (iI k)) (C := RX1) (T := TX1) (N := 7) hx hb ht inTB_X1 hown hK hPn 0 rfl rfl 0 (by decide) (ht _ tb_141) (fun _ h9 => h9) rfl dX1_allows_29 ?_
    refine lv_aload_n hx hb dX1_allows_32 rfl (lv_at hl 0 rfl) ?_
    refine va_get (D := D) (ci := 0) (v := .int (iI n)) (C := RX1) (T := TX1) (N := 7) hx hb ht inTB_X1 hown hK hPn 0 rfl rfl 1 (by decide) (ht _ tb_143) (fun _ h9 => h9) rfl dX1_allows_33 ?_
    refine lv_iload_n hx hb dX1_allows_36 rfl (lv_at hl 2 rfl) ?_
    refine vp_callSi (W.runS (As := [.int (iI k), .int (iI n), .int (iI v)]) (rest := []) ⟨hx, hb, hml, hown, hts⟩ (c_X1_factorFits l k n v hvk hvn (by omega)) (va_cwS 3 hts (gS tb_322 tb_278 tb_5 tb_279) rfl rfl rfl (by decide +kernel) ⟨Nat.le_of_ble_eq_true rfl, Nat.le_of_ble_eq_true rfl⟩) preS0 rfl rfl hl.1 rfl (lv_room (Nat.le_of_ble_eq_true rfl)) dX1_allows_37 ⟨Nat.le_of_ble_eq_true rfl, Nat.le_of_ble_eq_true rfl⟩) (fun r9 hr9 => ?_)
    rcases hr9 with ⟨rfl, hb37⟩ | ⟨rfl, hb37⟩
    · subst hQ
      exact W.zret (ty := .boolean) hx hb hr (by decide) (fun t9 ht9 hW9 => ⟨_, rfl, Or.inl ⟨rfl, Or.inl ⟨hc0, hb37⟩⟩, ht9⟩) (fun _ h => absurd h List.not_mem_nil) dX1_allows_40
    · subst hQ
      exact W.zret (ty := .boolean) hx hb hr (by decide) (fun t9 ht9 hW9 => ⟨_, rfl, Or.inr ⟨rfl, fun q => by rcases q with q | q | q; exact hb37 q.2; omega; omega⟩, ht9⟩) (fun _ h => absurd h List.not_mem_nil) dX1_allows_40
  by_cases hc1 : what = 1
  · refine rv_top (y := 1) hc1 ?_
    refine lv_tableIn (tgt := 41) hx hb dX1_allows_1 (by decide) (by decide) rfl (by decide) ?_
    refine lv_aload_n hx hb dX1_allows_41 rfl (lv_at hl 0 rfl) ?_
    refine va_get (D := D) (ci := 0) (v := .int (iI n)) (C := RX1) (T := TX1) (N := 7) hx hb ht inTB_X1 hown hK hPn 0 rfl rfl 1 (by decide) (ht _ tb_143) (fun _ h9 => h9) rfl dX1_allows_42 ?_
    refine lv_iload_n hx hb dX1_allows_45 rfl (lv_at hl 2 rfl) ?_
    refine vp_callSi (W.runS (As := [.int (iI n), .int (iI v)]) (rest := []) ⟨hx, hb, hml, hown, hts⟩ (c_X1_offsetFits l n v (by omega) (by omega)) (va_cwS 2 hts (gS tb_323 tb_284 tb_5 tb_285) rfl rfl rfl (by decide +kernel) ⟨Nat.le_of_ble_eq_true rfl, Nat.le_of_ble_eq_true rfl⟩) preS0 rfl rfl hl.1 rfl (lv_room (Nat.le_of_ble_eq_true rfl)) dX1_allows_46 ⟨Nat.le_of_ble_eq_true rfl, Nat.le_of_ble_eq_true rfl⟩) (fun r9 hr9 => ?_)
    rcases hr9 with ⟨rfl, hb46⟩ | ⟨rfl, hb46⟩
    · subst hQ
      exact W.zret (ty := .boolean) hx hb hr (by decide) (fun t9 ht9 hW9 => ⟨_, rfl, Or.inl ⟨rfl, Or.inr (Or.inl ⟨hc1, hb46⟩)⟩, ht9⟩) (fun _ h => absurd h List.not_mem_nil) dX1_allows_49
    · subst hQ
      exact W.zret (ty := .boolean) hx hb hr (by decide) (fun t9 ht9 hW9 => ⟨_, rfl, Or.inr ⟨rfl, fun q => by rcases q with q | q | q; exact hc0 q.1; exact hb46 q.2; omega⟩, ht9⟩) (fun _ h => absurd h List.not_mem_nil) dX1_allows_49
  by_cases hc2 : what = 2
  · refine rv_top (y := 2) hc2 ?_
    refine lv_tableIn (tgt := 50) hx hb dX1_allows_1 (by decide) (by decide) rfl (by decide) ?_
    refine lv_iload_n hx hb dX1_allows_50 rfl (lv_at hl 2 rfl) ?_
    refine vp_callSi (W.runS (As := [.int (iI v)]) (rest := []) ⟨hx, hb, hml, hown, hts⟩ (c_X1_wellsFit l v (by omega)) (va_cwS 1 hts (gS tb_324 tb_287 tb_5 tb_288) rfl rfl rfl (by decide +kernel) ⟨Nat.le_of_ble_eq_true rfl, Nat.le_of_ble_eq_true rfl⟩) preS0 rfl rfl hl.1 rfl (lv_room (Nat.le_of_ble_eq_true rfl)) dX1_allows_51 ⟨Nat.le_of_ble_eq_true rfl, Nat.le_of_ble_eq_true rfl⟩) (fun r9 hr9 => ?_)
    rcases hr9 with ⟨rfl, hb51⟩ | ⟨rfl, hb51⟩
    · subst hQ
      exact W.zret (ty := .boolean) hx hb hr (by decide) (fun t9 ht9 hW9 => ⟨_, rfl, Or.inl ⟨rfl, Or.inr (Or.inr ⟨hc2, hb51⟩)⟩, ht9⟩) (fun _ h => absurd h List.not_mem_nil) dX1_allows_54
    · subst hQ
      exact W.zret (ty := .boolean) hx hb hr (by decide) (fun t9 ht9 hW9 => ⟨_, rfl, Or.inr ⟨rfl, fun q => by rcases q with q | q | q; exact hc0 q.1; exact hc1 q.1; exact hb51 q.2⟩, ht9⟩) (fun _ h => absurd h List.not_mem_nil) dX1_allows_54
  refine lv_tableOut (tgt := 55) hx hb dX1_allows_1 (by rw [iI_toInt (by omega)]; omega) (by decide) ?_
  refine rv_iconst hx hb dX1_allows_55 ?_
  subst hQ
  exact W.zret (ty := .boolean) hx hb hr (by decide) (fun t9 ht9 hW9 => ⟨_, rfl, Or.inr ⟨rfl, fun q => by rcases q with q | q | q; exact hc0 q.1; exact hc1 q.1; exact hc2 q.1⟩, ht9⟩) (fun _ h => absurd h List.not_mem_nil) dX1_allows_56

abbrev rm_X1_measure : Room := { frames := 0, cells := 0, slots := 0, locals := 0 }
set_option maxHeartbeats 4000000 in
set_option maxRecDepth 100000 in
/-- measure -/
theorem c_X1_measure (l : Launch) (D : va_G) (cs : Nat → ClassId) (a : Nat) (k : Int) (n : Int) (f : Int) (o : Int) (w : Int) (what : Int) (hw : 0 ≤ what ∧ what ≤ 2) : Met l yX1_measure (Cond.code yX1_measure cX1_measure 2 (some .int) :: TB) rm_X1_measure (va_Pc [.ref a, .int (iI what)] (fun U => KA D cs U ∧ PanelAt D cs (fun _ => False) U.heap a k n f o w)) (vp_Si (fun r => r = iI (if what = 0 then f else if what = 1 then o else w))) 0 0 (fun _ => False) := by
  refine enter (cc := cX1_measure) (maxL := 2) (ret := (some .int)) (by decide) (Nat.le_of_ble_eq_true rfl) ?_
  intro p e s m below meth c Q ls hx hb hml hown hts hr hlocks hnm ⟨hK, hpan⟩ hl hQ
  have ht : ∀ w ∈ TB, w.before _ s = true := fun w h => hts w (List.mem_cons_of_mem _ h)
  have hl : lv_has ls 2 [(0, .ref a), (1, .int (iI what))] := hl
  obtain ⟨hv, r, row, hPn, -, -, hrow⟩ := id hpan
  obtain ⟨hvk, hvn, hvf, hvo, hvw⟩ := hv
  have hnb := isPr_bd hvn
  have hpb := per_bd (k := k) hvn
  have hfb := fOK_bd hvk hvn hvf
  refine lv_iload_n hx hb dX1_measure_0 rfl (lv_at hl 1 rfl) ?_
  by_cases hc0 : what = 0
  · refine rv_top (y := 0) hc0 ?_
    refine lv_lookup (tgt := 28) hx hb dX1_measure_1 (by decide) rfl (by decide) ?_
    refine lv_aload_n hx hb dX1_measure_28 rfl (lv_at hl 0 rfl) ?_
    refine va_get (D := D) (ci := 0) (v := .int (iI f)) (C := RX1) (T := TX1) (N := 7) hx hb ht inTB_X1 hown hK hPn 0 rfl rfl 2 (by decide) (ht _ tb_145) (fun _ h9 => h9) rfl dX1_measure_29 ?_
    subst hQ
    exact W.iret hx hb hr (fun t9 ht9 hW9 => ⟨_, rfl, by rw [if_pos hc0], ht9⟩) (fun _ h => absurd h List.not_mem_nil) dX1_measure_32
  by_cases hc1 : what = 1
  · refine rv_top (y := 1) hc1 ?_
    refine lv_lookup (tgt := 33) hx hb dX1_measure_1 (by decide) rfl (by decide) ?_
    refine lv_aload_n hx hb dX1_measure_33 rfl (lv_at hl 0 rfl) ?_
    refine va_get (D := D) (ci := 0) (v := .int (iI o)) (C := RX1) (T := TX1) (N := 7) hx hb ht inTB_X1 hown hK hPn 0 rfl rfl 3 (by decide) (ht _ tb_147) (fun _ h9 => h9) rfl dX1_measure_34 ?_
    subst hQ
    exact W.iret hx hb hr (fun t9 ht9 hW9 => ⟨_, rfl, by rw [if_neg hc0, if_pos hc1], ht9⟩) (fun _ h => absurd h List.not_mem_nil) dX1_measure_37
  refine lv_lookup (tgt := 38) (off := 37) hx hb dX1_measure_1 (by decide) (by rw [iI_toInt (by omega)]; show Op.lookupswitch.offset [(0, 27), (1, 32)] 37 _ = 37; rw [Op.lookupswitch.offset_cons, if_neg (by omega), Op.lookupswitch.offset_cons, if_neg (by omega)]; rfl) (by decide) ?_
  refine lv_aload_n hx hb dX1_measure_38 rfl (lv_at hl 0 rfl) ?_
  refine va_get (D := D) (ci := 0) (v := .int (iI w)) (C := RX1) (T := TX1) (N := 7) hx hb ht inTB_X1 hown hK hPn 0 rfl rfl 4 (by decide) (ht _ tb_150) (fun _ h9 => h9) rfl dX1_measure_39 ?_
  subst hQ
  exact W.iret hx hb hr (fun t9 ht9 hW9 => ⟨_, rfl, by rw [if_neg hc0, if_neg hc1], ht9⟩) (fun _ h => absurd h List.not_mem_nil) dX1_measure_42

abbrev rm_X1_hasWell : Room := { frames := 0, cells := 0, slots := 0, locals := 0 }
set_option maxHeartbeats 4000000 in
set_option maxRecDepth 100000 in
/-- hasWell -/
theorem c_X1_hasWell (l : Launch) (D : va_G) (cs : Nat → ClassId) (a : Nat) (k : Int) (n : Int) (f : Int) (o : Int) (w : Int) (i : Int) (hi : -2147483648 ≤ i ∧ i < 2147483648) : Met l yX1_hasWell (Cond.code yX1_hasWell cX1_hasWell 2 (some .boolean) :: TB) rm_X1_hasWell (va_Pc [.ref a, .int (iI i)] (fun U => KA D cs U ∧ PanelAt D cs (fun _ => False) U.heap a k n f o w)) (vp_Si (fun r => (r = iI 1 ∧ (0 ≤ i ∧ i < w)) ∨ (r = iI 0 ∧ ¬ (0 ≤ i ∧ i < w)))) 0 0 (fun _ => False) := by
  refine enter (cc := cX1_hasWell) (maxL := 2) (ret := (some .boolean)) (by decide) (Nat.le_of_ble_eq_true rfl) ?_
  intro p e s m below meth c Q ls hx hb hml hown hts hr hlocks hnm ⟨hK, hpan⟩ hl hQ
  have ht : ∀ w ∈ TB, w.before _ s = true := fun w h => hts w (List.mem_cons_of_mem _ h)
  have hl : lv_has ls 2 [(0, .ref a), (1, .int (iI i))] := hl
  obtain ⟨hv, r, row, hPn, -, -, hrow⟩ := id hpan
  obtain ⟨hvk, hvn, hvf, hvo, hvw⟩ := hv
  have hnb := isPr_bd hvn
  have hpb := per_bd (k := k) hvn
  have hfb := fOK_bd hvk hvn hvf
  refine lv_iload_n hx hb dX1_hasWell_0 rfl (lv_at hl 1 rfl) ?_
  refine rv_if_lt (tgt := 16) hx hb dX1_hasWell_1 (by decide) (by omega) (fun h1 => ?_) (fun h1 => ?_)
  · refine rv_iconst hx hb dX1_hasWell_16 ?_
    subst hQ
    exact W.zret (ty := .boolean) hx hb hr (by decide) (fun t9 ht9 hW9 => ⟨_, rfl, Or.inr ⟨rfl, fun q => by omega⟩, ht9⟩) (fun _ h => absurd h List.not_mem_nil) dX1_hasWell_17
  · refine lv_iload_n hx hb dX1_hasWell_4 rfl (lv_at hl 1 rfl) ?_
    refine lv_aload_n hx hb dX1_hasWell_5 rfl (lv_at hl 0 rfl) ?_
    refine va_get (D := D) (ci := 0) (v := .int (iI w)) (C := RX1) (T := TX1) (N := 7) hx hb ht inTB_X1 hown hK hPn 0 rfl rfl 4 (by decide) (ht _ tb_150) (fun _ h9 => h9) rfl dX1_hasWell_6 ?_
    refine rv_icmp_ge (tgt := 16) hx hb dX1_hasWell_9 (by decide) (by omega) (fun h9 => ?_) (fun h9 => ?_)
    · refine rv_iconst hx hb dX1_hasWell_16 ?_
      subst hQ
      exact W.zret (ty := .boolean) hx hb hr (by decide) (fun t9 ht9 hW9 => ⟨_, rfl, Or.inr ⟨rfl, fun q => by omega⟩, ht9⟩) (fun _ h => absurd h List.not_mem_nil) dX1_hasWell_17
    · refine rv_iconst hx hb dX1_hasWell_12 ?_
      refine lv_goto (tgt := 17) hx hb dX1_hasWell_13 (by decide) ?_
      subst hQ
      exact W.zret (ty := .boolean) hx hb hr (by decide) (fun t9 ht9 hW9 => ⟨_, rfl, Or.inl ⟨rfl, by omega⟩, ht9⟩) (fun _ h => absurd h List.not_mem_nil) dX1_hasWell_17

abbrev rm_X1_isRest : Room := { frames := 0, cells := 0, slots := 0, locals := 0 }
set_option maxHeartbeats 4000000 in
set_option maxRecDepth 100000 in
/-- isRest -/
theorem c_X1_isRest (l : Launch) (D : va_G) (cs : Nat → ClassId) (a : Nat) (k : Int) (n : Int) (f : Int) (o : Int) (w : Int) (i : Int) (hi : -2147483648 ≤ i ∧ i < 2147483648) : Met l yX1_isRest (Cond.code yX1_isRest cX1_isRest 2 (some .boolean) :: TB) rm_X1_isRest (va_Pc [.ref a, .int (iI i)] (fun U => KA D cs U ∧ PanelAt D cs (fun _ => False) U.heap a k n f o w)) (vp_Si (fun r => (r = iI 1 ∧ (0 ≤ i ∧ i < n)) ∨ (r = iI 0 ∧ ¬ (0 ≤ i ∧ i < n)))) 0 0 (fun _ => False) := by
  refine enter (cc := cX1_isRest) (maxL := 2) (ret := (some .boolean)) (by decide) (Nat.le_of_ble_eq_true rfl) ?_
  intro p e s m below meth c Q ls hx hb hml hown hts hr hlocks hnm ⟨hK, hpan⟩ hl hQ
  have ht : ∀ w ∈ TB, w.before _ s = true := fun w h => hts w (List.mem_cons_of_mem _ h)
  have hl : lv_has ls 2 [(0, .ref a), (1, .int (iI i))] := hl
  obtain ⟨hv, r, row, hPn, -, -, hrow⟩ := id hpan
  obtain ⟨hvk, hvn, hvf, hvo, hvw⟩ := hv
  have hnb := isPr_bd hvn
  have hpb := per_bd (k := k) hvn
  have hfb := fOK_bd hvk hvn hvf
  refine lv_iload_n hx hb dX1_isRest_0 rfl (lv_at hl 1 rfl) ?_
  refine rv_if_lt (tgt := 16) hx hb dX1_isRest_1 (by decide) (by omega) (fun h1 => ?_) (fun h1 => ?_)
  · refine rv_iconst hx hb dX1_isRest_16 ?_
    subst hQ
    exact W.zret (ty := .boolean) hx hb hr (by decide) (fun t9 ht9 hW9 => ⟨_, rfl, Or.inr ⟨rfl, fun q => by omega⟩, ht9⟩) (fun _ h => absurd h List.not_mem_nil) dX1_isRest_17
  · refine lv_iload_n hx hb dX1_isRest_4 rfl (lv_at hl 1 rfl) ?_
    refine lv_aload_n hx hb dX1_isRest_5 rfl (lv_at hl 0 rfl) ?_
    refine va_get (D := D) (ci := 0) (v := .int (iI n)) (C := RX1) (T := TX1) (N := 7) hx hb ht inTB_X1 hown hK hPn 0 rfl rfl 1 (by decide) (ht _ tb_143) (fun _ h9 => h9) rfl dX1_isRest_6 ?_
    refine rv_icmp_ge (tgt := 16) hx hb dX1_isRest_9 (by decide) (by omega) (fun h9 => ?_) (fun h9 => ?_)
    · refine rv_iconst hx hb dX1_isRest_16 ?_
      subst hQ
      exact W.zret (ty := .boolean) hx hb hr (by decide) (fun t9 ht9 hW9 => ⟨_, rfl, Or.inr ⟨rfl, fun q => by omega⟩, ht9⟩) (fun _ h => absurd h List.not_mem_nil) dX1_isRest_17
    · refine rv_iconst hx hb dX1_isRest_12 ?_
      refine lv_goto (tgt := 17) hx hb dX1_isRest_13 (by decide) ?_
      subst hQ
      exact W.zret (ty := .boolean) hx hb hr (by decide) (fun t9 ht9 hW9 => ⟨_, rfl, Or.inl ⟨rfl, by omega⟩, ht9⟩) (fun _ h => absurd h List.not_mem_nil) dX1_isRest_17

abbrev rm_X1_depthAt : Room := { frames := 1, cells := 0, slots := 0, locals := 22 }
set_option maxHeartbeats 4000000 in
set_option maxRecDepth 100000 in
/-- depthAt -/
theorem c_X1_depthAt (l : Launch) (D : va_G) (cs : Nat → ClassId) (a : Nat) (k : Int) (n : Int) (f : Int) (o : Int) (w : Int) (i : Int) (hi : 0 ≤ i ∧ i < 1000000) : Met l yX1_depthAt (Cond.code yX1_depthAt cX1_depthAt 3 (some .int) :: TB) rm_X1_depthAt (va_Pc [.ref a, .int (iI i)] (fun U => KA D cs U ∧ PanelAt D cs (fun _ => False) U.heap a k n f o w)) (vp_Si (fun r => r = iI (dpt k n f i) ∧ (0 ≤ dpt k n f i ∧ dpt k n f i ≤ 30))) 0 0 (fun _ => False) := by
  refine enter (cc := cX1_depthAt) (maxL := 3) (ret := (some .int)) (by decide) (Nat.le_of_ble_eq_true rfl) ?_
  intro p e s m below meth c Q ls hx hb hml hown hts hr hlocks hnm ⟨hK, hpan⟩ hl hQ
  have ht : ∀ w ∈ TB, w.before _ s = true := fun w h => hts w (List.mem_cons_of_mem _ h)
  have hl : lv_has ls 3 [(0, .ref a), (1, .int (iI i))] := hl
  obtain ⟨hv, r, row, hPn, -, -, hrow⟩ := id hpan
  obtain ⟨hvk, hvn, hvf, hvo, hvw⟩ := hv
  have hnb := isPr_bd hvn
  have hpb := per_bd (k := k) hvn
  have hfb := fOK_bd hvk hvn hvf
  refine lv_iload_n hx hb dX1_depthAt_0 rfl (lv_at hl 1 rfl) ?_
  refine lv_aload_n hx hb dX1_depthAt_1 rfl (lv_at hl 0 rfl) ?_
  refine va_get (D := D) (ci := 0) (v := .int (iI (per k n))) (C := RX1) (T := TX1) (N := 7) hx hb ht inTB_X1 hown hK hPn 0 rfl rfl 5 (by decide) (ht _ tb_154) (fun _ h9 => h9) rfl dX1_depthAt_2 ?_
  refine vp_callSi (W.runS (As := [.int (iI i), .int (iI (per k n))]) (rest := []) ⟨hx, hb, hml, hown, hts⟩ (c_X0_rest l i (per k n) (by omega) (by omega)) (va_cwS 2 hts (gS tb_138 tb_139 tb_6 tb_140) rfl rfl rfl (by decide +kernel) ⟨Nat.le_of_ble_eq_true rfl, Nat.le_of_ble_eq_true rfl⟩) preS0 rfl rfl hl.1 rfl (lv_room (Nat.le_of_ble_eq_true rfl)) dX1_depthAt_5 ⟨Nat.le_of_ble_eq_true rfl, Nat.le_of_ble_eq_true rfl⟩) (fun r9 hr9 => ?_)
  obtain ⟨rfl, hx5_0⟩ := hr9
  refine lv_istore_n (lv' := [(2, .int (iI (i % (per k n)))), (0, .ref a), (1, .int (iI i))]) hx hb dX1_depthAt_8 rfl hl (by decide) rfl (fun ls hl => ?_)
  refine lv_iload_n hx hb dX1_depthAt_9 rfl (lv_at hl 0 rfl) ?_
  refine lv_aload_n hx hb dX1_depthAt_10 rfl (lv_at hl 1 rfl) ?_
  refine va_get (D := D) (ci := 0) (v := .ref r) (C := RX1) (T := TX1) (N := 7) hx hb ht inTB_X1 hown hK hPn 0 rfl rfl 6 (by decide) (ht _ tb_156) (fun _ h9 => h9) rfl dX1_depthAt_11 ?_
  refine rv_alen hx hb hK hPn 1 0 rfl rfl dX1_depthAt_14 ?_
  refine rv_icmp_ge (tgt := 27) hx hb dX1_depthAt_15 (by decide) (by omega) (fun h15 => False.elim (by omega)) (fun h15 => ?_)
  refine lv_aload_n hx hb dX1_depthAt_18 rfl (lv_at hl 1 rfl) ?_
  refine va_get (D := D) (ci := 0) (v := .ref r) (C := RX1) (T := TX1) (N := 7) hx hb ht inTB_X1 hown hK hPn 0 rfl rfl 6 (by decide) (ht _ tb_156) (fun _ h9 => h9) rfl dX1_depthAt_19 ?_
  refine lv_iload_n hx hb dX1_depthAt_22 rfl (lv_at hl 0 rfl) ?_
  refine rv_iald hx hb hK hPn 1 0 rfl rfl ((i % per k n).toNat) (by omega) (by omega) dX1_depthAt_23 ?_
  refine lv_goto (tgt := 28) hx hb dX1_depthAt_24 (by decide) ?_
  subst hQ
  exact W.iret hx hb hr (fun t9 ht9 hW9 => ⟨_, rfl, ⟨by rw [hrow _ (by omega)]; rfl, dpt_bd hvk hvn hvf _⟩, ht9⟩) (fun _ h => absurd h List.not_mem_nil) dX1_depthAt_28

abbrev rm_X1_wellDepth : Room := { frames := 2, cells := 0, slots := 0, locals := 44 }
set_option maxHeartbeats 4000000 in
set_option maxRecDepth 100000 in
/-- wellDepth -/
theorem c_X1_wellDepth (l : Launch) (D : va_G) (cs : Nat → ClassId) (a : Nat) (k : Int) (n : Int) (f : Int) (o : Int) (w : Int) (i : Int) (hi : 0 ≤ i ∧ i < 40) : Met l yX1_wellDepth (Cond.code yX1_wellDepth cX1_wellDepth 2 (some .int) :: TB) rm_X1_wellDepth (va_Pc [.ref a, .int (iI i)] (fun U => KA D cs U ∧ PanelAt D cs (fun _ => False) U.heap a k n f o w)) (vp_Si (fun r => r = iI (dpt k n f (i + o)) ∧ (0 ≤ dpt k n f (i + o) ∧ dpt k n f (i + o) ≤ 30))) 0 0 (fun _ => False) := by
  refine enter (cc := cX1_wellDepth) (maxL := 2) (ret := (some .int)) (by decide) (Nat.le_of_ble_eq_true rfl) ?_
  intro p e s m below meth c Q ls hx hb hml hown hts hr hlocks hnm ⟨hK, hpan⟩ hl hQ
  have ht : ∀ w ∈ TB, w.before _ s = true := fun w h => hts w (List.mem_cons_of_mem _ h)
  have hl : lv_has ls 2 [(0, .ref a), (1, .int (iI i))] := hl
  obtain ⟨hv, r, row, hPn, -, -, hrow⟩ := id hpan
  obtain ⟨hvk, hvn, hvf, hvo, hvw⟩ := hv
  have hnb := isPr_bd hvn
  have hpb := per_bd (k := k) hvn
  have hfb := fOK_bd hvk hvn hvf
  refine lv_aload_n hx hb dX1_wellDepth_0 rfl (lv_at hl 0 rfl) ?_
  refine lv_iload_n hx hb dX1_wellDepth_1 rfl (lv_at hl 1 rfl) ?_
  refine lv_aload_n hx hb dX1_wellDepth_2 rfl (lv_at hl 0 rfl) ?_
  refine va_get (D := D) (ci := 0) (v := .int (iI o)) (C := RX1) (T := TX1) (N := 7) hx hb ht inTB_X1 hown hK hPn 0 rfl rfl 3 (by decide) (ht _ tb_147) (fun _ h9 => h9) rfl dX1_wellDepth_3 ?_
  refine rv_iadd hx hb dX1_wellDepth_6 ?_
  refine vp_callSi (W.runV (As := [.int (iI (i + o))]) (rest := []) ⟨hx, hb, hml, hown, hts⟩ (c_X1_depthAt l D cs a k n f o w (i + o) (by omega)) (cwV 1 hts (gV tb_428 tb_429 tb_430 tb_5 tb_431) rfl rfl rfl (by decide +kernel) ⟨Nat.le_of_ble_eq_true rfl, Nat.le_of_ble_eq_true rfl⟩) (preV_pan hK hpan) rfl rfl hl.1 rfl (lv_room (Nat.le_of_ble_eq_true rfl)) dX1_wellDepth_7 ⟨Nat.le_of_ble_eq_true rfl, Nat.le_of_ble_eq_true rfl⟩) (fun r9 hr9 => ?_)
  obtain ⟨rfl, hx7_0⟩ := hr9
  subst hQ
  exact W.iret hx hb hr (fun t9 ht9 hW9 => ⟨_, rfl, ⟨rfl, dpt_bd hvk hvn hvf _⟩, ht9⟩) (fun _ h => absurd h List.not_mem_nil) dX1_wellDepth_10

abbrev rm_X1_greatestDepth : Room := { frames := 3, cells := 0, slots := 0, locals := 65 }
set_option maxHeartbeats 4000000 in
set_option maxRecDepth 100000 in
/-- greatestDepth -/
theorem c_X1_greatestDepth (l : Launch) (D : va_G) (cs : Nat → ClassId) (a : Nat) (k : Int) (n : Int) (f : Int) (o : Int) (w : Int) : Met l yX1_greatestDepth (Cond.code yX1_greatestDepth cX1_greatestDepth 3 (some .int) :: TB) rm_X1_greatestDepth (va_Pc [.ref a] (fun U => KA D cs U ∧ PanelAt D cs (fun _ => False) U.heap a k n f o w)) (vp_Si (fun r => r = iI (mxW k n f o (w).toNat) ∧ (0 ≤ mxW k n f o (w).toNat ∧ mxW k n f o (w).toNat ≤ 30))) 0 0 (fun _ => False) := by
  refine enter (cc := cX1_greatestDepth) (maxL := 3) (ret := (some .int)) (by decide) (Nat.le_of_ble_eq_true rfl) ?_
  intro p e s m below meth c Q ls hx hb hml hown hts hr hlocks hnm ⟨hK, hpan⟩ hl hQ
  have ht : ∀ w ∈ TB, w.before _ s = true := fun w h => hts w (List.mem_cons_of_mem _ h)
  have hl : lv_has ls 3 [(0, .ref a)] := hl
  obtain ⟨hv, r, row, hPn, -, -, hrow⟩ := id hpan
  obtain ⟨hvk, hvn, hvf, hvo, hvw⟩ := hv
  have hnb := isPr_bd hvn
  have hpb := per_bd (k := k) hvn
  have hfb := fOK_bd hvk hvn hvf
  refine rv_iconst hx hb dX1_greatestDepth_0 ?_
  refine lv_istore_n (lv' := [(1, .int (iI 0)), (0, .ref a)]) hx hb dX1_greatestDepth_1 rfl hl (by decide) rfl (fun ls hl => ?_)
  refine rv_iconst hx hb dX1_greatestDepth_2 ?_
  refine lv_istore_n (lv' := [(2, .int (iI 0)), (1, .int (iI 0)), (0, .ref a)]) hx hb dX1_greatestDepth_3 rfl hl (by decide) rfl (fun ls hl => ?_)
  have loop4 : ∀ (fuel4 : Nat) (i : Nat), ((i : Int) ≤ w) → (w - (i : Int)).toNat < fuel4 → ∀ (x1 x2 : Int), x1 = mxW k n f o i → x2 = (i : Int) → ∀ ls : Array Slot, lv_has ls 3 [(0, .ref a), (1, .int (iI x1)), (2, .int (iI x2))] → W p l e rm_X1_greatestDepth s m [.ref a].toArray below meth c s.heap [] 0 0 Q (F0 m 4 ls []) := by
    intro fuel4
    induction fuel4 with
    | zero => intro i hi hfuel4; exact absurd hfuel4 (Nat.not_lt_zero _)
    | succ fuel4 ih4 =>
      intro i hi hfuel4 x1 x2 ex1 ex2 ls hl
      subst ex1 ex2
      have hab := mxW_bd (o := o) hvk hvn hvf i
      refine lv_iload_n hx hb dX1_greatestDepth_4 rfl (lv_at hl 2 rfl) ?_
      refine lv_aload_n hx hb dX1_greatestDepth_5 rfl (lv_at hl 0 rfl) ?_
      refine va_get (D := D) (ci := 0) (v := .int (iI w)) (C := RX1) (T := TX1) (N := 7) hx hb ht inTB_X1 hown hK hPn 0 rfl rfl 4 (by decide) (ht _ tb_150) (fun _ h9 => h9) rfl dX1_greatestDepth_6 ?_
      refine rv_icmp_ge (tgt := 28) hx hb dX1_greatestDepth_9 (by decide) (by omega) (fun h9 => ?_) (fun h9 => ?_)
      · refine lv_iload_n hx hb dX1_greatestDepth_28 rfl (lv_at hl 1 rfl) ?_
        subst hQ
        exact W.iret hx hb hr (fun t9 ht9 hW9 => ⟨_, rfl, ⟨by rw [show w.toNat = i by omega], mxW_bd hvk hvn hvf _⟩, ht9⟩) (fun _ h => absurd h List.not_mem_nil) dX1_greatestDepth_29
      · refine lv_iload_n hx hb dX1_greatestDepth_12 rfl (lv_at hl 1 rfl) ?_
        refine lv_aload_n hx hb dX1_greatestDepth_13 rfl (lv_at hl 0 rfl) ?_
        refine lv_iload_n hx hb dX1_greatestDepth_14 rfl (lv_at hl 2 rfl) ?_
        refine vp_callSi (W.runV (As := [.int (iI (i : Int))]) (rest := [.int (iI (mxW k n f o i))]) ⟨hx, hb, hml, hown, hts⟩ (c_X1_wellDepth l D cs a k n f o w (i : Int) (by omega)) (cwV 1 hts (gV tb_424 tb_425 tb_426 tb_5 tb_427) rfl rfl rfl (by decide +kernel) ⟨Nat.le_of_ble_eq_true rfl, Nat.le_of_ble_eq_true rfl⟩) (preV_pan hK hpan) rfl rfl hl.1 rfl (lv_room (Nat.le_of_ble_eq_true rfl)) dX1_greatestDepth_15 ⟨Nat.le_of_ble_eq_true rfl, Nat.le_of_ble_eq_true rfl⟩) (fun r9 hr9 => ?_)
        obtain ⟨rfl, hx15_0⟩ := hr9
        refine rv_mmax hx hb (hml.trans hl.1.symm) hown (ht _ tb_432) (ht _ tb_302) (ht _ tb_9) (ht _ tb_303) (Nat.le_of_ble_eq_true rfl) (Nat.le_of_ble_eq_true rfl) (Nat.le_of_ble_eq_true rfl) (Nat.le_of_ble_eq_true rfl) (by omega) dX1_greatestDepth_18 ?_
        refine lv_istore_n (lv' := [(1, .int (iI (mxI (mxW k n f o i) (dpt k n f ((i : Int) + o))))), (0, .ref a), (2, .int (iI (i : Int)))]) hx hb dX1_greatestDepth_21 rfl hl (by decide) rfl (fun ls hl => ?_)
        refine rv_iinc (k := 2) (lv' := [(2, .int (iI ((i : Int) + 1))), (1, .int (iI (mxI (mxW k n f o i) (dpt k n f ((i : Int) + o))))), (0, .ref a)]) hx hb dX1_greatestDepth_22 hl rfl (by decide) rfl (fun ls hl => ?_)
        refine lv_goto (tgt := 4) hx hb dX1_greatestDepth_25 (by decide) ?_
        exact ih4 (i + 1) (by omega) (by omega) _ _ rfl (by omega) ls (lv_sub hl [2, 1, 0] rfl)
  exact loop4 (_ + 1) 0 (by omega) (Nat.lt_succ_self _) _ _ rfl rfl ls (lv_sub hl [2, 1, 0] rfl)

abbrev rm_X1_depthsTogether : Room := { frames := 3, cells := 0, slots := 0, locals := 65 }
set_option maxHeartbeats 4000000 in
set_option maxRecDepth 100000 in
/-- depthsTogether -/
theorem c_X1_depthsTogether (l : Launch) (D : va_G) (cs : Nat → ClassId) (a : Nat) (k : Int) (n : Int) (f : Int) (o : Int) (w : Int) : Met l yX1_depthsTogether (Cond.code yX1_depthsTogether cX1_depthsTogether 3 (some .int) :: TB) rm_X1_depthsTogether (va_Pc [.ref a] (fun U => KA D cs U ∧ PanelAt D cs (fun _ => False) U.heap a k n f o w)) (vp_Si (fun r => r = iI (smW k n f o (w).toNat))) 0 0 (fun _ => False) := by
  refine enter (cc := cX1_depthsTogether) (maxL := 3) (ret := (some .int)) (by decide) (Nat.le_of_ble_eq_true rfl) ?_
  intro p e s m below meth c Q ls hx hb hml hown hts hr hlocks hnm ⟨hK, hpan⟩ hl hQ
  have ht : ∀ w ∈ TB, w.before _ s = true := fun w h => hts w (List.mem_cons_of_mem _ h)
  have hl : lv_has ls 3 [(0, .ref a)] := hl
  obtain ⟨hv, r, row, hPn, -, -, hrow⟩ := id hpan
  obtain ⟨hvk, hvn, hvf, hvo, hvw⟩ := hv
  have hnb := isPr_bd hvn
  have hpb := per_bd (k := k) hvn
  have hfb := fOK_bd hvk hvn hvf
  refine rv_iconst hx hb dX1_depthsTogether_0 ?_
  refine lv_istore_n (lv' := [(1, .int (iI 0)), (0, .ref a)]) hx hb dX1_depthsTogether_1 rfl hl (by decide) rfl (fun ls hl => ?_)
  refine rv_iconst hx hb dX1_depthsTogether_2 ?_
  refine lv_istore_n (lv' := [(2, .int (iI 0)), (1, .int (iI 0)), (0, .ref a)]) hx hb dX1_depthsTogether_3 rfl hl (by decide) rfl (fun ls hl => ?_)
  have loop4 : ∀ (fuel4 : Nat) (i : Nat), ((i : Int) ≤ w) → (w - (i : Int)).toNat < fuel4 → ∀ (x1 x2 : Int), x1 = smW k n f o i → x2 = (i : Int) → ∀ ls : Array Slot, lv_has ls 3 [(0, .ref a), (1, .int (iI x1)), (2, .int (iI x2))] → W p l e rm_X1_depthsTogether s m [.ref a].toArray below meth c s.heap [] 0 0 Q (F0 m 4 ls []) := by
    intro fuel4
    induction fuel4 with
    | zero => intro i hi hfuel4; exact absurd hfuel4 (Nat.not_lt_zero _)
    | succ fuel4 ih4 =>
      intro i hi hfuel4 x1 x2 ex1 ex2 ls hl
      subst ex1 ex2
      refine lv_iload_n hx hb dX1_depthsTogether_4 rfl (lv_at hl 2 rfl) ?_
      refine lv_aload_n hx hb dX1_depthsTogether_5 rfl (lv_at hl 0 rfl) ?_
      refine va_get (D := D) (ci := 0) (v := .int (iI w)) (C := RX1) (T := TX1) (N := 7) hx hb ht inTB_X1 hown hK hPn 0 rfl rfl 4 (by decide) (ht _ tb_150) (fun _ h9 => h9) rfl dX1_depthsTogether_6 ?_
      refine rv_icmp_ge (tgt := 26) hx hb dX1_depthsTogether_9 (by decide) (by omega) (fun h9 => ?_) (fun h9 => ?_)
      · refine lv_iload_n hx hb dX1_depthsTogether_26 rfl (lv_at hl 1 rfl) ?_
        subst hQ
        exact W.iret hx hb hr (fun t9 ht9 hW9 => ⟨_, rfl, by rw [show w.toNat = i by omega], ht9⟩) (fun _ h => absurd h List.not_mem_nil) dX1_depthsTogether_27
      · refine lv_iload_n hx hb dX1_depthsTogether_12 rfl (lv_at hl 1 rfl) ?_
        refine lv_aload_n hx hb dX1_depthsTogether_13 rfl (lv_at hl 0 rfl) ?_
        refine lv_iload_n hx hb dX1_depthsTogether_14 rfl (lv_at hl 2 rfl) ?_
        refine vp_callSi (W.runV (As := [.int (iI (i : Int))]) (rest := [.int (iI (smW k n f o i))]) ⟨hx, hb, hml, hown, hts⟩ (c_X1_wellDepth l D cs a k n f o w (i : Int) (by omega)) (cwV 1 hts (gV tb_424 tb_425 tb_426 tb_5 tb_427) rfl rfl rfl (by decide +kernel) ⟨Nat.le_of_ble_eq_true rfl, Nat.le_of_ble_eq_true rfl⟩) (preV_pan hK hpan) rfl rfl hl.1 rfl (lv_room (Nat.le_of_ble_eq_true rfl)) dX1_depthsTogether_15 ⟨Nat.le_of_ble_eq_true rfl, Nat.le_of_ble_eq_true rfl⟩) (fun r9 hr9 => ?_)
        obtain ⟨rfl, hx15_0⟩ := hr9
        refine rv_iadd hx hb dX1_depthsTogether_18 ?_
        refine lv_istore_n (lv' := [(1, .int (iI (smW k n f o i + dpt k n f ((i : Int) + o)))), (0, .ref a), (2, .int (iI (i : Int)))]) hx hb dX1_depthsTogether_19 rfl hl (by decide) rfl (fun ls hl => ?_)
        refine rv_iinc (k := 2) (lv' := [(2, .int (iI ((i : Int) + 1))), (1, .int (iI (smW k n f o i + dpt k n f ((i : Int) + o)))), (0, .ref a)]) hx hb dX1_depthsTogether_20 hl rfl (by decide) rfl (fun ls hl => ?_)
        refine lv_goto (tgt := 4) hx hb dX1_depthsTogether_23 (by decide) ?_
        exact ih4 (i + 1) (by omega) (by omega) _ _ rfl (by omega) ls (lv_sub hl [2, 1, 0] rfl)
  exact loop4 (_ + 1) 0 (by omega) (Nat.lt_succ_self _) _ _ rfl rfl ls (lv_sub hl [2, 1, 0] rfl)

abbrev rm_X1_isMirrored : Room := { frames := 3, cells := 0, slots := 0, locals := 65 }
set_option maxHeartbeats 4000000 in
set_option maxRecDepth 100000 in
/-- isMirrored -/
theorem c_X1_isMirrored (l : Launch) (D : va_G) (cs : Nat → ClassId) (a : Nat) (k : Int) (n : Int) (f : Int) (o : Int) (w : Int) : Met l yX1_isMirrored (Cond.code yX1_isMirrored cX1_isMirrored 2 (some .boolean) :: TB) rm_X1_isMirrored (va_Pc [.ref a] (fun U => KA D cs U ∧ PanelAt D cs (fun _ => False) U.heap a k n f o w)) (vp_Si (fun r => (r = iI 1 ∧ (mirP k n f o w)) ∨ (r = iI 0 ∧ ¬ (mirP k n f o w)))) 0 0 (fun _ => False) := by
  refine enter (cc := cX1_isMirrored) (maxL := 2) (ret := (some .boolean)) (by decide) (Nat.le_of_ble_eq_true rfl) ?_
  intro p e s m below meth c Q ls hx hb hml hown hts hr hlocks hnm ⟨hK, hpan⟩ hl hQ
  have ht : ∀ w ∈ TB, w.before _ s = true := fun w h => hts w (List.mem_cons_of_mem _ h)
  have hl : lv_has ls 2 [(0, .ref a)] := hl
  obtain ⟨hv, r, row, hPn, -, -, hrow⟩ := id hpan
  obtain ⟨hvk, hvn, hvf, hvo, hvw⟩ := hv
  have hnb := isPr_bd hvn
  have hpb := per_bd (k := k) hvn
  have hfb := fOK_bd hvk hvn hvf
  refine rv_iconst hx hb dX1_isMirrored_0 ?_
  refine lv_istore_n (lv' := [(1, .int (iI 0)), (0, .ref a)]) hx hb dX1_isMirrored_1 rfl hl (by decide) rfl (fun ls hl => ?_)
  have loop2 : ∀ (fuel2 : Nat) (i : Nat), ((i : Int) ≤ w) → (∀ j : Nat, j < i → dpt k n f ((j : Int) + o) = dpt k n f (w - 1 - (j : Int) + o)) → (w - (i : Int)).toNat < fuel2 → ∀ (x1 : Int), x1 = (i : Int) → ∀ ls : Array Slot, lv_has ls 2 [(0, .ref a), (1, .int (iI x1))] → W p l e rm_X1_isMirrored s m [.ref a].toArray below meth c s.heap [] 0 0 Q (F0 m 2 ls []) := by
    intro fuel2
    induction fuel2 with
    | zero => intro i hi hq hfuel2; exact absurd hfuel2 (Nat.not_lt_zero _)
    | succ fuel2 ih2 =>
      intro i hi hq hfuel2 x1 ex1 ls hl
      subst ex1
      refine lv_iload_n hx hb dX1_isMirrored_2 rfl (lv_at hl 1 rfl) ?_
      refine lv_aload_n hx hb dX1_isMirrored_3 rfl (lv_at hl 0 rfl) ?_
      refine va_get (D := D) (ci := 0) (v := .int (iI w)) (C := RX1) (T := TX1) (N := 7) hx hb ht inTB_X1 hown hK hPn 0 rfl rfl 4 (by decide) (ht _ tb_150) (fun _ h9 => h9) rfl dX1_isMirrored_4 ?_
      refine rv_icmp_ge (tgt := 38) hx hb dX1_isMirrored_7 (by decide) (by omega) (fun h7 => ?_) (fun h7 => ?_)
      · refine rv_iconst hx hb dX1_isMirrored_38 ?_
        subst hQ
        exact W.zret (ty := .boolean) hx hb hr (by decide) (fun t9 ht9 hW9 => ⟨_, rfl, Or.inl ⟨rfl, fun j h => hq j (by omega)⟩, ht9⟩) (fun _ h => absurd h List.not_mem_nil) dX1_isMirrored_39
      · refine lv_aload_n hx hb dX1_isMirrored_10 rfl (lv_at hl 0 rfl) ?_
        refine lv_iload_n hx hb dX1_isMirrored_11 rfl (lv_at hl 1 rfl) ?_
        refine vp_callSi (W.runV (As := [.int (iI (i : Int))]) (rest := []) ⟨hx, hb, hml, hown, hts⟩ (c_X1_wellDepth l D cs a k n f o w (i : Int) (by omega)) (cwV 1 hts (gV tb_424 tb_425 tb_426 tb_5 tb_427) rfl rfl rfl (by decide +kernel) ⟨Nat.le_of_ble_eq_true rfl, Nat.le_of_ble_eq_true rfl⟩) (preV_pan hK hpan) rfl rfl hl.1 rfl (lv_room (Nat.le_of_ble_eq_true rfl)) dX1_isMirrored_12 ⟨Nat.le_of_ble_eq_true rfl, Nat.le_of_ble_eq_true rfl⟩) (fun r9 hr9 => ?_)
        obtain ⟨rfl, hx12_0⟩ := hr9
        refine lv_aload_n hx hb dX1_isMirrored_15 rfl (lv_at hl 0 rfl) ?_
        refine lv_aload_n hx hb dX1_isMirrored_16 rfl (lv_at hl 0 rfl) ?_
        refine va_get (D := D) (ci := 0) (v := .int (iI w)) (C := RX1) (T := TX1) (N := 7) hx hb ht inTB_X1 hown hK hPn 0 rfl rfl 4 (by decide) (ht _ tb_150) (fun _ h9 => h9) rfl dX1_isMirrored_17 ?_
        refine rv_iconst hx hb dX1_isMirrored_20 ?_
        refine rv_isub hx hb dX1_isMirrored_21 ?_
        refine lv_iload_n hx hb dX1_isMirrored_22 rfl (lv_at hl 1 rfl) ?_
        refine rv_isub hx hb dX1_isMirrored_23 ?_
        refine vp_callSi (W.runV (As := [.int (iI ((w - 1) - (i : Int)))]) (rest := [.int (iI (dpt k n f ((i : Int) + o)))]) ⟨hx, hb, hml, hown, hts⟩ (c_X1_wellDepth l D cs a k n f o w ((w - 1) - (i : Int)) (by omega)) (cwV 1 hts (gV tb_424 tb_425 tb_426 tb_5 tb_427) rfl rfl rfl (by decide +kernel) ⟨Nat.le_of_ble_eq_true rfl, Nat.le_of_ble_eq_true rfl⟩) (preV_pan hK hpan) rfl rfl hl.1 rfl (lv_room (Nat.le_of_ble_eq_true rfl)) dX1_isMirrored_24 ⟨Nat.le_of_ble_eq_true rfl, Nat.le_of_ble_eq_true rfl⟩) (fun r9 hr9 => ?_)
        obtain ⟨rfl, hx24_0⟩ := hr9
        refine rv_icmp_eq (tgt := 32) hx hb dX1_isMirrored_27 (by decide) (by omega) (fun h27 => ?_) (fun h27 => ?_)
        · refine rv_iinc (k := 1) (lv' := [(1, .int (iI ((i : Int) + 1))), (0, .ref a)]) hx hb dX1_isMirrored_32 hl rfl (by decide) rfl (fun ls hl => ?_)
          refine lv_goto (tgt := 2) hx hb dX1_isMirrored_35 (by decide) ?_
          exact ih2 (i + 1) (by omega) (fun j h => by rcases Nat.lt_or_ge j i with q | q; exact hq j q; rw [show j = i by omega]; exact h27) (by omega) _ (by omega) ls (lv_sub hl [1, 0] rfl)
        · refine rv_iconst hx hb dX1_isMirrored_30 ?_
          subst hQ
          exact W.zret (ty := .boolean) hx hb hr (by decide) (fun t9 ht9 hW9 => ⟨_, rfl, Or.inr ⟨rfl, fun q => h27 (q i (by omega))⟩, ht9⟩) (fun _ h => absurd h List.not_mem_nil) dX1_isMirrored_31
  exact loop2 (_ + 1) 0 (by omega) (fun j h => absurd h (Nat.not_lt_zero _)) (Nat.lt_succ_self _) _ rfl ls (lv_sub hl [1, 0] rfl)

abbrev rm_X1_differenceAt : Room := { frames := 2, cells := 0, slots := 0, locals := 44 }
set_option maxHeartbeats 4000000 in
set_option maxRecDepth 100000 in
/-- differenceAt -/
theorem c_X1_differenceAt (l : Launch) (D : va_G) (cs : Nat → ClassId) (a : Nat) (k : Int) (n : Int) (f : Int) (o : Int) (w : Int) (i : Int) (sh : Int) (hi : 0 ≤ i ∧ i < 1000) (hsh : 0 ≤ sh ∧ sh < 1000) : Met l yX1_differenceAt (Cond.code yX1_differenceAt cX1_differenceAt 3 (some .int) :: TB) rm_X1_differenceAt (va_Pc [.ref a, .int (iI i), .int (iI sh)] (fun U => KA D cs U ∧ PanelAt D cs (fun _ => False) U.heap a k n f o w)) (vp_Si (fun r => r = iI ((dpt k n f (i + sh) - dpt k n f i) % n) ∧ (0 ≤ (dpt k n f (i + sh) - dpt k n f i) % n ∧ (dpt k n f (i + sh) - dpt k n f i) % n < n))) 0 0 (fun _ => False) := by
  refine enter (cc := cX1_differenceAt) (maxL := 3) (ret := (some .int)) (by decide) (Nat.le_of_ble_eq_true rfl) ?_
  intro p e s m below meth c Q ls hx hb hml hown hts hr hlocks hnm ⟨hK, hpan⟩ hl hQ
  have ht : ∀ w ∈ TB, w.before _ s = true := fun w h => hts w (List.mem_cons_of_mem _ h)
  have hl : lv_has ls 3 [(0, .ref a), (1, .int (iI i)), (2, .int (iI sh))] := hl
  obtain ⟨hv, r, row, hPn, -, -, hrow⟩ := id hpan
  obtain ⟨hvk, hvn, hvf, hvo, hvw⟩ := hv
  have hnb := isPr_bd hvn
  have hpb := per_bd (k := k) hvn
  have hfb := fOK_bd hvk hvn hvf
  refine lv_aload_n hx hb dX1_differenceAt_0 rfl (lv_at hl 0 rfl) ?_
  refine lv_iload_n hx hb dX1_differenceAt_1 rfl (lv_at hl 1 rfl) ?_
  refine lv_iload_n hx hb dX1_differenceAt_2 rfl (lv_at hl 2 rfl) ?_
  refine rv_iadd hx hb dX1_differenceAt_3 ?_
  refine vp_callSi (W.runV (As := [.int (iI (i + sh))]) (rest := []) ⟨hx, hb, hml, hown, hts⟩ (c_X1_depthAt l D cs a k n f o w (i + sh) (by omega)) (cwV 1 hts (gV tb_428 tb_429 tb_430 tb_5 tb_431) rfl rfl rfl (by decide +kernel) ⟨Nat.le_of_ble_eq_true rfl, Nat.le_of_ble_eq_true rfl⟩) (preV_pan hK hpan) rfl rfl hl.1 rfl (lv_room (Nat.le_of_ble_eq_true rfl)) dX1_differenceAt_4 ⟨Nat.le_of_ble_eq_true rfl, Nat.le_of_ble_eq_true rfl⟩) (fun r9 hr9 => ?_)
  obtain ⟨rfl, hx4_0⟩ := hr9
  refine lv_aload_n hx hb dX1_differenceAt_7 rfl (lv_at hl 0 rfl) ?_
  refine lv_iload_n hx hb dX1_differenceAt_8 rfl (lv_at hl 1 rfl) ?_
  refine vp_callSi (W.runV (As := [.int (iI i)]) (rest := [.int (iI (dpt k n f (i + sh)))]) ⟨hx, hb, hml, hown, hts⟩ (c_X1_depthAt l D cs a k n f o w i (by omega)) (cwV 1 hts (gV tb_428 tb_429 tb_430 tb_5 tb_431) rfl rfl rfl (by decide +kernel) ⟨Nat.le_of_ble_eq_true rfl, Nat.le_of_ble_eq_true rfl⟩) (preV_pan hK hpan) rfl rfl hl.1 rfl (lv_room (Nat.le_of_ble_eq_true rfl)) dX1_differenceAt_9 ⟨Nat.le_of_ble_eq_true rfl, Nat.le_of_ble_eq_true rfl⟩) (fun r9 hr9 => ?_)
  obtain ⟨rfl, hx9_0⟩ := hr9
  refine rv_isub hx hb dX1_differenceAt_12 ?_
  refine lv_aload_n hx hb dX1_differenceAt_13 rfl (lv_at hl 0 rfl) ?_
  refine va_get (D := D) (ci := 0) (v := .int (iI n)) (C := RX1) (T := TX1) (N := 7) hx hb ht inTB_X1 hown hK hPn 0 rfl rfl 1 (by decide) (ht _ tb_143) (fun _ h9 => h9) rfl dX1_differenceAt_14 ?_
  refine vp_callSi (W.runS (As := [.int (iI (dpt k n f (i + sh) - dpt k n f i)), .int (iI n)]) (rest := []) ⟨hx, hb, hml, hown, hts⟩ (c_X0_rest l (dpt k n f (i + sh) - dpt k n f i) n (by omega) (by omega)) (va_cwS 2 hts (gS tb_138 tb_139 tb_6 tb_140) rfl rfl rfl (by decide +kernel) ⟨Nat.le_of_ble_eq_true rfl, Nat.le_of_ble_eq_true rfl⟩) preS0 rfl rfl hl.1 rfl (lv_room (Nat.le_of_ble_eq_true rfl)) dX1_differenceAt_17 ⟨Nat.le_of_ble_eq_true rfl, Nat.le_of_ble_eq_true rfl⟩) (fun r9 hr9 => ?_)
  obtain ⟨rfl, hx17_0⟩ := hr9
  subst hQ
  exact W.iret hx hb hr (fun t9 ht9 hW9 => ⟨_, rfl, ⟨rfl, hx17_0⟩, ht9⟩) (fun _ h => absurd h List.not_mem_nil) dX1_differenceAt_20

abbrev rm_X1_countOf : Room := { frames := 3, cells := 0, slots := 0, locals := 66 }
set_option maxHeartbeats 4000000 in
set_option maxRecDepth 100000 in
/-- countOf -/
theorem c_X1_countOf (l : Launch) (D : va_G) (cs : Nat → ClassId) (a : Nat) (k : Int) (n : Int) (f : Int) (o : Int) (w : Int) (sh : Int) (d : Int) (hsh : 0 ≤ sh ∧ sh < 1000) (hd : -2147483648 ≤ d ∧ d < 2147483648) : Met l yX1_countOf (Cond.code yX1_countOf cX1_countOf 5 (some .int) :: TB) rm_X1_countOf (va_Pc [.ref a, .int (iI sh), .int (iI d)] (fun U => KA D cs U ∧ PanelAt D cs (fun _ => False) U.heap a k n f o w)) (vp_Si (fun r => r = iI (cnC k n f sh d (per k n).toNat))) 0 0 (fun _ => False) := by
  refine enter (cc := cX1_countOf) (maxL := 5) (ret := (some .int)) (by decide) (Nat.le_of_ble_eq_true rfl) ?_
  intro p e s m below meth c Q ls hx hb hml hown hts hr hlocks hnm ⟨hK, hpan⟩ hl hQ
  have ht : ∀ w ∈ TB, w.before _ s = true := fun w h => hts w (List.mem_cons_of_mem _ h)
  have hl : lv_has ls 5 [(0, .ref a), (1, .int (iI sh)), (2, .int (iI d))] := hl
  obtain ⟨hv, r, row, hPn, -, -, hrow⟩ := id hpan
  obtain ⟨hvk, hvn, hvf, hvo, hvw⟩ := hv
  have hnb := isPr_bd hvn
  have hpb := per_bd (k := k) hvn
  have hfb := fOK_bd hvk hvn hvf
  refine rv_iconst hx hb dX1_countOf_0 ?_
  refine lv_istore_n (lv' := [(3, .int (iI 0)), (0, .ref a), (1, .int (iI sh)), (2, .int (iI d))]) hx hb dX1_countOf_1 rfl hl (by decide) rfl (fun ls hl => ?_)
  refine rv_iconst hx hb dX1_countOf_2 ?_
  refine lv_istore (lv' := [(4, .int (iI 0)), (3, .int (iI 0)), (0, .ref a), (1, .int (iI sh)), (2, .int (iI d))]) hx hb dX1_countOf_3 hl (by decide) rfl (fun ls hl => ?_)
  have loop5 : ∀ (fuel5 : Nat) (i : Nat), ((i : Int) ≤ per k n) → (per k n - (i : Int)).toNat < fuel5 → ∀ (x3 x4 : Int), x3 = cnC k n f sh d i → x4 = (i : Int) → ∀ ls : Array Slot, lv_has ls 5 [(0, .ref a), (1, .int (iI sh)), (2, .int (iI d)), (3, .int (iI x3)), (4, .int (iI x4))] → W p l e rm_X1_countOf s m [.ref a, .int (iI sh), .int (iI d)].toArray below meth c s.heap [] 0 0 Q (F0 m 5 ls []) := by
    intro fuel5
    induction fuel5 with
    | zero => intro i hi hfuel5; exact absurd hfuel5 (Nat.not_lt_zero _)
    | succ fuel5 ih5 =>
      intro i hi hfuel5 x3 x4 ex3 ex4 ls hl
      subst ex3 ex4
      refine lv_iload hx hb dX1_countOf_5 (lv_at hl 4 rfl) ?_
      refine lv_aload_n hx hb dX1_countOf_7 rfl (lv_at hl 0 rfl) ?_
      refine va_get (D := D) (ci := 0) (v := .int (iI (per k n))) (C := RX1) (T := TX1) (N := 7) hx hb ht inTB_X1 hown hK hPn 0 rfl rfl 5 (by decide) (ht _ tb_154) (fun _ h9 => h9) rfl dX1_countOf_8 ?_
      refine rv_icmp_ge (tgt := 34) hx hb dX1_countOf_11 (by decide) (by omega) (fun h11 => ?_) (fun h11 => ?_)
      · refine lv_iload_n hx hb dX1_countOf_34 rfl (lv_at hl 3 rfl) ?_
        subst hQ
        exact W.iret hx hb hr (fun t9 ht9 hW9 => ⟨_, rfl, by rw [show (per k n).toNat = i by omega], ht9⟩) (fun _ h => absurd h List.not_mem_nil) dX1_countOf_35
      · refine lv_aload_n hx hb dX1_countOf_14 rfl (lv_at hl 0 rfl) ?_
        refine lv_iload hx hb dX1_countOf_15 (lv_at hl 4 rfl) ?_
        refine lv_iload_n hx hb dX1_countOf_17 rfl (lv_at hl 1 rfl) ?_
        refine vp_callSi (W.runV (As := [.int (iI (i : Int)), .int (iI sh)]) (rest := []) ⟨hx, hb, hml, hown, hts⟩ (c_X1_differenceAt l D cs a k n f o w (i : Int) sh (by omega) (by omega)) (cwV 2 hts (gV tb_458 tb_460 tbs_9 tb_5 tb_461) rfl rfl rfl (by decide +kernel) ⟨Nat.le_of_ble_eq_true rfl, Nat.le_of_ble_eq_true rfl⟩) (preV_pan hK hpan) rfl rfl hl.1 rfl (lv_room (Nat.le_of_ble_eq_true rfl)) dX1_countOf_18 ⟨Nat.le_of_ble_eq_true rfl, Nat.le_of_ble_eq_true rfl⟩) (fun r9 hr9 => ?_)
        obtain ⟨rfl, hx18_0⟩ := hr9
        refine lv_iload_n hx hb dX1_countOf_21 rfl (lv_at hl 2 rfl) ?_
        refine rv_icmp_ne (tgt := 28) hx hb dX1_countOf_22 (by decide) (by omega) (fun h22 => ?_) (fun h22 => ?_)
        · refine rv_iinc (k := 4) (lv' := [(4, .int (iI ((i : Int) + 1))), (0, .ref a), (1, .int (iI sh)), (2, .int (iI d)), (3, .int (iI (cnC k n f sh d i)))]) hx hb dX1_countOf_28 hl rfl (by decide) rfl (fun ls hl => ?_)
          refine lv_goto (tgt := 5) hx hb dX1_countOf_31 (by decide) ?_
          exact ih5 (i + 1) (by omega) (by omega) _ _ (by simp only [cnC]; first | rw [if_pos h22] | (rw [if_neg h22]; omega)) (by omega) ls (lv_sub hl [1, 2, 3, 4, 0] rfl)
        · refine rv_iinc (k := 3) (lv' := [(3, .int (iI (cnC k n f sh d i + 1))), (0, .ref a), (1, .int (iI sh)), (2, .int (iI d)), (4, .int (iI (i : Int)))]) hx hb dX1_countOf_25 hl rfl (by decide) rfl (fun ls hl => ?_)
          refine rv_iinc (k := 4) (lv' := [(4, .int (iI ((i : Int) + 1))), (3, .int (iI (cnC k n f sh d i + 1))), (0, .ref a), (1, .int (iI sh)), (2, .int (iI d))]) hx hb dX1_countOf_28 hl rfl (by decide) rfl (fun ls hl => ?_)
          refine lv_goto (tgt := 5) hx hb dX1_countOf_31 (by decide) ?_
          exact ih5 (i + 1) (by omega) (by omega) _ _ (by simp only [cnC]; first | rw [if_pos h22] | (rw [if_neg h22]; omega)) (by omega) ls (lv_sub hl [2, 3, 4, 1, 0] rfl)
  exact loop5 (_ + 1) 0 (by omega) (Nat.lt_succ_self _) _ _ rfl rfl ls (lv_sub hl [2, 3, 4, 1, 0] rfl)

abbrev rm_X1_planeDepth : Room := { frames := 2, cells := 0, slots := 0, locals := 44 }
set_option maxHeartbeats 4000000 in
set_option maxRecDepth 100000 in
/-- planeDepth -/
theorem c_X1_planeDepth (l : Launch) (D : va_G) (cs : Nat → ClassId) (a : Nat) (k : Int) (n : Int) (f : Int) (o : Int) (w : Int) (x : Int) (y : Int) (hx0 : 0 ≤ x ∧ x < 1000) (hy0 : 0 ≤ y ∧ y < 1000) : Met l yX1_planeDepth (Cond.code yX1_planeDepth cX1_planeDepth 3 (some .int) :: TB) rm_X1_planeDepth (va_Pc [.ref a, .int (iI x), .int (iI y)] (fun U => KA D cs U ∧ PanelAt D cs (fun _ => False) U.heap a k n f o w)) (vp_Si (fun r => r = iI (plD k n f x y) ∧ (0 ≤ plD k n f x y ∧ plD k n f x y < n))) 0 0 (fun _ => False) := by
  refine enter (cc := cX1_planeDepth) (maxL := 3) (ret := (some .int)) (by decide) (Nat.le_of_ble_eq_true rfl) ?_
  intro p e s m below meth c Q ls hx hb hml hown hts hr hlocks hnm ⟨hK, hpan⟩ hl hQ
  have ht : ∀ w ∈ TB, w.before _ s = true := fun w h => hts w (List.mem_cons_of_mem _ h)
  have hl : lv_has ls 3 [(0, .ref a), (1, .int (iI x)), (2, .int (iI y))] := hl
  obtain ⟨hv, r, row, hPn, -, -, hrow⟩ := id hpan
  obtain ⟨hvk, hvn, hvf, hvo, hvw⟩ := hv
  have hnb := isPr_bd hvn
  have hpb := per_bd (k := k) hvn
  have hfb := fOK_bd hvk hvn hvf
  refine lv_aload_n hx hb dX1_planeDepth_0 rfl (lv_at hl 0 rfl) ?_
  refine lv_iload_n hx hb dX1_planeDepth_1 rfl (lv_at hl 1 rfl) ?_
  refine vp_callSi (W.runV (As := [.int (iI x)]) (rest := []) ⟨hx, hb, hml, hown, hts⟩ (c_X1_depthAt l D cs a k n f o w x (by omega)) (cwV 1 hts (gV tb_428 tb_429 tb_430 tb_5 tb_431) rfl rfl rfl (by decide +kernel) ⟨Nat.le_of_ble_eq_true rfl, Nat.le_of_ble_eq_true rfl⟩) (preV_pan hK hpan) rfl rfl hl.1 rfl (lv_room (Nat.le_of_ble_eq_true rfl)) dX1_planeDepth_2 ⟨Nat.le_of_ble_eq_true rfl, Nat.le_of_ble_eq_true rfl⟩) (fun r9 hr9 => ?_)
  obtain ⟨rfl, hx2_0⟩ := hr9
  refine lv_aload_n hx hb dX1_planeDepth_5 rfl (lv_at hl 0 rfl) ?_
  refine lv_iload_n hx hb dX1_planeDepth_6 rfl (lv_at hl 2 rfl) ?_
  refine vp_callSi (W.runV (As := [.int (iI y)]) (rest := [.int (iI (dpt k n f x))]) ⟨hx, hb, hml, hown, hts⟩ (c_X1_depthAt l D cs a k n f o w y (by omega)) (cwV 1 hts (gV tb_428 tb_429 tb_430 tb_5 tb_431) rfl rfl rfl (by decide +kernel) ⟨Nat.le_of_ble_eq_true rfl, Nat.le_of_ble_eq_true rfl⟩) (preV_pan hK hpan) rfl rfl hl.1 rfl (lv_room (Nat.le_of_ble_eq_true rfl)) dX1_planeDepth_7 ⟨Nat.le_of_ble_eq_true rfl, Nat.le_of_ble_eq_true rfl⟩) (fun r9 hr9 => ?_)
  obtain ⟨rfl, hx7_0⟩ := hr9
  refine rv_iadd hx hb dX1_planeDepth_10 ?_
  refine lv_aload_n hx hb dX1_planeDepth_11 rfl (lv_at hl 0 rfl) ?_
  refine va_get (D := D) (ci := 0) (v := .int (iI n)) (C := RX1) (T := TX1) (N := 7) hx hb ht inTB_X1 hown hK hPn 0 rfl rfl 1 (by decide) (ht _ tb_143) (fun _ h9 => h9) rfl dX1_planeDepth_12 ?_
  refine vp_callSi (W.runS (As := [.int (iI (dpt k n f x + dpt k n f y)), .int (iI n)]) (rest := []) ⟨hx, hb, hml, hown, hts⟩ (c_X0_rest l (dpt k n f x + dpt k n f y) n (by omega) (by omega)) (va_cwS 2 hts (gS tb_138 tb_139 tb_6 tb_140) rfl rfl rfl (by decide +kernel) ⟨Nat.le_of_ble_eq_true rfl, Nat.le_of_ble_eq_true rfl⟩) preS0 rfl rfl hl.1 rfl (lv_room (Nat.le_of_ble_eq_true rfl)) dX1_planeDepth_15 ⟨Nat.le_of_ble_eq_true rfl, Nat.le_of_ble_eq_true rfl⟩) (fun r9 hr9 => ?_)
  obtain ⟨rfl, hx15_0⟩ := hr9
  subst hQ
  exact W.iret hx hb hr (fun t9 ht9 hW9 => ⟨_, rfl, ⟨rfl, hx15_0⟩, ht9⟩) (fun _ h => absurd h List.not_mem_nil) dX1_planeDepth_18

abbrev rm_X1_planePlaces : Room := { frames := 3, cells := 0, slots := 0, locals := 66 }
set_option maxHeartbeats 4000000 in
set_option maxRecDepth 100000 in
/-- planePlaces -/
theorem c_X1_planePlaces (l : Launch) (D : va_G) (cs : Nat → ClassId) (a : Nat) (k : Int) (n : Int) (f : Int) (o : Int) (w : Int) (d : Int) (hd : -2147483648 ≤ d ∧ d < 2147483648) : Met l yX1_planePlaces (Cond.code yX1_planePlaces cX1_planePlaces 5 (some .int) :: TB) rm_X1_planePlaces (va_Pc [.ref a, .int (iI d)] (fun U => KA D cs U ∧ PanelAt D cs (fun _ => False) U.heap a k n f o w)) (vp_Si (fun r => r = iI (ppO k n f d (n).toNat (n).toNat))) 0 0 (fun _ => False) := by
  refine enter (cc := cX1_planePlaces) (maxL := 5) (ret := (some .int)) (by decide) (Nat.le_of_ble_eq_true rfl) ?_
  intro p e s m below meth c Q ls hx hb hml hown hts hr hlocks hnm ⟨hK, hpan⟩ hl hQ
  have ht : ∀ w ∈ TB, w.before _ s = true := fun w h => hts w (List.mem_cons_of_mem _ h)
  have hl : lv_has ls 5 [(0, .ref a), (1, .int (iI d))] := hl
  obtain ⟨hv, r, row, hPn, -, -, hrow⟩ := id hpan
  obtain ⟨hvk, hvn, hvf, hvo, hvw⟩ := hv
  have hnb := isPr_bd hvn
  have hpb := per_bd (k := k) hvn
  have hfb := fOK_bd hvk hvn hvf
  refine rv_iconst hx hb dX1_planePlaces_0 ?_
  refine lv_istore_n (lv' := [(2, .int (iI 0)), (0, .ref a), (1, .int (iI d))]) hx hb dX1_planePlaces_1 rfl hl (by decide) rfl (fun ls hl => ?_)
  refine rv_iconst hx hb dX1_planePlaces_2 ?_
  refine lv_istore_n (lv' := [(3, .int (iI 0)), (2, .int (iI 0)), (0, .ref a), (1, .int (iI d))]) hx hb dX1_planePlaces_3 rfl hl (by decide) rfl (fun ls hl => ?_)
  have loop4 : ∀ (fuel4 : Nat) (x : Nat), ((x : Int) ≤ n) → (n - (x : Int)).toNat < fuel4 → ∀ (x2 x3 : Int), x2 = ppO k n f d n.toNat x → x3 = (x : Int) → ∀ ls : Array Slot, lv_has ls 5 [(0, .ref a), (1, .int (iI d)), (2, .int (iI x2)), (3, .int (iI x3))] → W p l e rm_X1_planePlaces s m [.ref a, .int (iI d)].toArray below meth c s.heap [] 0 0 Q (F0 m 4 ls []) := by
    intro fuel4
    induction fuel4 with
    | zero => intro x hx1 hfuel4; exact absurd hfuel4 (Nat.not_lt_zero _)
    | succ fuel4 ih4 =>
      intro x hx1 hfuel4 x2 x3 ex2 ex3 ls hl
      subst ex2 ex3
      have hpo := ppO_bd k n f d n.toNat x (by omega)
      refine lv_iload_n hx hb dX1_planePlaces_4 rfl (lv_at hl 3 rfl) ?_
      refine lv_aload_n hx hb dX1_planePlaces_5 rfl (lv_at hl 0 rfl) ?_
      refine va_get (D := D) (ci := 0) (v := .int (iI n)) (C := RX1) (T := TX1) (N := 7) hx hb ht inTB_X1 hown hK hPn 0 rfl rfl 1 (by decide) (ht _ tb_143) (fun _ h9 => h9) rfl dX1_planePlaces_6 ?_
      refine rv_icmp_ge (tgt := 50) hx hb dX1_planePlaces_9 (by decide) (by omega) (fun h9 => ?_) (fun h9 => ?_)
      · refine lv_iload_n hx hb dX1_planePlaces_50 rfl (lv_at hl 2 rfl) ?_
        subst hQ
        exact W.iret hx hb hr (fun t9 ht9 hW9 => ⟨_, rfl, by rw [show n.toNat = x by omega], ht9⟩) (fun _ h => absurd h List.not_mem_nil) dX1_planePlaces_51
      · refine rv_iconst hx hb dX1_planePlaces_12 ?_
        refine lv_istore (lv' := [(4, .int (iI 0)), (0, .ref a), (1, .int (iI d)), (2, .int (iI (ppO k n f d n.toNat x))), (3, .int (iI (x : Int)))]) hx hb dX1_planePlaces_13 hl (by decide) rfl (fun ls hl => ?_)
        have loop15 : ∀ (fuel15 : Nat) (y : Nat), ((y : Int) ≤ n) → (n - (y : Int)).toNat < fuel15 → ∀ (x2 x3 x4 : Int), x2 = (ppO k n f d n.toNat x + ppI k n f d (x : Int) y) → x3 = (x : Int) → x4 = (y : Int) → ∀ ls : Array Slot, lv_has ls 5 [(0, .ref a), (1, .int (iI d)), (2, .int (iI x2)), (3, .int (iI x3)), (4, .int (iI x4))] → W p l e rm_X1_planePlaces s m [.ref a, .int (iI d)].toArray below meth c s.heap [] 0 0 Q (F0 m 15 ls []) := by
          intro fuel15
          induction fuel15 with
          | zero => intro y hy1 hfuel15; exact absurd hfuel15 (Nat.not_lt_zero _)
          | succ fuel15 ih15 =>
            intro y hy1 hfuel15 x2 x3 x4 ex2 ex3 ex4 ls hl
            subst ex2 ex3 ex4
            have hpi := ppI_bd k n f d (x : Int) y
            refine lv_iload hx hb dX1_planePlaces_15 (lv_at hl 4 rfl) ?_
            refine lv_aload_n hx hb dX1_planePlaces_17 rfl (lv_at hl 0 rfl) ?_
            refine va_get (D := D) (ci := 0) (v := .int (iI n)) (C := RX1) (T := TX1) (N := 7) hx hb ht inTB_X1 hown hK hPn 0 rfl rfl 1 (by decide) (ht _ tb_143) (fun _ h9 => h9) rfl dX1_planePlaces_18 ?_
            refine rv_icmp_ge (tgt := 44) hx hb dX1_planePlaces_21 (by decide) (by omega) (fun h21 => ?_) (fun h21 => ?_)
            · refine rv_iinc (k := 3) (lv' := [(3, .int (iI ((x : Int) + 1))), (0, .ref a), (1, .int (iI d)), (2, .int (iI (ppO k n f d n.toNat x + ppI k n f d (x : Int) y))), (4, .int (iI (y : Int)))]) hx hb dX1_planePlaces_44 hl rfl (by decide) rfl (fun ls hl => ?_)
              refine lv_goto (tgt := 4) hx hb dX1_planePlaces_47 (by decide) ?_
              exact ih4 (x + 1) (by omega) (by omega) _ _ (by rw [ppO, show n.toNat = y by omega]) (by omega) ls (lv_sub hl [1, 2, 3, 0] rfl)
            · refine lv_aload_n hx hb dX1_planePlaces_24 rfl (lv_at hl 0 rfl) ?_
              refine lv_iload_n hx hb dX1_planePlaces_25 rfl (lv_at hl 3 rfl) ?_
              refine lv_iload hx hb dX1_planePlaces_26 (lv_at hl 4 rfl) ?_
              refine vp_callSi (W.runV (As := [.int (iI (x : Int)), .int (iI (y : Int))]) (rest := []) ⟨hx, hb, hml, hown, hts⟩ (c_X1_planeDepth l D cs a k n f o w (x : Int) (y : Int) (by omega) (by omega)) (cwV 2 hts (gV tb_500 tb_489 tb_490 tb_5 tb_491) rfl rfl rfl (by decide +kernel) ⟨Nat.le_of_ble_eq_true rfl, Nat.le_of_ble_eq_true rfl⟩) (preV_pan hK hpan) rfl rfl hl.1 rfl (lv_room (Nat.le_of_ble_eq_true rfl)) dX1_planePlaces_28 ⟨Nat.le_of_ble_eq_true rfl, Nat.le_of_ble_eq_true rfl⟩) (fun r9 hr9 => ?_)
              obtain ⟨rfl, hx28_0⟩ := hr9
              refine lv_iload_n hx hb dX1_planePlaces_31 rfl (lv_at hl 1 rfl) ?_
              refine rv_icmp_ne (tgt := 38) hx hb dX1_planePlaces_32 (by decide) (by omega) (fun h32 => ?_) (fun h32 => ?_)
              · refine rv_iinc (k := 4) (lv' := [(4, .int (iI ((y : Int) + 1))), (0, .ref a), (1, .int (iI d)), (2, .int (iI (ppO k n f d n.toNat x + ppI k n f d (x : Int) y))), (3, .int (iI (x : Int)))]) hx hb dX1_planePlaces_38 hl rfl (by decide) rfl (fun ls hl => ?_)
                refine lv_goto (tgt := 15) hx hb dX1_planePlaces_41 (by decide) ?_
                exact ih15 (y + 1) (by omega) (by omega) _ _ _ (by simp only [ppI]; first | (rw [if_pos h32]; omega) | (rw [if_neg h32]; omega)) rfl (by omega) ls (lv_sub hl [1, 2, 3, 4, 0] rfl)
              · refine rv_iinc (k := 2) (lv' := [(2, .int (iI ((ppO k n f d n.toNat x + ppI k n f d (x : Int) y) + 1))), (0, .ref a), (1, .int (iI d)), (3, .int (iI (x : Int))), (4, .int (iI (y : Int)))]) hx hb dX1_planePlaces_35 hl rfl (by decide) rfl (fun ls hl => ?_)
                refine rv_iinc (k := 4) (lv' := [(4, .int (iI ((y : Int) + 1))), (2, .int (iI ((ppO k n f d n.toNat x + ppI k n f d (x : Int) y) + 1))), (0, .ref a), (1, .int (iI d)), (3, .int (iI (x : Int)))]) hx hb dX1_planePlaces_38 hl rfl (by decide) rfl (fun ls hl => ?_)
                refine lv_goto (tgt := 15) hx hb dX1_planePlaces_41 (by decide) ?_
                exact ih15 (y + 1) (by omega) (by omega) _ _ _ (by simp only [ppI]; first | (rw [if_pos h32]; omega) | (rw [if_neg h32]; omega)) rfl (by omega) ls (lv_sub hl [2, 3, 1, 4, 0] rfl)
        exact loop15 (_ + 1) 0 (by omega) (Nat.lt_succ_self _) _ _ _ (by simp [ppI]) rfl rfl ls (lv_sub hl [1, 2, 3, 4, 0] rfl)
  exact loop4 (_ + 1) 0 (by omega) (Nat.lt_succ_self _) _ _ rfl rfl ls (lv_sub hl [2, 3, 1, 0] rfl)
end
section
/-! the model: what its pure methods say -/
noncomputable def cif (P : Prop) (a b : Int) : Int := @ite Int P (Classical.propDecidable P) a b
theorem cif_pos {P : Prop} (h : P) {a b : Int} : cif P a b = a := by unfold cif; exact if_pos h
theorem cif_neg {P : Prop} (h : ¬ P) {a b : Int} : cif P a b = b := by unfold cif; exact if_neg h
/-- number j of panel p -/
def pv (v : Nat → Int) (p : Int) (j : Nat) : Int := v (5 * p.toNat + j)
theorem vL_p {v : Nat → Int} {p : Int} (h : vL v) (hp : 0 ≤ p ∧ p < v 20) : vP (pv v p 0) (pv v p 1) (pv v p 2) (pv v p 3) (pv v p 4) := h.2.2.2.2 p.toNat (by omega)
def ModAt (D : va_G) (cs : Nat → ClassId) (H : Heap) (o b : Nat) (fs : List Value) (v : Nat → Int) : Prop := va_P D classes [(o, .inr (6, fs)), (b, iaC cs 24 v)] H ∧ fs[3]? = some (.ref b) ∧ vL v
theorem preV_mod {D : va_G} {cs : Nat → ClassId} {s : State} {H : Heap} {o b : Nat} {fs : List Value} {v : Nat → Int} {vs : List Value} (hK : KA D cs s) (h : ModAt D cs H o b fs v) : PreV s H "SoundWellsModel" o (va_Pc (.ref o :: vs) (fun U => KA D cs U ∧ ModAt D cs U.heap o b fs v)) vs := preV_of (Bf := fun U H => KA D cs U ∧ ModAt D cs H o b fs v) (Stb_and (KA_stb D cs) Stb_H) (va_recv hK h.1 (ci := 6) (q0 := 0) rfl rfl) ⟨hK, h⟩
def ModT (D : va_G) (cs : Nat → ClassId) (H : Heap) (o t : Nat) (fs : List Value) (len : Int) (tx : Nat → Int) : Prop := va_P D classes [(o, .inr (6, fs)), (t, iaC cs 200 tx)] H ∧ fs[0]? = some (.int (iI len)) ∧ fs[1]? = some (.ref t) ∧ (0 ≤ len ∧ len ≤ 200)
theorem preV_modT {D : va_G} {cs : Nat → ClassId} {s : State} {H : Heap} {o t : Nat} {fs : List Value} {len : Int} {tx : Nat → Int} {vs : List Value} (hK : KA D cs s) (h : ModT D cs H o t fs len tx) : PreV s H "SoundWellsModel" o (va_Pc (.ref o :: vs) (fun U => KA D cs U ∧ ModT D cs U.heap o t fs len tx)) vs := preV_of (Bf := fun U H => KA D cs U ∧ ModT D cs H o t fs len tx) (Stb_and (KA_stb D cs) Stb_H) (va_recv hK h.1 (ci := 6) (q0 := 0) rfl rfl) ⟨hK, h⟩
theorem preV_0 {s : State} {H : Heap} {C : String} {b : Nat} {vs : List Value} (hr : ∃ cell : Cell, H[b]? = some cell ∧ cell.vm.isStatics = false ∧ s.vm.findClass C = some cell.cls) : PreV s H C b (va_Pc (.ref b :: vs) (fun _ => True)) vs := ⟨fun _ _ _ _ q => q, hr, fun _ _ _ => ⟨rfl, trivial⟩⟩
/-- trial division -/
def trD (n : Int) : Nat → Int → Bool
  | 0, _ => true
  | k + 1, d => if n < d * d then true else if n % d = 0 then false else trD n k (d + 1)
theorem trD_tab : ∀ n : Nat, n < 32 → 2 < n → trD (n : Int) 5 2 = decide (n ∈ prN) := by decide +kernel
theorem trD_pr {n : Int} (h : 2 < n ∧ n < 32) : trD n 5 2 = true ↔ isPr n := by
  obtain ⟨k, rfl⟩ : ∃ k : Nat, n = (k : Int) := ⟨n.toNat, by omega⟩
  rw [trD_tab k (by omega) (by omega), decide_eq_true_eq]
  constructor
  · intro hm
    simp only [prN, List.mem_cons, List.not_mem_nil, or_false] at hm
    unfold isPr
    omega
  · intro hm
    obtain ⟨j, hj, e⟩ := isPr_mem hm
    rw [show k = j by omega]
    exact hj
theorem sqM_iff {r n : Nat} : sqM r n = true ↔ ∃ v : Nat, v < n ∧ 1 ≤ v ∧ (v : Int) * (v : Int) % (n : Int) = (r : Int) := by
  unfold sqM
  rw [List.any_eq_true]
  constructor
  · rintro ⟨v, hv, h⟩
    rw [decide_eq_true_eq] at h
    refine ⟨v, List.mem_range.mp hv, h.1, ?_⟩
    rw [← h.2]
    simp
  · rintro ⟨v, hv, h1, h2⟩
    refine ⟨v, List.mem_range.mpr hv, ?_⟩
    rw [decide_eq_true_eq]
    refine ⟨h1, ?_⟩
    have h3 : ((v * v % n : Nat) : Int) = (r : Int) := by rw [← h2]; simp
    omega
def lowM (n : Int) : Nat → Int → Int
  | 0, a => a
  | k + 1, a => lowM n k (if 2 ≤ ((k : Int) + 2) ∧ ((k : Int) + 2) < n ∧ rootP ((k : Int) + 2) n = true then (k : Int) + 2 else a)
def cntM (n : Int) : Nat → Int → Int
  | 0, a => a
  | k + 1, a => cntM n k (if 2 ≤ ((k : Int) + 2) ∧ ((k : Int) + 2) < n ∧ rootP ((k : Int) + 2) n = true then a + 1 else a)
theorem rtM_tab : ∀ n ∈ prN, lowM (n : Int) (n - 2) 0 = lowR (n : Int) ∧ cntM (n : Int) (n - 2) 0 = cntR (n : Int) := by decide +kernel
theorem rtM_pr {n : Int} (h : isPr n) : lowM n (n - 2).toNat 0 = lowR n ∧ cntM n (n - 2).toNat 0 = cntR n := by
  obtain ⟨k, hk, rfl⟩ := isPr_mem h
  have := rtM_tab k hk
  have hb := isPr_bd h
  rw [show ((k : Int) - 2).toNat = k - 2 by omega]
  exact this
def wsum (v : Nat → Int) : Nat → Int
  | 0 => 0
  | q + 1 => wsum v q + v (5 * q + 4)
/-- evenness: folds over shifts and differences -/
def evX (k n f : Int) (sh : Int) (a : Int) : Nat → Int
  | 0 => a
  | d + 1 => mxI (evX k n f sh a d) (cnC k n f sh (d : Int) (per k n).toNat)
def evN (k n f : Int) (sh : Int) (a : Int) : Nat → Int
  | 0 => a
  | d + 1 => mnI (evN k n f sh a d) (cnC k n f sh (d : Int) (per k n).toNat)
def evXO (k n f : Int) : Nat → Int
  | 0 => 0
  | j + 1 => evX k n f ((j : Int) + 1) (evXO k n f j) n.toNat
def evNO (k n f : Int) (a : Int) : Nat → Int
  | 0 => a
  | j + 1 => evN k n f ((j : Int) + 1) (evNO k n f a j) n.toNat
def evenS (k n f : Int) : Int := evXO k n f (per k n - 1).toNat - evNO k n f 1000 (per k n - 1).toNat
theorem evX_bd {k n f sh a : Int} (hn : isPr n) (ha : 0 ≤ a ∧ a ≤ 1000) (d : Nat) : 0 ≤ evX k n f sh a d ∧ evX k n f sh a d ≤ 1000 := by
  have hp := per_bd (k := k) hn
  induction d with
  | zero => exact ha
  | succ d ih =>
    have := cnC_bd k n f sh (d : Int) (per k n).toNat
    simp only [evX, mxI]
    split <;> omega
theorem evN_bd {k n f sh a : Int} (hn : isPr n) (ha : 0 ≤ a ∧ a ≤ 1000) (d : Nat) : 0 ≤ evN k n f sh a d ∧ evN k n f sh a d ≤ 1000 := by
  have hp := per_bd (k := k) hn
  induction d with
  | zero => exact ha
  | succ d ih =>
    have := cnC_bd k n f sh (d : Int) (per k n).toNat
    simp only [evN, mnI]
    split <;> omega
theorem evXO_bd {k n f : Int} (hn : isPr n) (j : Nat) : 0 ≤ evXO k n f j ∧ evXO k n f j ≤ 1000 := by
  induction j with
  | zero => exact (show (0 : Int) ≤ 0 ∧ (0 : Int) ≤ 1000 by decide)
  | succ j ih => exact evX_bd hn ih _
theorem evNO_bd {k n f a : Int} (hn : isPr n) (ha : 0 ≤ a ∧ a ≤ 1000) (j : Nat) : 0 ≤ evNO k n f a j ∧ evNO k n f a j ≤ 1000 := by
  induction j with
  | zero => exact ha
  | succ j ih => exact evN_bd hn ih _
noncomputable def miW (k n f o w : Int) : Nat → Int
  | 0 => 1
  | i + 1 => cif (miW k n f o w i = 1 ∧ dpt k n f ((i : Int) + o) = dpt k n f (w - 1 - (i : Int) + o)) 1 0
theorem miW_01 (k n f o w : Int) (i : Nat) : miW k n f o w i = 0 ∨ miW k n f o w i = 1 := by
  cases i with
  | zero => exact Or.inr rfl
  | succ i =>
    by_cases h : miW k n f o w i = 1 ∧ dpt k n f ((i : Int) + o) = dpt k n f (w - 1 - (i : Int) + o)
    · exact Or.inr (cif_pos h)
    · exact Or.inl (cif_neg h)
theorem miW_iff (k n f o w : Int) (i : Nat) : miW k n f o w i = 1 ↔ ∀ j : Nat, j < i → dpt k n f ((j : Int) + o) = dpt k n f (w - 1 - (j : Int) + o) := by
  induction i with
  | zero => exact ⟨fun _ j h => absurd h (Nat.not_lt_zero _), fun _ => rfl⟩
  | succ i ih =>
    constructor
    · intro h j hj
      by_cases hc : miW k n f o w i = 1 ∧ dpt k n f ((i : Int) + o) = dpt k n f (w - 1 - (i : Int) + o)
      · rcases Nat.lt_or_ge j i with q | q
        · exact ih.mp hc.1 j q
        · rw [show j = i by omega]; exact hc.2
      · rw [miW, cif_neg hc] at h; omega
    · intro h
      rw [miW, cif_pos]
      exact ⟨ih.mpr (fun j hj => h j (by omega)), h i (by omega)⟩
theorem miW_mir {k n f o w : Int} (hw : 0 ≤ w) : miW k n f o w w.toNat = cif (mirP k n f o w) 1 0 := by
  by_cases h : mirP k n f o w
  · rw [cif_pos h, miW_iff]
    exact fun j hj => h j (by omega)
  · rw [cif_neg h]
    rcases miW_01 k n f o w w.toNat with q | q
    · exact q
    · exact absurd (fun j hj => (miW_iff k n f o w w.toNat).mp q j (by omega)) h
def bcM (x : Int) : Nat → Int
  | 0 => 0
  | v + 1 => bcM x v + andI (shrI x (v : Int)) 1
def ppM (k n f d : Int) : Nat → Int
  | 0 => 0
  | j + 1 => ppM k n f d j + (if plD k n f ((j : Int) % n) ((j : Int) / n) = d then 1 else 0)
theorem ppM_bd (k n f d : Int) (j : Nat) : 0 ≤ ppM k n f d j ∧ ppM k n f d j ≤ (j : Int) := by
  induction j with
  | zero => exact ⟨by simp [ppM], by simp [ppM]⟩
  | succ j ih =>
    simp only [ppM]
    split <;> omega
/-! what the calls answer -/
noncomputable def aSquares (n : Int) : Int := cif (isPr n) (sqB n) (-1)
noncomputable def aSign (a n : Int) : Int := cif ((0 ≤ a ∧ a ≤ 999) ∧ isPr n) (sg a n + 1) (-1)
noncomputable def aRoot (n what : Int) : Int := cif (isPr n ∧ (0 ≤ what ∧ what ≤ 1)) (cif (what = 0) (lowR n) (cntR n)) (-1)
noncomputable def aLaw (p q : Int) : Int := cif (isPr p ∧ isPr q ∧ ¬ p = q) (sg p q * sg q p + 1) (-1)
noncomputable def aWell (v : Nat → Int) (p i : Int) : Int := cif ((0 ≤ p ∧ p < v 20) ∧ (0 ≤ i ∧ i < pv v p 4)) (dpt (pv v p 0) (pv v p 1) (pv v p 2) (i + pv v p 3)) (-1)
noncomputable def aCounts (v : Nat → Int) (p k d : Int) : Int := cif ((0 ≤ p ∧ p < v 20) ∧ (0 ≤ k ∧ k < per (pv v p 0) (pv v p 1)) ∧ (0 ≤ d ∧ d < pv v p 1)) (cnC (pv v p 0) (pv v p 1) (pv v p 2) k d (per (pv v p 0) (pv v p 1)).toNat) (-1)
noncomputable def aPlane (v : Nat → Int) (p x y : Int) : Int := cif ((0 ≤ p ∧ p < v 20) ∧ (0 ≤ x ∧ x < pv v p 1) ∧ (0 ≤ y ∧ y < pv v p 1)) (plD (pv v p 0) (pv v p 1) (pv v p 2) x y) (-1)
noncomputable def aPlanes (v : Nat → Int) (p d : Int) : Int := cif ((0 ≤ p ∧ p < v 20) ∧ (0 ≤ d ∧ d < pv v p 1)) (ppM (pv v p 0) (pv v p 1) (pv v p 2) d (pv v p 1 * pv v p 1).toNat) (-1)
noncomputable def aSum (v : Nat → Int) (p what : Int) : Int := cif (what = 6) (mxW (pv v p 0) (pv v p 1) (pv v p 2) (pv v p 3) (pv v p 4).toNat) (cif (what = 7) (smW (pv v p 0) (pv v p 1) (pv v p 2) (pv v p 3) (pv v p 4).toNat) (cif (what = 8) (bcM (bsW (pv v p 0) (pv v p 1) (pv v p 2) (pv v p 3) (pv v p 4).toNat) 31) (cif (mirP (pv v p 0) (pv v p 1) (pv v p 2) (pv v p 3) (pv v p 4)) 1 0)))
noncomputable def aPanel (v : Nat → Int) (p what : Int) : Int := cif ((0 ≤ p ∧ p < v 20) ∧ (0 ≤ what ∧ what ≤ 10)) (cif (what < 5) (pv v p what.toNat) (cif (what = 5) (per (pv v p 0) (pv v p 1)) (cif (what < 10) (aSum v p what) (evenS (pv v p 0) (pv v p 1) (pv v p 2))))) (-1)
noncomputable def aCount (v : Nat → Int) (un len what : Int) : Int := cif (what = 0) (v 20) (cif (what = 1) (v 21) (cif (what = 2) (v 22) (cif (what = 3) (v 23) (cif (what = 4) un (cif (what = 5) len (cif (what = 6) (wsum v (v 20).toNat) (-1)))))))
end
section
/-! the model: its pure methods -/

abbrev rm_X7_in : Room := { frames := 0, cells := 0, slots := 0, locals := 0 }
set_option maxHeartbeats 4000000 in
set_option maxRecDepth 100000 in
/-- in -/
theorem c_X7_in (l : Launch) (x : Int) (lo : Int) (hi : Int) (hx1 : -2147483648 ≤ x ∧ x < 2147483648) (hlo : -2147483648 ≤ lo ∧ lo < 2147483648) (hhi : -2147483648 ≤ hi ∧ hi < 2147483648) : Met l yX7_in (Cond.code yX7_in cX7_in 6 (some .boolean) :: TB) rm_X7_in (va_Pc [.long (lI x), .long (lI lo), .long (lI hi)] (fun _ => True)) (vp_Si (fun r => (r = iI 1 ∧ (lo ≤ x ∧ x ≤ hi)) ∨ (r = iI 0 ∧ ¬ (lo ≤ x ∧ x ≤ hi)))) 0 0 (fun _ => False) := by
  refine enter (cc := cX7_in) (maxL := 6) (ret := (some .boolean)) (by decide) (Nat.le_of_ble_eq_true rfl) ?_
  intro p e s m below meth c Q ls hx hb hml hown hts hr hlocks hnm _ hl hQ
  have ht : ∀ w ∈ TB, w.before _ s = true := fun w h => hts w (List.mem_cons_of_mem _ h)
  have hl : lv_has ls 6 [(0, .long (lI x)), (2, .long (lI lo)), (4, .long (lI hi))] := hl
  refine lv_lload_n hx hb dX7_in_0 rfl (lv_at hl 0 rfl) ?_
  refine lv_lload_n hx hb dX7_in_1 rfl (lv_at hl 1 rfl) ?_
  refine rv_lcmp hx hb dX7_in_2 (by omega) (fun z2 hz2a hz2b hz2c => ?_)
  refine rv_if_lt (tgt := 17) hx hb dX7_in_3 (by decide) (by omega) (fun h3 => ?_) (fun h3 => ?_)
  · refine rv_iconst hx hb dX7_in_17 ?_
    subst hQ
    exact W.zret (ty := .boolean) hx hb hr (by decide) (fun t9 ht9 hW9 => ⟨_, rfl, Or.inr ⟨rfl, fun q => by omega⟩, ht9⟩) (fun _ h => absurd h List.not_mem_nil) dX7_in_18
  · refine lv_lload_n hx hb dX7_in_6 rfl (lv_at hl 0 rfl) ?_
    refine lv_lload hx hb dX7_in_7 (lv_at hl 2 rfl) ?_
    refine rv_lcmp hx hb dX7_in_9 (by omega) (fun z9 hz9a hz9b hz9c => ?_)
    refine rv_if_gt (tgt := 17) hx hb dX7_in_10 (by decide) (by omega) (fun h10 => ?_) (fun h10 => ?_)
    · refine rv_iconst hx hb dX7_in_17 ?_
      subst hQ
      exact W.zret (ty := .boolean) hx hb hr (by decide) (fun t9 ht9 hW9 => ⟨_, rfl, Or.inr ⟨rfl, fun q => by omega⟩, ht9⟩) (fun _ h => absurd h List.not_mem_nil) dX7_in_18
    · refine rv_iconst hx hb dX7_in_13 ?_
      refine lv_goto (tgt := 18) hx hb dX7_in_14 (by decide) ?_
      subst hQ
      exact W.zret (ty := .boolean) hx hb hr (by decide) (fun t9 ht9 hW9 => ⟨_, rfl, Or.inl ⟨rfl, by omega⟩, ht9⟩) (fun _ h => absurd h List.not_mem_nil) dX7_in_18

abbrev rm_X7_isPrime : Room := { frames := 0, cells := 0, slots := 0, locals := 0 }
set_option maxHeartbeats 4000000 in
set_option maxRecDepth 100000 in
/-- isPrime -/
theorem c_X7_isPrime (l : Launch) (n : Int) (hn : -2147483648 ≤ n ∧ n < 2147483648) : Met l yX7_isPrime (Cond.code yX7_isPrime cX7_isPrime 3 (some .boolean) :: TB) rm_X7_isPrime (va_Pc [.int (iI n)] (fun _ => True)) (vp_Si (fun r => (r = iI 1 ∧ (isPr n)) ∨ (r = iI 0 ∧ ¬ (isPr n)))) 0 0 (fun _ => False) := by
  refine enter (cc := cX7_isPrime) (maxL := 3) (ret := (some .boolean)) (by decide) (Nat.le_of_ble_eq_true rfl) ?_
  intro p e s m below meth c Q ls hx hb hml hown hts hr hlocks hnm _ hl hQ
  have ht : ∀ w ∈ TB, w.before _ s = true := fun w h => hts w (List.mem_cons_of_mem _ h)
  have hl : lv_has ls 3 [(0, .int (iI n))] := hl
  refine lv_iload_n hx hb dX7_isPrime_0 rfl (lv_at hl 0 rfl) ?_
  refine rv_iconst hx hb dX7_isPrime_1 ?_
  refine rv_icmp_le (tgt := 15) hx hb dX7_isPrime_2 (by decide) (by omega) (fun h2 => ?_) (fun h2 => ?_)
  · refine rv_iconst hx hb dX7_isPrime_15 ?_
    refine lv_istore_n (lv' := [(1, .int (iI 0)), (0, .int (iI n))]) hx hb dX7_isPrime_16 rfl hl (by decide) rfl (fun ls hl => ?_)
    refine rv_iconst hx hb dX7_isPrime_17 ?_
    refine lv_istore_n (lv' := [(2, .int (iI 2)), (1, .int (iI 0)), (0, .int (iI n))]) hx hb dX7_isPrime_18 rfl hl (by decide) rfl (fun ls hl => ?_)
    refine lv_iload_n hx hb dX7_isPrime_19 rfl (lv_at hl 0 rfl) ?_
    refine lv_iload_n hx hb dX7_isPrime_20 rfl (lv_at hl 0 rfl) ?_
    refine rv_imul hx hb dX7_isPrime_21 ?_
    refine lv_iload_n hx hb dX7_isPrime_22 rfl (lv_at hl 2 rfl) ?_
    refine rv_icmp_gt (tgt := 48) hx hb dX7_isPrime_23 (by decide) (by omega) (fun h23 => ?_) (fun h23 => ?_)
    · refine lv_iload_n hx hb dX7_isPrime_48 rfl (lv_at hl 1 rfl) ?_
      subst hQ
      exact W.zret (ty := .boolean) hx hb hr (by decide) (fun t9 ht9 hW9 => ⟨_, rfl, Or.inr ⟨rfl, fun q => by have := isPr_bd q; omega⟩, ht9⟩) (fun _ h => absurd h List.not_mem_nil) dX7_isPrime_49
    · refine lv_iload_n hx hb dX7_isPrime_26 rfl (lv_at hl 1 rfl) ?_
      refine rv_if_eq (tgt := 48) hx hb dX7_isPrime_27 (by decide) (by decide) (fun _ => ?_) (fun q => absurd q (by decide))
      refine lv_iload_n hx hb dX7_isPrime_48 rfl (lv_at hl 1 rfl) ?_
      subst hQ
      exact W.zret (ty := .boolean) hx hb hr (by decide) (fun t9 ht9 hW9 => ⟨_, rfl, Or.inr ⟨rfl, fun q => by have := isPr_bd q; omega⟩, ht9⟩) (fun _ h => absurd h List.not_mem_nil) dX7_isPrime_49
  · refine lv_iload_n hx hb dX7_isPrime_5 rfl (lv_at hl 0 rfl) ?_
    refine rv_bipush hx hb dX7_isPrime_6 (by decide) ?_
    refine rv_icmp_ge (tgt := 15) hx hb dX7_isPrime_8 (by decide) (by omega) (fun h8 => ?_) (fun h8 => ?_)
    · refine rv_iconst hx hb dX7_isPrime_15 ?_
      refine lv_istore_n (lv' := [(1, .int (iI 0)), (0, .int (iI n))]) hx hb dX7_isPrime_16 rfl hl (by decide) rfl (fun ls hl => ?_)
      refine rv_iconst hx hb dX7_isPrime_17 ?_
      refine lv_istore_n (lv' := [(2, .int (iI 2)), (1, .int (iI 0)), (0, .int (iI n))]) hx hb dX7_isPrime_18 rfl hl (by decide) rfl (fun ls hl => ?_)
      refine lv_iload_n hx hb dX7_isPrime_19 rfl (lv_at hl 0 rfl) ?_
      refine lv_iload_n hx hb dX7_isPrime_20 rfl (lv_at hl 0 rfl) ?_
      refine rv_imul hx hb dX7_isPrime_21 ?_
      refine lv_iload_n hx hb dX7_isPrime_22 rfl (lv_at hl 2 rfl) ?_
      refine rv_icmp_gt (tgt := 48) hx hb dX7_isPrime_23 (by decide) (by omega) (fun h23 => ?_) (fun h23 => ?_)
      · refine lv_iload_n hx hb dX7_isPrime_48 rfl (lv_at hl 1 rfl) ?_
        subst hQ
        exact W.zret (ty := .boolean) hx hb hr (by decide) (fun t9 ht9 hW9 => ⟨_, rfl, Or.inr ⟨rfl, fun q => by have := isPr_bd q; omega⟩, ht9⟩) (fun _ h => absurd h List.not_mem_nil) dX7_isPrime_49
      · refine lv_iload_n hx hb dX7_isPrime_26 rfl (lv_at hl 1 rfl) ?_
        refine rv_if_eq (tgt := 48) hx hb dX7_isPrime_27 (by decide) (by decide) (fun _ => ?_) (fun q => absurd q (by decide))
        refine lv_iload_n hx hb dX7_isPrime_48 rfl (lv_at hl 1 rfl) ?_
        subst hQ
        exact W.zret (ty := .boolean) hx hb hr (by decide) (fun t9 ht9 hW9 => ⟨_, rfl, Or.inr ⟨rfl, fun q => by have := isPr_bd q; omega⟩, ht9⟩) (fun _ h => absurd h List.not_mem_nil) dX7_isPrime_49
    · refine rv_iconst hx hb dX7_isPrime_11 ?_
      refine lv_goto (tgt := 16) hx hb dX7_isPrime_12 (by decide) ?_
      refine lv_istore_n (lv' := [(1, .int (iI 1)), (0, .int (iI n))]) hx hb dX7_isPrime_16 rfl hl (by decide) rfl (fun ls hl => ?_)
      refine rv_iconst hx hb dX7_isPrime_17 ?_
      refine lv_istore_n (lv' := [(2, .int (iI 2)), (1, .int (iI 1)), (0, .int (iI n))]) hx hb dX7_isPrime_18 rfl hl (by decide) rfl (fun ls hl => ?_)
      have loop19 : ∀ (fuel19 : Nat) (d : Int), (2 ≤ d ∧ d ≤ 6) → (trD n (7 - d).toNat d = trD n 5 2) → (7 - d).toNat < fuel19 → ∀ ls : Array Slot, lv_has ls 3 [(0, .int (iI n)), (1, .int (iI 1)), (2, .int (iI d))] → W p l e rm_X7_isPrime s m [.int (iI n)].toArray below meth c s.heap [] 0 0 Q (F0 m 19 ls []) := by
        intro fuel19
        induction fuel19 with
        | zero => intro d hd hq hfuel19; exact absurd hfuel19 (Nat.not_lt_zero _)
        | succ fuel19 ih19 =>
          intro d hd hq hfuel19 ls hl
          have hd6 : 6 ≤ d → 36 ≤ d * d := fun h => Int.mul_le_mul h h (by decide) (by omega)
          have hd0 : 0 ≤ d * d := Int.mul_nonneg (by omega) (by omega)
          have hd7 : d * d ≤ 6 * 6 := Int.mul_le_mul (by omega) (by omega) (by omega) (by decide)
          have he7 : (d + 1) * (d + 1) ≤ 7 * 7 := Int.mul_le_mul (by omega) (by omega) (by omega) (by decide)
          have he0 : 0 ≤ (d + 1) * (d + 1) := Int.mul_nonneg (by omega) (by omega)
          refine lv_iload_n hx hb dX7_isPrime_19 rfl (lv_at hl 2 rfl) ?_
          refine lv_iload_n hx hb dX7_isPrime_20 rfl (lv_at hl 2 rfl) ?_
          refine rv_imul hx hb dX7_isPrime_21 ?_
          refine lv_iload_n hx hb dX7_isPrime_22 rfl (lv_at hl 0 rfl) ?_
          refine rv_icmp_gt (tgt := 48) hx hb dX7_isPrime_23 (by decide) (by omega) (fun h23 => ?_) (fun h23 => ?_)
          · refine lv_iload_n hx hb dX7_isPrime_48 rfl (lv_at hl 1 rfl) ?_
            subst hQ
            exact W.zret (ty := .boolean) hx hb hr (by decide) (fun t9 ht9 hW9 => ⟨_, rfl, Or.inl ⟨rfl, (trD_pr (by omega)).mp (by rw [← hq, show (7 - d).toNat = (7 - (d + 1)).toNat + 1 by omega, trD, if_pos (by omega)])⟩, ht9⟩) (fun _ h => absurd h List.not_mem_nil) dX7_isPrime_49
          · refine lv_iload_n hx hb dX7_isPrime_26 rfl (lv_at hl 1 rfl) ?_
            refine rv_if_eq (tgt := 48) hx hb dX7_isPrime_27 (by decide) (by decide) (fun q => absurd q (by decide)) (fun _ => ?_)
            refine lv_iload_n hx hb dX7_isPrime_30 rfl (lv_at hl 0 rfl) ?_
            refine lv_iload_n hx hb dX7_isPrime_31 rfl (lv_at hl 2 rfl) ?_
            refine rv_irem hx hb dX7_isPrime_32 (by omega) ?_
            have hm32 := md_bd (x := n) (y := d) (by omega)
            refine rv_if_eq (tgt := 40) hx hb dX7_isPrime_33 (by decide) (by omega) (fun h33 => ?_) (fun h33 => ?_)
            · refine rv_iconst hx hb dX7_isPrime_40 ?_
              refine lv_istore_n (lv' := [(1, .int (iI 0)), (0, .int (iI n)), (2, .int (iI d))]) hx hb dX7_isPrime_41 rfl hl (by decide) rfl (fun ls hl => ?_)
              refine rv_iinc (k := 2) (lv' := [(2, .int (iI (d + 1))), (1, .int (iI 0)), (0, .int (iI n))]) hx hb dX7_isPrime_42 hl rfl (by decide) rfl (fun ls hl => ?_)
              refine lv_goto (tgt := 19) hx hb dX7_isPrime_45 (by decide) ?_
              refine lv_iload_n hx hb dX7_isPrime_19 rfl (lv_at hl 0 rfl) ?_
              refine lv_iload_n hx hb dX7_isPrime_20 rfl (lv_at hl 0 rfl) ?_
              refine rv_imul hx hb dX7_isPrime_21 ?_
              refine lv_iload_n hx hb dX7_isPrime_22 rfl (lv_at hl 2 rfl) ?_
              refine rv_icmp_gt (tgt := 48) hx hb dX7_isPrime_23 (by decide) (by omega) (fun h23 => ?_) (fun h23 => ?_)
              · refine lv_iload_n hx hb dX7_isPrime_48 rfl (lv_at hl 1 rfl) ?_
                subst hQ
                exact W.zret (ty := .boolean) hx hb hr (by decide) (fun t9 ht9 hW9 => ⟨_, rfl, Or.inr ⟨rfl, fun q => by have q2 := (trD_pr (by omega)).mpr q; rw [← hq, show (7 - d).toNat = (7 - (d + 1)).toNat + 1 by omega, trD, if_neg (by omega), if_pos h33] at q2; cases q2⟩, ht9⟩) (fun _ h => absurd h List.not_mem_nil) dX7_isPrime_49
              · refine lv_iload_n hx hb dX7_isPrime_26 rfl (lv_at hl 1 rfl) ?_
                refine rv_if_eq (tgt := 48) hx hb dX7_isPrime_27 (by decide) (by decide) (fun _ => ?_) (fun q => absurd q (by decide))
                refine lv_iload_n hx hb dX7_isPrime_48 rfl (lv_at hl 1 rfl) ?_
                subst hQ
                exact W.zret (ty := .boolean) hx hb hr (by decide) (fun t9 ht9 hW9 => ⟨_, rfl, Or.inr ⟨rfl, fun q => by have q2 := (trD_pr (by omega)).mpr q; rw [← hq, show (7 - d).toNat = (7 - (d + 1)).toNat + 1 by omega, trD, if_neg (by omega), if_pos h33] at q2; cases q2⟩, ht9⟩) (fun _ h => absurd h List.not_mem_nil) dX7_isPrime_49
            · refine rv_iconst hx hb dX7_isPrime_36 ?_
              refine lv_goto (tgt := 41) hx hb dX7_isPrime_37 (by decide) ?_
              refine lv_istore_n (lv' := [(1, .int (iI 1)), (0, .int (iI n)), (2, .int (iI d))]) hx hb dX7_isPrime_41 rfl hl (by decide) rfl (fun ls hl => ?_)
              refine rv_iinc (k := 2) (lv' := [(2, .int (iI (d + 1))), (1, .int (iI 1)), (0, .int (iI n))]) hx hb dX7_isPrime_42 hl rfl (by decide) rfl (fun ls hl => ?_)
              refine lv_goto (tgt := 19) hx hb dX7_isPrime_45 (by decide) ?_
              exact ih19 (d + 1) (by omega) (by rw [show (7 - d).toNat = (7 - (d + 1)).toNat + 1 by omega, trD, if_neg (by omega), if_neg h33] at hq; exact hq) (by omega) ls (lv_sub hl [2, 1, 0] rfl)
      exact loop19 (_ + 1) 2 (by omega) rfl (Nat.lt_succ_self _) ls (lv_sub hl [2, 1, 0] rfl)

abbrev rm_X7_signOf : Room := { frames := 0, cells := 0, slots := 0, locals := 0 }
set_option maxHeartbeats 4000000 in
set_option maxRecDepth 100000 in
/-- signOf -/
theorem c_X7_signOf (l : Launch) (a : Int) (n : Int) (ha : 0 ≤ a ∧ a < 2147483648) (hn : 3 ≤ n ∧ n ≤ 31) : Met l yX7_signOf (Cond.code yX7_signOf cX7_signOf 4 (some .int) :: TB) rm_X7_signOf (va_Pc [.int (iI a), .int (iI n)] (fun _ => True)) (vp_Si (fun r => r = iI (sg a n) ∧ (-1 ≤ sg a n ∧ sg a n ≤ 1))) 0 0 (fun _ => False) := by
  refine enter (cc := cX7_signOf) (maxL := 4) (ret := (some .int)) (by decide) (Nat.le_of_ble_eq_true rfl) ?_
  intro p e s m below meth c Q ls hx hb hml hown hts hr hlocks hnm _ hl hQ
  have ht : ∀ w ∈ TB, w.before _ s = true := fun w h => hts w (List.mem_cons_of_mem _ h)
  have hl : lv_has ls 4 [(0, .int (iI a)), (1, .int (iI n))] := hl
  refine lv_iload_n hx hb dX7_signOf_0 rfl (lv_at hl 0 rfl) ?_
  refine lv_iload_n hx hb dX7_signOf_1 rfl (lv_at hl 1 rfl) ?_
  refine rv_irem hx hb dX7_signOf_2 (by omega) ?_
  have hm2 := md_bd (x := a) (y := n) (by omega)
  refine lv_istore_n (lv' := [(2, .int (iI (a % n))), (0, .int (iI a)), (1, .int (iI n))]) hx hb dX7_signOf_3 rfl hl (by decide) rfl (fun ls hl => ?_)
  refine rv_iconst hx hb dX7_signOf_4 ?_
  refine lv_istore_n (lv' := [(3, .int (iI 1)), (2, .int (iI (a % n))), (0, .int (iI a)), (1, .int (iI n))]) hx hb dX7_signOf_5 rfl hl (by decide) rfl (fun ls hl => ?_)
  have loop6 : ∀ (fuel6 : Nat) (u : Nat), (1 ≤ u ∧ (u : Int) ≤ n) → (∀ j : Nat, 1 ≤ j → j < u → ¬ (j : Int) * (j : Int) % n = a % n) → (n - (u : Int)).toNat < fuel6 → ∀ (x3 : Int), x3 = (u : Int) → ∀ ls : Array Slot, lv_has ls 4 [(0, .int (iI a)), (1, .int (iI n)), (2, .int (iI (a % n))), (3, .int (iI x3))] → W p l e rm_X7_signOf s m [.int (iI a), .int (iI n)].toArray below meth c s.heap [] 0 0 Q (F0 m 6 ls []) := by
    intro fuel6
    induction fuel6 with
    | zero => intro u hu hq hfuel6; exact absurd hfuel6 (Nat.not_lt_zero _)
    | succ fuel6 ih6 =>
      intro u hu hq hfuel6 x3 ex3 ls hl
      subst ex3
      have hd7 : (u : Int) * (u : Int) ≤ 31 * 31 := Int.mul_le_mul (by omega) (by omega) (by omega) (by decide)
      have hd0 : 0 ≤ (u : Int) * (u : Int) := Int.mul_nonneg (by omega) (by omega)
      refine lv_iload_n hx hb dX7_signOf_6 rfl (lv_at hl 3 rfl) ?_
      refine lv_iload_n hx hb dX7_signOf_7 rfl (lv_at hl 1 rfl) ?_
      refine rv_icmp_ge (tgt := 32) hx hb dX7_signOf_8 (by decide) (by omega) (fun h8 => ?_) (fun h8 => ?_)
      · refine lv_iload_n hx hb dX7_signOf_32 rfl (lv_at hl 2 rfl) ?_
        refine rv_if_ne (tgt := 40) hx hb dX7_signOf_33 (by decide) (by omega) (fun h33 => ?_) (fun h33 => ?_)
        · refine rv_iconst hx hb dX7_signOf_40 ?_
          subst hQ
          exact W.iret hx hb hr (fun t9 ht9 hW9 => ⟨_, rfl, ⟨by rw [sg, sgN, if_neg (by omega), if_neg (fun q => by obtain ⟨w, h1, h2, h3⟩ := sqM_iff.mp q; rw [show ((n.toNat : Nat) : Int) = n by omega, show (((a % n).toNat : Nat) : Int) = a % n by omega] at h3; exact hq w h2 (by omega) h3)], sg_bd _ _⟩, ht9⟩) (fun _ h => absurd h List.not_mem_nil) dX7_signOf_41
        · refine rv_iconst hx hb dX7_signOf_36 ?_
          refine lv_goto (tgt := 41) hx hb dX7_signOf_37 (by decide) ?_
          subst hQ
          exact W.iret hx hb hr (fun t9 ht9 hW9 => ⟨_, rfl, ⟨by rw [sg, sgN, if_pos (by omega)], sg_bd _ _⟩, ht9⟩) (fun _ h => absurd h List.not_mem_nil) dX7_signOf_41
      · refine lv_iload_n hx hb dX7_signOf_11 rfl (lv_at hl 2 rfl) ?_
        refine rv_if_le (tgt := 32) hx hb dX7_signOf_12 (by decide) (by omega) (fun h12 => ?_) (fun h12 => ?_)
        · refine lv_iload_n hx hb dX7_signOf_32 rfl (lv_at hl 2 rfl) ?_
          refine rv_if_ne (tgt := 40) hx hb dX7_signOf_33 (by decide) (by omega) (fun h33 => ?_) (fun h33 => ?_)
          · refine rv_iconst hx hb dX7_signOf_40 ?_
            subst hQ
            exact W.iret hx hb hr (fun t9 ht9 hW9 => ⟨_, rfl, ⟨by rw [sg, sgN, if_neg (by omega), if_neg (fun q => by obtain ⟨w, h1, h2, h3⟩ := sqM_iff.mp q; rw [show ((n.toNat : Nat) : Int) = n by omega, show (((a % n).toNat : Nat) : Int) = a % n by omega] at h3; exact hq w h2 (by omega) h3)], sg_bd _ _⟩, ht9⟩) (fun _ h => absurd h List.not_mem_nil) dX7_signOf_41
          · refine rv_iconst hx hb dX7_signOf_36 ?_
            refine lv_goto (tgt := 41) hx hb dX7_signOf_37 (by decide) ?_
            subst hQ
            exact W.iret hx hb hr (fun t9 ht9 hW9 => ⟨_, rfl, ⟨by rw [sg, sgN, if_pos (by omega)], sg_bd _ _⟩, ht9⟩) (fun _ h => absurd h List.not_mem_nil) dX7_signOf_41
        · refine lv_iload_n hx hb dX7_signOf_15 rfl (lv_at hl 3 rfl) ?_
          refine lv_iload_n hx hb dX7_signOf_16 rfl (lv_at hl 3 rfl) ?_
          refine rv_imul hx hb dX7_signOf_17 ?_
          refine lv_iload_n hx hb dX7_signOf_18 rfl (lv_at hl 1 rfl) ?_
          refine rv_irem hx hb dX7_signOf_19 (by omega) ?_
          have hm19 := md_bd (x := ((u : Int) * (u : Int))) (y := n) (by omega)
          refine lv_iload_n hx hb dX7_signOf_20 rfl (lv_at hl 2 rfl) ?_
          refine rv_icmp_ne (tgt := 26) hx hb dX7_signOf_21 (by decide) (by omega) (fun h21 => ?_) (fun h21 => ?_)
          · refine rv_iinc (k := 3) (lv' := [(3, .int (iI ((u : Int) + 1))), (0, .int (iI a)), (1, .int (iI n)), (2, .int (iI (a % n)))]) hx hb dX7_signOf_26 hl rfl (by decide) rfl (fun ls hl => ?_)
            refine lv_goto (tgt := 6) hx hb dX7_signOf_29 (by decide) ?_
            exact ih6 (u + 1) (by omega) (fun j h1 h2 => by rcases Nat.lt_or_ge j u with q | q; exact hq j h1 q; rw [show j = u by omega]; exact h21) (by omega) _ (by omega) ls (lv_sub hl [1, 2, 3, 0] rfl)
          · refine rv_iconst hx hb dX7_signOf_24 ?_
            subst hQ
            exact W.iret hx hb hr (fun t9 ht9 hW9 => ⟨_, rfl, ⟨by rw [sg, sgN, if_neg (by omega), if_pos (sqM_iff.mpr ⟨u, by omega, by omega, by rw [show ((n.toNat : Nat) : Int) = n by omega, show (((a % n).toNat : Nat) : Int) = a % n by omega]; exact h21⟩)], sg_bd _ _⟩, ht9⟩) (fun _ h => absurd h List.not_mem_nil) dX7_signOf_25
  exact loop6 (_ + 1) 1 (by omega) (fun j h1 h2 => by omega) (Nat.lt_succ_self _) _ rfl ls (lv_sub hl [2, 3, 1, 0] rfl)

abbrev rm_X7_isRoot : Room := { frames := 1, cells := 0, slots := 0, locals := 25 }
set_option maxHeartbeats 4000000 in
set_option maxRecDepth 100000 in
/-- isRoot -/
theorem c_X7_isRoot (l : Launch) (f : Int) (n : Int) (hf : -2147483648 ≤ f ∧ f < 2147483648) (hn : isPr n) : Met l yX7_isRoot (Cond.code yX7_isRoot cX7_isRoot 4 (some .boolean) :: TB) rm_X7_isRoot (va_Pc [.int (iI f), .int (iI n)] (fun _ => True)) (vp_Si (fun r => (r = iI 1 ∧ (isRt f n)) ∨ (r = iI 0 ∧ ¬ (isRt f n)))) 0 0 (fun _ => False) := by
  refine enter (cc := cX7_isRoot) (maxL := 4) (ret := (some .boolean)) (by decide) (Nat.le_of_ble_eq_true rfl) ?_
  intro p e s m below meth c Q ls hx hb hml hown hts hr hlocks hnm _ hl hQ
  have ht : ∀ w ∈ TB, w.before _ s = true := fun w h => hts w (List.mem_cons_of_mem _ h)
  have hl : lv_has ls 4 [(0, .int (iI f)), (1, .int (iI n))] := hl
  have hnb := isPr_bd hn
  refine lv_iload_n hx hb dX7_isRoot_0 rfl (lv_at hl 0 rfl) ?_
  refine rv_i2l hx hb dX7_isRoot_1 (by omega) ?_
  refine lv_ldc2 (v := lI 2) hx hb hown (ht _ tb_662) dX7_isRoot_2 ?_
  refine lv_iload_n hx hb dX7_isRoot_5 rfl (lv_at hl 1 rfl) ?_
  refine rv_iconst hx hb dX7_isRoot_6 ?_
  refine rv_isub hx hb dX7_isRoot_7 ?_
  refine rv_i2l hx hb dX7_isRoot_8 (by omega) ?_
  refine vp_callSi (W.runS (As := [.long (lI f), .long (lI 2), .long (lI (n - 1))]) (rest := []) ⟨hx, hb, hml, hown, hts⟩ (c_X7_in l f 2 (n - 1) (by omega) (by omega) (by omega)) (va_cwS 3 hts (gS tb_649 tb_650 tb_8 tb_651) rfl rfl rfl (by decide +kernel) ⟨Nat.le_of_ble_eq_true rfl, Nat.le_of_ble_eq_true rfl⟩) preS0 rfl rfl hl.1 rfl (lv_room (Nat.le_of_ble_eq_true rfl)) dX7_isRoot_9 ⟨Nat.le_of_ble_eq_true rfl, Nat.le_of_ble_eq_true rfl⟩) (fun r9 hr9 => ?_)
  rcases hr9 with ⟨rfl, hb9⟩ | ⟨rfl, hb9⟩
  · refine rv_if_ne (tgt := 17) hx hb dX7_isRoot_12 (by decide) (by decide) (fun _ => ?_) (fun q => absurd q (by decide))
    refine lv_iload_n hx hb dX7_isRoot_17 rfl (lv_at hl 0 rfl) ?_
    refine lv_istore_n (lv' := [(2, .int (iI f)), (0, .int (iI f)), (1, .int (iI n))]) hx hb dX7_isRoot_18 rfl hl (by decide) rfl (fun ls hl => ?_)
    refine rv_iconst hx hb dX7_isRoot_19 ?_
    refine lv_istore_n (lv' := [(3, .int (iI 1)), (2, .int (iI f)), (0, .int (iI f)), (1, .int (iI n))]) hx hb dX7_isRoot_20 rfl hl (by decide) rfl (fun ls hl => ?_)
    have loop21 : ∀ (fuel21 : Nat) (k : Nat), (1 ≤ k ∧ (k : Int) ≤ n - 1) → (∀ j : Nat, 1 ≤ j → j < k → ¬ pwI f n j = 1) → (n - (k : Int)).toNat < fuel21 → ∀ (x2 x3 : Int), x2 = pwI f n k → x3 = (k : Int) → ∀ ls : Array Slot, lv_has ls 4 [(0, .int (iI f)), (1, .int (iI n)), (2, .int (iI x2)), (3, .int (iI x3))] → W p l e rm_X7_isRoot s m [.int (iI f), .int (iI n)].toArray below meth c s.heap [] 0 0 Q (F0 m 21 ls []) := by
      intro fuel21
      induction fuel21 with
      | zero => intro k hk hi hfuel21; exact absurd hfuel21 (Nat.not_lt_zero _)
      | succ fuel21 ih21 =>
        intro k hk hi hfuel21 x2 x3 ex2 ex3 ls hl
        subst ex2 ex3
        have hpb := pwI_bd (f := f) (n := n) (by omega) k
        have hpm : 0 ≤ pwI f n k * f := Int.mul_nonneg (by omega) (by omega)
        have hpn : pwI f n k * f ≤ 31 * 31 := Int.mul_le_mul (by omega) (by omega) (by omega) (by omega)
        refine lv_iload_n hx hb dX7_isRoot_21 rfl (lv_at hl 2 rfl) ?_
        refine rv_iconst hx hb dX7_isRoot_22 ?_
        refine rv_icmp_eq (tgt := 38) hx hb dX7_isRoot_23 (by decide) (by omega) (fun h23 => ?_) (fun h23 => ?_)
        · refine lv_iload_n hx hb dX7_isRoot_38 rfl (lv_at hl 3 rfl) ?_
          refine lv_iload_n hx hb dX7_isRoot_39 rfl (lv_at hl 1 rfl) ?_
          refine rv_iconst hx hb dX7_isRoot_40 ?_
          refine rv_isub hx hb dX7_isRoot_41 ?_
          refine rv_icmp_ne (tgt := 49) hx hb dX7_isRoot_42 (by decide) (by omega) (fun h42 => ?_) (fun h42 => ?_)
          · refine rv_iconst hx hb dX7_isRoot_49 ?_
            subst hQ
            exact W.zret (ty := .boolean) hx hb hr (by decide) (fun t9 ht9 hW9 => ⟨_, rfl, Or.inr ⟨rfl, fun q => by have q3 := q.2.2; unfold rootP at q3; rw [List.all_eq_true] at q3; have q4 := q3 k (List.mem_range.mpr (by omega)); simp only [Bool.or_eq_true, decide_eq_true_eq] at q4; rcases q4 with q4 | q4; omega; exact q4 h23⟩, ht9⟩) (fun _ h => absurd h List.not_mem_nil) dX7_isRoot_50
          · refine rv_iconst hx hb dX7_isRoot_45 ?_
            refine lv_goto (tgt := 50) hx hb dX7_isRoot_46 (by decide) ?_
            subst hQ
            exact W.zret (ty := .boolean) hx hb hr (by decide) (fun t9 ht9 hW9 => ⟨_, rfl, Or.inl ⟨rfl, by omega, by omega, (by unfold rootP; rw [List.all_eq_true]; intro j hj; have := List.mem_range.mp hj; by_cases hz : j = 0; simp [hz]; simp only [Bool.or_eq_true, decide_eq_true_eq]; exact Or.inr (hi j (by omega) (by omega)))⟩, ht9⟩) (fun _ h => absurd h List.not_mem_nil) dX7_isRoot_50
        · refine lv_iload_n hx hb dX7_isRoot_26 rfl (lv_at hl 2 rfl) ?_
          refine lv_iload_n hx hb dX7_isRoot_27 rfl (lv_at hl 0 rfl) ?_
          refine rv_imul hx hb dX7_isRoot_28 ?_
          refine lv_iload_n hx hb dX7_isRoot_29 rfl (lv_at hl 1 rfl) ?_
          refine rv_irem hx hb dX7_isRoot_30 (by omega) ?_
          have hm30 := md_bd (x := (pwI f n k * f)) (y := n) (by omega)
          refine rv_top (y := (pwI f n (k + 1))) rfl ?_
          refine lv_istore_n (lv' := [(2, .int (iI (pwI f n (k + 1)))), (0, .int (iI f)), (1, .int (iI n)), (3, .int (iI (k : Int)))]) hx hb dX7_isRoot_31 rfl hl (by decide) rfl (fun ls hl => ?_)
          refine rv_iinc (k := 3) (lv' := [(3, .int (iI ((k : Int) + 1))), (2, .int (iI (pwI f n (k + 1)))), (0, .int (iI f)), (1, .int (iI n))]) hx hb dX7_isRoot_32 hl rfl (by decide) rfl (fun ls hl => ?_)
          refine lv_goto (tgt := 21) hx hb dX7_isRoot_35 (by decide) ?_
          exact ih21 (k + 1) ⟨by omega, by rcases (show (k : Int) = n - 1 ∨ (k : Int) < n - 1 by omega) with q | q; have h1 := rt_one hn (f := f) (by omega) (by omega); rw [show (n - 1).toNat = k by omega] at h1; exact absurd h1 h23; omega⟩ (fun j h1 h2 => by rcases Nat.lt_or_ge j k with q | q; exact hi j h1 q; rw [show j = k by omega]; exact h23) (by omega) _ _ rfl (by omega) ls (lv_sub hl [2, 3, 1, 0] rfl)
    exact loop21 (_ + 1) 1 (by omega) (fun j h1 h2 => by omega) (Nat.lt_succ_self _) _ _ (by rw [pwI, pwI, Int.one_mul, Int.emod_eq_of_lt (by omega) (by omega)]) rfl ls (lv_sub hl [2, 3, 1, 0] rfl)
  · refine rv_if_ne (tgt := 17) hx hb dX7_isRoot_12 (by decide) (by decide) (fun q => absurd q (by decide)) (fun _ => ?_)
    refine rv_iconst hx hb dX7_isRoot_15 ?_
    subst hQ
    exact W.zret (ty := .boolean) hx hb hr (by decide) (fun t9 ht9 hW9 => ⟨_, rfl, Or.inr ⟨rfl, fun q => by have := q.1; have := q.2.1; omega⟩, ht9⟩) (fun _ h => absurd h List.not_mem_nil) dX7_isRoot_16

abbrev rm_X7_squares : Room := { frames := 1, cells := 0, slots := 0, locals := 22 }
set_option maxHeartbeats 4000000 in
set_option maxRecDepth 100000 in
/-- squares -/
theorem c_X7_squares (l : Launch) (o : Nat) (n : Int) (hn : -2147483648 ≤ n ∧ n < 2147483648) : Met l yX7_squares (Cond.code yX7_squares cX7_squares 4 (some .int) :: TB) rm_X7_squares (va_Pc [.ref o, .int (iI n)] (fun _ => True)) (vp_Si (fun r => r = iI (aSquares n))) 0 0 (fun _ => False) := by
  refine enter (cc := cX7_squares) (maxL := 4) (ret := (some .int)) (by decide) (Nat.le_of_ble_eq_true rfl) ?_
  intro p e s m below meth c Q ls hx hb hml hown hts hr hlocks hnm _ hl hQ
  have ht : ∀ w ∈ TB, w.before _ s = true := fun w h => hts w (List.mem_cons_of_mem _ h)
  have hl : lv_has ls 4 [(0, .ref o), (1, .int (iI n))] := hl
  refine lv_iload_n hx hb dX7_squares_0 rfl (lv_at hl 1 rfl) ?_
  refine vp_callSi (W.runS (As := [.int (iI n)]) (rest := []) ⟨hx, hb, hml, hown, hts⟩ (c_X7_isPrime l n (by omega)) (va_cwS 1 hts (gS tb_641 tb_642 tb_8 tb_643) rfl rfl rfl (by decide +kernel) ⟨Nat.le_of_ble_eq_true rfl, Nat.le_of_ble_eq_true rfl⟩) preS0 rfl rfl hl.1 rfl (lv_room (Nat.le_of_ble_eq_true rfl)) dX7_squares_1 ⟨Nat.le_of_ble_eq_true rfl, Nat.le_of_ble_eq_true rfl⟩) (fun r9 hr9 => ?_)
  rcases hr9 with ⟨rfl, hb1⟩ | ⟨rfl, hb1⟩
  · refine rv_if_ne (tgt := 9) hx hb dX7_squares_4 (by decide) (by decide) (fun _ => ?_) (fun q => absurd q (by decide))
    refine rv_iconst hx hb dX7_squares_9 ?_
    refine lv_istore_n (lv' := [(2, .int (iI 0)), (0, .ref o), (1, .int (iI n))]) hx hb dX7_squares_10 rfl hl (by decide) rfl (fun ls hl => ?_)
    refine rv_iconst hx hb dX7_squares_11 ?_
    refine lv_istore_n (lv' := [(3, .int (iI 1)), (2, .int (iI 0)), (0, .ref o), (1, .int (iI n))]) hx hb dX7_squares_12 rfl hl (by decide) rfl (fun ls hl => ?_)
    have hnb := isPr_bd hb1
    have loop13 : ∀ (fuel13 : Nat) (k : Nat), ((k : Int) + 1 ≤ n) → (n - (k : Int)).toNat < fuel13 → ∀ (x2 x3 : Int), x2 = sqBn n k → x3 = ((k : Int) + 1) → ∀ ls : Array Slot, lv_has ls 4 [(0, .ref o), (1, .int (iI n)), (2, .int (iI x2)), (3, .int (iI x3))] → W p l e rm_X7_squares s m [.ref o, .int (iI n)].toArray below meth c s.heap [] 0 0 Q (F0 m 13 ls []) := by
      intro fuel13
      induction fuel13 with
      | zero => intro k hk hfuel13; exact absurd hfuel13 (Nat.not_lt_zero _)
      | succ fuel13 ih13 =>
        intro k hk hfuel13 x2 x3 ex2 ex3 ls hl
        subst ex2 ex3
        refine lv_iload_n hx hb dX7_squares_13 rfl (lv_at hl 3 rfl) ?_
        refine lv_iload_n hx hb dX7_squares_14 rfl (lv_at hl 1 rfl) ?_
        refine rv_icmp_ge (tgt := 34) hx hb dX7_squares_15 (by decide) (by omega) (fun h15 => ?_) (fun h15 => ?_)
        · refine lv_iload_n hx hb dX7_squares_34 rfl (lv_at hl 2 rfl) ?_
          subst hQ
          exact W.iret hx hb hr (fun t9 ht9 hW9 => ⟨_, rfl, by rw [aSquares, cif_pos hb1, sqB, show (n - 1).toNat = k by omega], ht9⟩) (fun _ h => absurd h List.not_mem_nil) dX7_squares_35
        · refine lv_iload_n hx hb dX7_squares_18 rfl (lv_at hl 2 rfl) ?_
          refine rv_iconst hx hb dX7_squares_19 ?_
          refine lv_iload_n hx hb dX7_squares_20 rfl (lv_at hl 3 rfl) ?_
          refine lv_iload_n hx hb dX7_squares_21 rfl (lv_at hl 3 rfl) ?_
          have hq : ((k : Int) + 1) * ((k : Int) + 1) ≤ 1000 * 1000 := Int.mul_le_mul (by omega) (by omega) (by omega) (by omega)
          have hq0 : 0 ≤ ((k : Int) + 1) * ((k : Int) + 1) := Int.mul_nonneg (by omega) (by omega)
          refine rv_imul hx hb dX7_squares_22 ?_
          refine lv_iload_n hx hb dX7_squares_23 rfl (lv_at hl 1 rfl) ?_
          refine rv_irem hx hb dX7_squares_24 (by omega) ?_
          have hm24 := md_bd (x := (((k : Int) + 1) * ((k : Int) + 1))) (y := n) (by omega)
          refine rv_ishl hx hb dX7_squares_25 ?_
          refine rv_ior hx hb dX7_squares_26 ?_
          refine lv_istore_n (lv' := [(2, .int (iI (orI (sqBn n k) (shlI 1 ((((k : Int) + 1) * ((k : Int) + 1)) % n))))), (0, .ref o), (1, .int (iI n)), (3, .int (iI ((k : Int) + 1)))]) hx hb dX7_squares_27 rfl hl (by decide) rfl (fun ls hl => ?_)
          refine rv_iinc (k := 3) (lv' := [(3, .int (iI (((k : Int) + 1) + 1))), (2, .int (iI (orI (sqBn n k) (shlI 1 ((((k : Int) + 1) * ((k : Int) + 1)) % n))))), (0, .ref o), (1, .int (iI n))]) hx hb dX7_squares_28 hl rfl (by decide) rfl (fun ls hl => ?_)
          refine lv_goto (tgt := 13) hx hb dX7_squares_31 (by decide) ?_
          exact ih13 (k + 1) (by omega) (by omega) _ _ rfl (by omega) ls (lv_sub hl [2, 3, 1, 0] rfl)
    exact loop13 (_ + 1) 0 (by omega) (Nat.lt_succ_self _) _ _ rfl rfl ls (lv_sub hl [2, 3, 1, 0] rfl)
  · refine rv_if_ne (tgt := 9) hx hb dX7_squares_4 (by decide) (by decide) (fun q => absurd q (by decide)) (fun _ => ?_)
    refine rv_iconst hx hb dX7_squares_7 ?_
    subst hQ
    exact W.iret hx hb hr (fun t9 ht9 hW9 => ⟨_, rfl, by rw [aSquares, cif_neg hb1], ht9⟩) (fun _ h => absurd h List.not_mem_nil) dX7_squares_8

abbrev rm_X7_sign : Room := { frames := 1, cells := 0, slots := 0, locals := 25 }
set_option maxHeartbeats 4000000 in
set_option maxRecDepth 100000 in
/-- sign -/
theorem c_X7_sign (l : Launch) (o : Nat) (a : Int) (n : Int) (ha : -2147483648 ≤ a ∧ a < 2147483648) (hn : -2147483648 ≤ n ∧ n < 2147483648) : Met l yX7_sign (Cond.code yX7_sign cX7_sign 3 (some .int) :: TB) rm_X7_sign (va_Pc [.ref o, .int (iI a), .int (iI n)] (fun _ => True)) (vp_Si (fun r => r = iI (aSign a n))) 0 0 (fun _ => False) := by
  refine enter (cc := cX7_sign) (maxL := 3) (ret := (some .int)) (by decide) (Nat.le_of_ble_eq_true rfl) ?_
  intro p e s m below meth c Q ls hx hb hml hown hts hr hlocks hnm _ hl hQ
  have ht : ∀ w ∈ TB, w.before _ s = true := fun w h => hts w (List.mem_cons_of_mem _ h)
  have hl : lv_has ls 3 [(0, .ref o), (1, .int (iI a)), (2, .int (iI n))] := hl
  refine lv_iload_n hx hb dX7_sign_0 rfl (lv_at hl 1 rfl) ?_
  refine rv_i2l hx hb dX7_sign_1 (by omega) ?_
  refine rv_lconst (z := 0) hx hb dX7_sign_2 (by decide) ?_
  refine lv_ldc2 (v := lI 999) hx hb hown (ht _ tb_648) dX7_sign_3 ?_
  refine vp_callSi (W.runS (As := [.long (lI a), .long (lI 0), .long (lI 999)]) (rest := []) ⟨hx, hb, hml, hown, hts⟩ (c_X7_in l a 0 999 (by omega) (by omega) (by omega)) (va_cwS 3 hts (gS tb_649 tb_650 tb_8 tb_651) rfl rfl rfl (by decide +kernel) ⟨Nat.le_of_ble_eq_true rfl, Nat.le_of_ble_eq_true rfl⟩) preS0 rfl rfl hl.1 rfl (lv_room (Nat.le_of_ble_eq_true rfl)) dX7_sign_6 ⟨Nat.le_of_ble_eq_true rfl, Nat.le_of_ble_eq_true rfl⟩) (fun r9 hr9 => ?_)
  rcases hr9 with ⟨rfl, hb6⟩ | ⟨rfl, hb6⟩
  · refine rv_if_eq (tgt := 29) hx hb dX7_sign_9 (by decide) (by decide) (fun q => absurd q (by decide)) (fun _ => ?_)
    refine lv_iload_n hx hb dX7_sign_12 rfl (lv_at hl 2 rfl) ?_
    refine vp_callSi (W.runS (As := [.int (iI n)]) (rest := []) ⟨hx, hb, hml, hown, hts⟩ (c_X7_isPrime l n (by omega)) (va_cwS 1 hts (gS tb_641 tb_642 tb_8 tb_643) rfl rfl rfl (by decide +kernel) ⟨Nat.le_of_ble_eq_true rfl, Nat.le_of_ble_eq_true rfl⟩) preS0 rfl rfl hl.1 rfl (lv_room (Nat.le_of_ble_eq_true rfl)) dX7_sign_13 ⟨Nat.le_of_ble_eq_true rfl, Nat.le_of_ble_eq_true rfl⟩) (fun r9 hr9 => ?_)
    rcases hr9 with ⟨rfl, hb13⟩ | ⟨rfl, hb13⟩
    · refine rv_if_eq (tgt := 29) hx hb dX7_sign_16 (by decide) (by decide) (fun q => absurd q (by decide)) (fun _ => ?_)
      have hnb := isPr_bd hb13
      refine lv_iload_n hx hb dX7_sign_19 rfl (lv_at hl 1 rfl) ?_
      refine lv_iload_n hx hb dX7_sign_20 rfl (lv_at hl 2 rfl) ?_
      refine vp_callSi (W.runS (As := [.int (iI a), .int (iI n)]) (rest := []) ⟨hx, hb, hml, hown, hts⟩ (c_X7_signOf l a n (by omega) (by omega)) (va_cwS 2 hts (gS tb_652 tb_653 tb_8 tb_654) rfl rfl rfl (by decide +kernel) ⟨Nat.le_of_ble_eq_true rfl, Nat.le_of_ble_eq_true rfl⟩) preS0 rfl rfl hl.1 rfl (lv_room (Nat.le_of_ble_eq_true rfl)) dX7_sign_21 ⟨Nat.le_of_ble_eq_true rfl, Nat.le_of_ble_eq_true rfl⟩) (fun r9 hr9 => ?_)
      obtain ⟨rfl, hx21_0⟩ := hr9
      refine rv_iconst hx hb dX7_sign_24 ?_
      refine rv_iadd hx hb dX7_sign_25 ?_
      refine lv_goto (tgt := 30) hx hb dX7_sign_26 (by decide) ?_
      subst hQ
      exact W.iret hx hb hr (fun t9 ht9 hW9 => ⟨_, rfl, by rw [aSign, cif_pos ⟨hb6, hb13⟩], ht9⟩) (fun _ h => absurd h List.not_mem_nil) dX7_sign_30
    · refine rv_if_eq (tgt := 29) hx hb dX7_sign_16 (by decide) (by decide) (fun _ => ?_) (fun q => absurd q (by decide))
      refine rv_iconst hx hb dX7_sign_29 ?_
      subst hQ
      exact W.iret hx hb hr (fun t9 ht9 hW9 => ⟨_, rfl, by rw [aSign, cif_neg (fun q => by first | exact hb6 q.1 | exact hb13 q.2)], ht9⟩) (fun _ h => absurd h List.not_mem_nil) dX7_sign_30
  · refine rv_if_eq (tgt := 29) hx hb dX7_sign_9 (by decide) (by decide) (fun _ => ?_) (fun q => absurd q (by decide))
    refine rv_iconst hx hb dX7_sign_29 ?_
    subst hQ
    exact W.iret hx hb hr (fun t9 ht9 hW9 => ⟨_, rfl, by rw [aSign, cif_neg (fun q => by first | exact hb6 q.1 | exact hb13 q.2)], ht9⟩) (fun _ h => absurd h List.not_mem_nil) dX7_sign_30

abbrev rm_X7_root : Room := { frames := 2, cells := 0, slots := 0, locals := 48 }
set_option maxHeartbeats 4000000 in
set_option maxRecDepth 100000 in
/-- root -/
theorem c_X7_root (l : Launch) (o : Nat) (n : Int) (what : Int) (hn : -2147483648 ≤ n ∧ n < 2147483648) (hw : -2147483648 ≤ what ∧ what < 2147483648) : Met l yX7_root (Cond.code yX7_root cX7_root 7 (some .int) :: TB) rm_X7_root (va_Pc [.ref o, .int (iI n), .int (iI what)] (fun _ => True)) (vp_Si (fun r => r = iI (aRoot n what))) 0 0 (fun _ => False) := by
  refine enter (cc := cX7_root) (maxL := 7) (ret := (some .int)) (by decide) (Nat.le_of_ble_eq_true rfl) ?_
  intro p e s m below meth c Q ls hx hb hml hown hts hr hlocks hnm _ hl hQ
  have ht : ∀ w ∈ TB, w.before _ s = true := fun w h => hts w (List.mem_cons_of_mem _ h)
  have hl : lv_has ls 7 [(0, .ref o), (1, .int (iI n)), (2, .int (iI what))] := hl
  refine lv_iload_n hx hb dX7_root_0 rfl (lv_at hl 1 rfl) ?_
  refine vp_callSi (W.runS (As := [.int (iI n)]) (rest := []) ⟨hx, hb, hml, hown, hts⟩ (c_X7_isPrime l n (by omega)) (va_cwS 1 hts (gS tb_641 tb_642 tb_8 tb_643) rfl rfl rfl (by decide +kernel) ⟨Nat.le_of_ble_eq_true rfl, Nat.le_of_ble_eq_true rfl⟩) preS0 rfl rfl hl.1 rfl (lv_room (Nat.le_of_ble_eq_true rfl)) dX7_root_1 ⟨Nat.le_of_ble_eq_true rfl, Nat.le_of_ble_eq_true rfl⟩) (fun r9 hr9 => ?_)
  rcases hr9 with ⟨rfl, hb1⟩ | ⟨rfl, hb1⟩
  · refine rv_if_eq (tgt := 17) hx hb dX7_root_4 (by decide) (by decide) (fun q => absurd q (by decide)) (fun _ => ?_)
    refine lv_iload_n hx hb dX7_root_7 rfl (lv_at hl 2 rfl) ?_
    refine rv_i2l hx hb dX7_root_8 (by omega) ?_
    refine rv_lconst (z := 0) hx hb dX7_root_9 (by decide) ?_
    refine rv_lconst (z := 1) hx hb dX7_root_10 (by decide) ?_
    refine vp_callSi (W.runS (As := [.long (lI what), .long (lI 0), .long (lI 1)]) (rest := []) ⟨hx, hb, hml, hown, hts⟩ (c_X7_in l what 0 1 (by omega) (by omega) (by omega)) (va_cwS 3 hts (gS tb_649 tb_650 tb_8 tb_651) rfl rfl rfl (by decide +kernel) ⟨Nat.le_of_ble_eq_true rfl, Nat.le_of_ble_eq_true rfl⟩) preS0 rfl rfl hl.1 rfl (lv_room (Nat.le_of_ble_eq_true rfl)) dX7_root_11 ⟨Nat.le_of_ble_eq_true rfl, Nat.le_of_ble_eq_true rfl⟩) (fun r9 hr9 => ?_)
    rcases hr9 with ⟨rfl, hb11⟩ | ⟨rfl, hb11⟩
    · refine rv_if_ne (tgt := 19) hx hb dX7_root_14 (by decide) (by decide) (fun _ => ?_) (fun q => absurd q (by decide))
      refine rv_iconst hx hb dX7_root_19 ?_
      refine lv_istore_n (lv' := [(3, .int (iI 0)), (0, .ref o), (1, .int (iI n)), (2, .int (iI what))]) hx hb dX7_root_20 rfl hl (by decide) rfl (fun ls hl => ?_)
      refine rv_iconst hx hb dX7_root_21 ?_
      refine lv_istore (lv' := [(4, .int (iI 0)), (3, .int (iI 0)), (0, .ref o), (1, .int (iI n)), (2, .int (iI what))]) hx hb dX7_root_22 hl (by decide) rfl (fun ls hl => ?_)
      refine lv_iload_n hx hb dX7_root_24 rfl (lv_at hl 3 rfl) ?_
      refine rv_iconst hx hb dX7_root_25 ?_
      refine rv_isub hx hb dX7_root_26 ?_
      refine lv_istore (lv' := [(5, .int (iI (n - 1))), (4, .int (iI 0)), (3, .int (iI 0)), (0, .ref o), (1, .int (iI n)), (2, .int (iI what))]) hx hb dX7_root_27 hl (by decide) rfl (fun ls hl => ?_)
      have hnb := isPr_bd hb1
      have hrt := rtM_pr hb1
      have loop29 : ∀ (fuel29 : Nat) (k : Nat) (mm : Int) (lw : Int), (1 ≤ k + 1 ∧ (k : Int) + 1 ≤ n - 1 + 1) → (cntM n (k - 1) mm = cntR n) → (lowM n (k - 1) lw = lowR n) → k < fuel29 → ∀ (x5 : Int), x5 = (k : Int) → ∀ ls : Array Slot, lv_has ls 7 [(0, .ref o), (1, .int (iI n)), (2, .int (iI what)), (3, .int (iI mm)), (4, .int (iI lw)), (5, .int (iI x5))] → W p l e rm_X7_root s m [.ref o, .int (iI n), .int (iI what)].toArray below meth c s.heap [] 0 0 Q (F0 m 29 ls []) := by
        intro fuel29
        induction fuel29 with
        | zero => intro k mm lw hk hq1 hq2 hfuel29; exact absurd hfuel29 (Nat.not_lt_zero _)
        | succ fuel29 ih29 =>
          intro k mm lw hk hq1 hq2 hfuel29 x5 ex5 ls hl
          subst ex5
          refine lv_iload hx hb dX7_root_29 (lv_at hl 5 rfl) ?_
          refine rv_iconst hx hb dX7_root_31 ?_
          refine rv_icmp_le (tgt := 76) hx hb dX7_root_32 (by decide) (by omega) (fun h32 => ?_) (fun h32 => ?_)
          · refine lv_iload_n hx hb dX7_root_76 rfl (lv_at hl 2 rfl) ?_
            refine rv_if_ne (tgt := 85) hx hb dX7_root_77 (by decide) (by omega) (fun h77 => ?_) (fun h77 => ?_)
            · refine lv_iload_n hx hb dX7_root_85 rfl (lv_at hl 3 rfl) ?_
              subst hQ
              exact W.iret hx hb hr (fun t9 ht9 hW9 => ⟨_, rfl, by rw [show k - 1 = 0 by omega] at hq1 hq2; rw [aRoot, cif_pos ⟨hb1, hb11⟩]; rw [cif_neg (by omega)]; exact congrArg iI hq1, ht9⟩) (fun _ h => absurd h List.not_mem_nil) dX7_root_86
            · refine lv_iload hx hb dX7_root_80 (lv_at hl 4 rfl) ?_
              refine lv_goto (tgt := 86) hx hb dX7_root_82 (by decide) ?_
              subst hQ
              exact W.iret hx hb hr (fun t9 ht9 hW9 => ⟨_, rfl, by rw [show k - 1 = 0 by omega] at hq1 hq2; rw [aRoot, cif_pos ⟨hb1, hb11⟩]; rw [cif_pos (by omega)]; exact congrArg iI hq2, ht9⟩) (fun _ h => absurd h List.not_mem_nil) dX7_root_86
          · refine lv_iload hx hb dX7_root_35 (lv_at hl 5 rfl) ?_
            refine lv_iload_n hx hb dX7_root_37 rfl (lv_at hl 1 rfl) ?_
            refine vp_callSi (W.runS (As := [.int (iI (k : Int)), .int (iI n)]) (rest := []) ⟨hx, hb, hml, hown, hts⟩ (c_X7_isRoot l (k : Int) n (by omega) hb1) (va_cwS 2 hts (gS tb_659 tb_660 tb_8 tb_661) rfl rfl rfl (by decide +kernel) ⟨Nat.le_of_ble_eq_true rfl, Nat.le_of_ble_eq_true rfl⟩) preS0 rfl rfl hl.1 rfl (lv_room (Nat.le_of_ble_eq_true rfl)) dX7_root_38 ⟨Nat.le_of_ble_eq_true rfl, Nat.le_of_ble_eq_true rfl⟩) (fun r9 hr9 => ?_)
            rcases hr9 with ⟨rfl, hb38⟩ | ⟨rfl, hb38⟩
            · refine lv_istore (lv' := [(6, .int (iI 1)), (0, .ref o), (1, .int (iI n)), (2, .int (iI what)), (3, .int (iI mm)), (4, .int (iI lw)), (5, .int (iI (k : Int)))]) hx hb dX7_root_41 hl (by decide) rfl (fun ls hl => ?_)
              refine lv_iload_n hx hb dX7_root_43 rfl (lv_at hl 4 rfl) ?_
              refine lv_iload hx hb dX7_root_44 (lv_at hl 0 rfl) ?_
              refine rv_if_eq (tgt := 53) hx hb dX7_root_46 (by decide) (by decide) (fun q => absurd q (by decide)) (fun _ => ?_)
              refine rv_iconst hx hb dX7_root_49 ?_
              refine lv_goto (tgt := 54) hx hb dX7_root_50 (by decide) ?_
              refine rv_iadd hx hb dX7_root_54 ?_
              refine lv_istore_n (lv' := [(3, .int (iI (mm + 1))), (6, .int (iI 1)), (0, .ref o), (1, .int (iI n)), (2, .int (iI what)), (4, .int (iI lw)), (5, .int (iI (k : Int)))]) hx hb dX7_root_55 rfl hl (by decide) rfl (fun ls hl => ?_)
              refine lv_iload hx hb dX7_root_56 (lv_at hl 1 rfl) ?_
              refine rv_if_eq (tgt := 66) hx hb dX7_root_58 (by decide) (by decide) (fun q => absurd q (by decide)) (fun _ => ?_)
              refine lv_iload hx hb dX7_root_61 (lv_at hl 6 rfl) ?_
              refine lv_goto (tgt := 68) hx hb dX7_root_63 (by decide) ?_
              refine lv_istore (lv' := [(4, .int (iI (k : Int))), (3, .int (iI (mm + 1))), (6, .int (iI 1)), (0, .ref o), (1, .int (iI n)), (2, .int (iI what)), (5, .int (iI (k : Int)))]) hx hb dX7_root_68 hl (by decide) rfl (fun ls hl => ?_)
              refine rv_iinc (k := 6) (lv' := [(5, .int (iI ((k : Int) + (-1)))), (4, .int (iI (k : Int))), (3, .int (iI (mm + 1))), (6, .int (iI 1)), (0, .ref o), (1, .int (iI n)), (2, .int (iI what))]) hx hb dX7_root_70 hl rfl (by decide) rfl (fun ls hl => ?_)
              refine lv_goto (tgt := 29) hx hb dX7_root_73 (by decide) ?_
              exact ih29 (k - 1) (mm + 1) (k : Int) (by omega) (by rw [show k - 1 = (k - 1 - 1) + 1 by omega, cntM, show (((k - 1 - 1 : Nat) : Int) + 2) = (k : Int) by omega] at hq1; first | (rw [if_pos (show 2 ≤ (k : Int) ∧ (k : Int) < n ∧ rootP (k : Int) n = true from hb38)] at hq1; exact hq1) | (rw [if_neg (show ¬ (2 ≤ (k : Int) ∧ (k : Int) < n ∧ rootP (k : Int) n = true) from hb38)] at hq1; first | exact hq1 | (rw [Int.add_zero]; exact hq1))) (by rw [show k - 1 = (k - 1 - 1) + 1 by omega, lowM, show (((k - 1 - 1 : Nat) : Int) + 2) = (k : Int) by omega] at hq2; first | (rw [if_pos (show 2 ≤ (k : Int) ∧ (k : Int) < n ∧ rootP (k : Int) n = true from hb38)] at hq2; exact hq2) | (rw [if_neg (show ¬ (2 ≤ (k : Int) ∧ (k : Int) < n ∧ rootP (k : Int) n = true) from hb38)] at hq2; exact hq2)) (by omega) _ (by omega) ls (lv_sub hl [4, 5, 6, 2, 1, 0] rfl)
            · refine lv_istore (lv' := [(6, .int (iI 0)), (0, .ref o), (1, .int (iI n)), (2, .int (iI what)), (3, .int (iI mm)), (4, .int (iI lw)), (5, .int (iI (k : Int)))]) hx hb dX7_root_41 hl (by decide) rfl (fun ls hl => ?_)
              refine lv_iload_n hx hb dX7_root_43 rfl (lv_at hl 4 rfl) ?_
              refine lv_iload hx hb dX7_root_44 (lv_at hl 0 rfl) ?_
              refine rv_if_eq (tgt := 53) hx hb dX7_root_46 (by decide) (by decide) (fun _ => ?_) (fun q => absurd q (by decide))
              refine rv_iconst hx hb dX7_root_53 ?_
              refine rv_iadd hx hb dX7_root_54 ?_
              refine lv_istore_n (lv' := [(3, .int (iI (mm + 0))), (6, .int (iI 0)), (0, .ref o), (1, .int (iI n)), (2, .int (iI what)), (4, .int (iI lw)), (5, .int (iI (k : Int)))]) hx hb dX7_root_55 rfl hl (by decide) rfl (fun ls hl => ?_)
              refine lv_iload hx hb dX7_root_56 (lv_at hl 1 rfl) ?_
              refine rv_if_eq (tgt := 66) hx hb dX7_root_58 (by decide) (by decide) (fun _ => ?_) (fun q => absurd q (by decide))
              refine lv_iload hx hb dX7_root_66 (lv_at hl 5 rfl) ?_
              refine lv_istore (lv' := [(4, .int (iI lw)), (3, .int (iI (mm + 0))), (6, .int (iI 0)), (0, .ref o), (1, .int (iI n)), (2, .int (iI what)), (5, .int (iI (k : Int)))]) hx hb dX7_root_68 hl (by decide) rfl (fun ls hl => ?_)
              refine rv_iinc (k := 6) (lv' := [(5, .int (iI ((k : Int) + (-1)))), (4, .int (iI lw)), (3, .int (iI (mm + 0))), (6, .int (iI 0)), (0, .ref o), (1, .int (iI n)), (2, .int (iI what))]) hx hb dX7_root_70 hl rfl (by decide) rfl (fun ls hl => ?_)
              refine lv_goto (tgt := 29) hx hb dX7_root_73 (by decide) ?_
              exact ih29 (k - 1) (mm + 0) lw (by omega) (by rw [show k - 1 = (k - 1 - 1) + 1 by omega, cntM, show (((k - 1 - 1 : Nat) : Int) + 2) = (k : Int) by omega] at hq1; first | (rw [if_pos (show 2 ≤ (k : Int) ∧ (k : Int) < n ∧ rootP (k : Int) n = true from hb38)] at hq1; exact hq1) | (rw [if_neg (show ¬ (2 ≤ (k : Int) ∧ (k : Int) < n ∧ rootP (k : Int) n = true) from hb38)] at hq1; first | exact hq1 | (rw [Int.add_zero]; exact hq1))) (by rw [show k - 1 = (k - 1 - 1) + 1 by omega, lowM, show (((k - 1 - 1 : Nat) : Int) + 2) = (k : Int) by omega] at hq2; first | (rw [if_pos (show 2 ≤ (k : Int) ∧ (k : Int) < n ∧ rootP (k : Int) n = true from hb38)] at hq2; exact hq2) | (rw [if_neg (show ¬ (2 ≤ (k : Int) ∧ (k : Int) < n ∧ rootP (k : Int) n = true) from hb38)] at hq2; exact hq2)) (by omega) _ (by omega) ls (lv_sub hl [4, 5, 6, 2, 1, 0] rfl)
      exact loop29 (_ + 1) ((n - 1).toNat) 0 0 (by omega) (by rw [show (n - 1).toNat - 1 = (n - 2).toNat by omega]; exact hrt.2) (by rw [show (n - 1).toNat - 1 = (n - 2).toNat by omega]; exact hrt.1) (Nat.lt_succ_self _) _ (by omega) ls (lv_sub hl [3, 4, 5, 2, 1, 0] rfl)
    · refine rv_if_ne (tgt := 19) hx hb dX7_root_14 (by decide) (by decide) (fun q => absurd q (by decide)) (fun _ => ?_)
      refine rv_iconst hx hb dX7_root_17 ?_
      subst hQ
      exact W.iret hx hb hr (fun t9 ht9 hW9 => ⟨_, rfl, by rw [aRoot, cif_neg (fun q => by first | exact hb1 q.1 | exact hb11 q.2)], ht9⟩) (fun _ h => absurd h List.not_mem_nil) dX7_root_18
  · refine rv_if_eq (tgt := 17) hx hb dX7_root_4 (by decide) (by decide) (fun _ => ?_) (fun q => absurd q (by decide))
    refine rv_iconst hx hb dX7_root_17 ?_
    subst hQ
    exact W.iret hx hb hr (fun t9 ht9 hW9 => ⟨_, rfl, by rw [aRoot, cif_neg (fun q => by first | exact hb1 q.1 | exact hb11 q.2)], ht9⟩) (fun _ h => absurd h List.not_mem_nil) dX7_root_18

abbrev rm_X7_law : Room := { frames := 1, cells := 0, slots := 0, locals := 23 }
set_option maxHeartbeats 4000000 in
set_option maxRecDepth 100000 in
/-- law -/
theorem c_X7_law (l : Launch) (o : Nat) (p : Int) (q : Int) (hp : -2147483648 ≤ p ∧ p < 2147483648) (hq : -2147483648 ≤ q ∧ q < 2147483648) : Met l yX7_law (Cond.code yX7_law cX7_law 3 (some .int) :: TB) rm_X7_law (va_Pc [.ref o, .int (iI p), .int (iI q)] (fun _ => True)) (vp_Si (fun r => r = iI (aLaw p q))) 0 0 (fun _ => False) := by
  refine enter (cc := cX7_law) (maxL := 3) (ret := (some .int)) (by decide) (Nat.le_of_ble_eq_true rfl) ?_
  intro p0 e s m below meth c Q ls hx hb hml hown hts hr hlocks hnm _ hl hQ
  have ht : ∀ w ∈ TB, w.before _ s = true := fun w h => hts w (List.mem_cons_of_mem _ h)
  have hl : lv_has ls 3 [(0, .ref o), (1, .int (iI p)), (2, .int (iI q))] := hl
  refine lv_iload_n hx hb dX7_law_0 rfl (lv_at hl 1 rfl) ?_
  refine vp_callSi (W.runS (As := [.int (iI p)]) (rest := []) ⟨hx, hb, hml, hown, hts⟩ (c_X7_isPrime l p (by omega)) (va_cwS 1 hts (gS tb_641 tb_642 tb_8 tb_643) rfl rfl rfl (by decide +kernel) ⟨Nat.le_of_ble_eq_true rfl, Nat.le_of_ble_eq_true rfl⟩) preS0 rfl rfl hl.1 rfl (lv_room (Nat.le_of_ble_eq_true rfl)) dX7_law_1 ⟨Nat.le_of_ble_eq_true rfl, Nat.le_of_ble_eq_true rfl⟩) (fun r9 hr9 => ?_)
  rcases hr9 with ⟨rfl, hb1⟩ | ⟨rfl, hb1⟩
  · refine rv_if_eq (tgt := 35) hx hb dX7_law_4 (by decide) (by decide) (fun q => absurd q (by decide)) (fun _ => ?_)
    refine lv_iload_n hx hb dX7_law_7 rfl (lv_at hl 2 rfl) ?_
    refine vp_callSi (W.runS (As := [.int (iI q)]) (rest := []) ⟨hx, hb, hml, hown, hts⟩ (c_X7_isPrime l q (by omega)) (va_cwS 1 hts (gS tb_641 tb_642 tb_8 tb_643) rfl rfl rfl (by decide +kernel) ⟨Nat.le_of_ble_eq_true rfl, Nat.le_of_ble_eq_true rfl⟩) preS0 rfl rfl hl.1 rfl (lv_room (Nat.le_of_ble_eq_true rfl)) dX7_law_8 ⟨Nat.le_of_ble_eq_true rfl, Nat.le_of_ble_eq_true rfl⟩) (fun r9 hr9 => ?_)
    rcases hr9 with ⟨rfl, hb8⟩ | ⟨rfl, hb8⟩
    · refine rv_if_eq (tgt := 35) hx hb dX7_law_11 (by decide) (by decide) (fun q => absurd q (by decide)) (fun _ => ?_)
      refine lv_iload_n hx hb dX7_law_14 rfl (lv_at hl 1 rfl) ?_
      refine lv_iload_n hx hb dX7_law_15 rfl (lv_at hl 2 rfl) ?_
      refine rv_icmp_eq (tgt := 35) hx hb dX7_law_16 (by decide) (by omega) (fun h16 => ?_) (fun h16 => ?_)
      · refine rv_iconst hx hb dX7_law_35 ?_
        subst hQ
        exact W.iret hx hb hr (fun t9 ht9 hW9 => ⟨_, rfl, by rw [aLaw, cif_neg (fun z => by first | exact hb1 z.1 | exact hb8 z.2.1 | exact z.2.2 h16)], ht9⟩) (fun _ h => absurd h List.not_mem_nil) dX7_law_36
      · have hnb := isPr_bd hb1
        have hnc := isPr_bd hb8
        refine lv_iload_n hx hb dX7_law_19 rfl (lv_at hl 1 rfl) ?_
        refine lv_iload_n hx hb dX7_law_20 rfl (lv_at hl 2 rfl) ?_
        refine vp_callSi (W.runS (As := [.int (iI p), .int (iI q)]) (rest := []) ⟨hx, hb, hml, hown, hts⟩ (c_X7_signOf l p q (by omega) (by omega)) (va_cwS 2 hts (gS tb_652 tb_653 tb_8 tb_654) rfl rfl rfl (by decide +kernel) ⟨Nat.le_of_ble_eq_true rfl, Nat.le_of_ble_eq_true rfl⟩) preS0 rfl rfl hl.1 rfl (lv_room (Nat.le_of_ble_eq_true rfl)) dX7_law_21 ⟨Nat.le_of_ble_eq_true rfl, Nat.le_of_ble_eq_true rfl⟩) (fun r9 hr9 => ?_)
        obtain ⟨rfl, hx21_0⟩ := hr9
        refine lv_iload_n hx hb dX7_law_24 rfl (lv_at hl 2 rfl) ?_
        refine lv_iload_n hx hb dX7_law_25 rfl (lv_at hl 1 rfl) ?_
        refine vp_callSi (W.runS (As := [.int (iI q), .int (iI p)]) (rest := [.int (iI (sg p q))]) ⟨hx, hb, hml, hown, hts⟩ (c_X7_signOf l q p (by omega) (by omega)) (va_cwS 2 hts (gS tb_652 tb_653 tb_8 tb_654) rfl rfl rfl (by decide +kernel) ⟨Nat.le_of_ble_eq_true rfl, Nat.le_of_ble_eq_true rfl⟩) preS0 rfl rfl hl.1 rfl (lv_room (Nat.le_of_ble_eq_true rfl)) dX7_law_26 ⟨Nat.le_of_ble_eq_true rfl, Nat.le_of_ble_eq_true rfl⟩) (fun r9 hr9 => ?_)
        obtain ⟨rfl, hx26_0⟩ := hr9
        refine rv_imul hx hb dX7_law_29 ?_
        refine rv_iconst hx hb dX7_law_30 ?_
        refine rv_iadd hx hb dX7_law_31 ?_
        refine lv_goto (tgt := 36) hx hb dX7_law_32 (by decide) ?_
        subst hQ
        exact W.iret hx hb hr (fun t9 ht9 hW9 => ⟨_, rfl, by rw [aLaw, cif_pos ⟨hb1, hb8, h16⟩], ht9⟩) (fun _ h => absurd h List.not_mem_nil) dX7_law_36
    · refine rv_if_eq (tgt := 35) hx hb dX7_law_11 (by decide) (by decide) (fun _ => ?_) (fun q => absurd q (by decide))
      refine rv_iconst hx hb dX7_law_35 ?_
      subst hQ
      exact W.iret hx hb hr (fun t9 ht9 hW9 => ⟨_, rfl, by rw [aLaw, cif_neg (fun z => by first | exact hb1 z.1 | exact hb8 z.2.1 | exact z.2.2 h16)], ht9⟩) (fun _ h => absurd h List.not_mem_nil) dX7_law_36
  · refine rv_if_eq (tgt := 35) hx hb dX7_law_4 (by decide) (by decide) (fun _ => ?_) (fun q => absurd q (by decide))
    refine rv_iconst hx hb dX7_law_35 ?_
    subst hQ
    exact W.iret hx hb hr (fun t9 ht9 hW9 => ⟨_, rfl, by rw [aLaw, cif_neg (fun z => by first | exact hb1 z.1 | exact hb8 z.2.1 | exact z.2.2 h16)], ht9⟩) (fun _ h => absurd h List.not_mem_nil) dX7_law_36
end
