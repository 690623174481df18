section
-- ===== PART A: goes FIRST, ahead of the names: the tables' words, and 'selects' of the private methods out of them =====
/-- a private method of a class that the tables say can be made, by its rows of tables_1 -/
def lw_okq (q : MethodName × Nat) : Prop := (q.1.cls ≠ "java/lang/invoke/MethodHandle" ∧ q.1.cls ≠ "java/lang/invoke/VarHandle") ∧ Cond.instantiable q.1.cls q.2 ∈ tables_1 ∧ Cond.privateMethod q.1 ∈ tables_1 ∧ Cond.instanceMethod q.1 ∈ tables_1
theorem lw_p0 : lw_okq (⟨"SoundWells$Reader", "readItem", "(I)I"⟩, 8) := ⟨⟨by decide +kernel, by decide +kernel⟩, List.mem_of_getElem? (i := 21) (by decide +kernel), List.mem_of_getElem? (i := 235) (by decide +kernel), List.mem_of_getElem? (i := 236) (by decide +kernel)⟩
theorem lw_p1 : lw_okq (⟨"SoundWells$Reader", "letterAt", "(I)C"⟩, 8) := ⟨⟨by decide +kernel, by decide +kernel⟩, List.mem_of_getElem? (i := 21) (by decide +kernel), List.mem_of_getElem? (i := 239) (by decide +kernel), List.mem_of_getElem? (i := 240) (by decide +kernel)⟩
theorem lw_p2 : lw_okq (⟨"SoundWells$Reader", "endOfFigures", "(I)I"⟩, 8) := ⟨⟨by decide +kernel, by decide +kernel⟩, List.mem_of_getElem? (i := 21) (by decide +kernel), List.mem_of_getElem? (i := 246) (by decide +kernel), List.mem_of_getElem? (i := 247) (by decide +kernel)⟩
theorem lw_p3 : lw_okq (⟨"SoundWells$Reader", "isFigure", "(I)Z"⟩, 8) := ⟨⟨by decide +kernel, by decide +kernel⟩, List.mem_of_getElem? (i := 21) (by decide +kernel), List.mem_of_getElem? (i := 250) (by decide +kernel), List.mem_of_getElem? (i := 251) (by decide +kernel)⟩
theorem lw_p4 : lw_okq (⟨"SoundWells$Reader", "valueOf", "(II)I"⟩, 8) := ⟨⟨by decide +kernel, by decide +kernel⟩, List.mem_of_getElem? (i := 21) (by decide +kernel), List.mem_of_getElem? (i := 254) (by decide +kernel), List.mem_of_getElem? (i := 255) (by decide +kernel)⟩
theorem lw_p5 : lw_okq (⟨"SoundWells$Reader", "keepItem", "(C)Z"⟩, 8) := ⟨⟨by decide +kernel, by decide +kernel⟩, List.mem_of_getElem? (i := 21) (by decide +kernel), List.mem_of_getElem? (i := 258) (by decide +kernel), List.mem_of_getElem? (i := 259) (by decide +kernel)⟩
theorem lw_p6 : lw_okq (⟨"SoundWells$Reader", "keepUnit", "()Z"⟩, 8) := ⟨⟨by decide +kernel, by decide +kernel⟩, List.mem_of_getElem? (i := 21) (by decide +kernel), List.mem_of_getElem? (i := 262) (by decide +kernel), List.mem_of_getElem? (i := 263) (by decide +kernel)⟩
theorem lw_p7 : lw_okq (⟨"SoundWells$Reader", "keepBoard", "()Z"⟩, 8) := ⟨⟨by decide +kernel, by decide +kernel⟩, List.mem_of_getElem? (i := 21) (by decide +kernel), List.mem_of_getElem? (i := 269) (by decide +kernel), List.mem_of_getElem? (i := 270) (by decide +kernel)⟩
theorem lw_p8 : lw_okq (⟨"SoundWells", "change", "(LSoundWells$Plan;)V"⟩, 6) := ⟨⟨by decide +kernel, by decide +kernel⟩, List.mem_of_getElem? (i := 13) (by decide +kernel), List.mem_of_getElem? (i := 349) (by decide +kernel), List.mem_of_getElem? (i := 350) (by decide +kernel)⟩
theorem lw_p9 : lw_okq (⟨"SoundWells$Panel", "differenceAt", "(II)I"⟩, 7) := ⟨⟨by decide +kernel, by decide +kernel⟩, List.mem_of_getElem? (i := 127) (by decide +kernel), List.mem_of_getElem? (i := 459) (by decide +kernel), List.mem_of_getElem? (i := 460) (by decide +kernel)⟩
theorem lw_p10 : lw_okq (⟨"SoundWells$Saw", "start", "(LSoundWells$Plan;)V"⟩, 14) := ⟨⟨by decide +kernel, by decide +kernel⟩, List.mem_of_getElem? (i := 72) (by decide +kernel), List.mem_of_getElem? (i := 514) (by decide +kernel), List.mem_of_getElem? (i := 515) (by decide +kernel)⟩
theorem lw_p11 : lw_okq (⟨"SoundWells$Saw", "gather", "(LSoundWells$Panel;I)V"⟩, 14) := ⟨⟨by decide +kernel, by decide +kernel⟩, List.mem_of_getElem? (i := 72) (by decide +kernel), List.mem_of_getElem? (i := 520) (by decide +kernel), List.mem_of_getElem? (i := 521) (by decide +kernel)⟩
theorem lw_p12 : lw_okq (⟨"SoundWells$Saw", "cutAlike", "(II)V"⟩, 14) := ⟨⟨by decide +kernel, by decide +kernel⟩, List.mem_of_getElem? (i := 72) (by decide +kernel), List.mem_of_getElem? (i := 525) (by decide +kernel), List.mem_of_getElem? (i := 526) (by decide +kernel)⟩
theorem lw_p13 : lw_okq (⟨"SoundWells$Saw", "hasRoom", "(II)Z"⟩, 14) := ⟨⟨by decide +kernel, by decide +kernel⟩, List.mem_of_getElem? (i := 72) (by decide +kernel), List.mem_of_getElem? (i := 529) (by decide +kernel), List.mem_of_getElem? (i := 530) (by decide +kernel)⟩
theorem lw_p14 : lw_okq (⟨"SoundWells$Saw", "cutFrom", "(II)V"⟩, 14) := ⟨⟨by decide +kernel, by decide +kernel⟩, List.mem_of_getElem? (i := 72) (by decide +kernel), List.mem_of_getElem? (i := 533) (by decide +kernel), List.mem_of_getElem? (i := 534) (by decide +kernel)⟩
theorem lw_p15 : lw_okq (⟨"SoundWellsModel", "tells", "(IIIIII)V"⟩, 16) := ⟨⟨by decide +kernel, by decide +kernel⟩, List.mem_of_getElem? (i := 579) (by decide +kernel), List.mem_of_getElem? (i := 585) (by decide +kernel), List.mem_of_getElem? (i := 586) (by decide +kernel)⟩
def lw_privs_1 : List (MethodName × Nat) := [(⟨"SoundWells$Reader", "readItem", "(I)I"⟩, 8), (⟨"SoundWells$Reader", "letterAt", "(I)C"⟩, 8), (⟨"SoundWells$Reader", "endOfFigures", "(I)I"⟩, 8), (⟨"SoundWells$Reader", "isFigure", "(I)Z"⟩, 8), (⟨"SoundWells$Reader", "valueOf", "(II)I"⟩, 8), (⟨"SoundWells$Reader", "keepItem", "(C)Z"⟩, 8), (⟨"SoundWells$Reader", "keepUnit", "()Z"⟩, 8), (⟨"SoundWells$Reader", "keepBoard", "()Z"⟩, 8), (⟨"SoundWells", "change", "(LSoundWells$Plan;)V"⟩, 6), (⟨"SoundWells$Panel", "differenceAt", "(II)I"⟩, 7), (⟨"SoundWells$Saw", "start", "(LSoundWells$Plan;)V"⟩, 14), (⟨"SoundWells$Saw", "gather", "(LSoundWells$Panel;I)V"⟩, 14), (⟨"SoundWells$Saw", "cutAlike", "(II)V"⟩, 14), (⟨"SoundWells$Saw", "hasRoom", "(II)Z"⟩, 14), (⟨"SoundWells$Saw", "cutFrom", "(II)V"⟩, 14), (⟨"SoundWellsModel", "tells", "(IIIIII)V"⟩, 16)]
theorem lw_r1 : ∀ q ∈ lw_privs_1, lw_okq q := List.forall_mem_cons.mpr ⟨lw_p0, List.forall_mem_cons.mpr ⟨lw_p1, List.forall_mem_cons.mpr ⟨lw_p2, List.forall_mem_cons.mpr ⟨lw_p3, List.forall_mem_cons.mpr ⟨lw_p4, List.forall_mem_cons.mpr ⟨lw_p5, List.forall_mem_cons.mpr ⟨lw_p6, List.forall_mem_cons.mpr ⟨lw_p7, List.forall_mem_cons.mpr ⟨lw_p8, List.forall_mem_cons.mpr ⟨lw_p9, List.forall_mem_cons.mpr ⟨lw_p10, List.forall_mem_cons.mpr ⟨lw_p11, List.forall_mem_cons.mpr ⟨lw_p12, List.forall_mem_cons.mpr ⟨lw_p13, List.forall_mem_cons.mpr ⟨lw_p14, List.forall_mem_cons.mpr ⟨lw_p15, fun _ h => absurd h List.not_mem_nil⟩⟩⟩⟩⟩⟩⟩⟩⟩⟩⟩⟩⟩⟩⟩⟩
theorem lw_p16 : lw_okq (⟨"SoundWellsModel", "item", "(I)Z"⟩, 16) := ⟨⟨by decide +kernel, by decide +kernel⟩, List.mem_of_getElem? (i := 579) (by decide +kernel), List.mem_of_getElem? (i := 682) (by decide +kernel), List.mem_of_getElem? (i := 683) (by decide +kernel)⟩
theorem lw_p17 : lw_okq (⟨"SoundWellsModel", "panelItem", "(I)Z"⟩, 16) := ⟨⟨by decide +kernel, by decide +kernel⟩, List.mem_of_getElem? (i := 579) (by decide +kernel), List.mem_of_getElem? (i := 686) (by decide +kernel), List.mem_of_getElem? (i := 687) (by decide +kernel)⟩
theorem lw_p18 : lw_okq (⟨"SoundWellsModel", "number", "(IIII)Z"⟩, 16) := ⟨⟨by decide +kernel, by decide +kernel⟩, List.mem_of_getElem? (i := 579) (by decide +kernel), List.mem_of_getElem? (i := 690) (by decide +kernel), List.mem_of_getElem? (i := 691) (by decide +kernel)⟩
theorem lw_p19 : lw_okq (⟨"SoundWellsModel", "byteAt", "(I)I"⟩, 16) := ⟨⟨by decide +kernel, by decide +kernel⟩, List.mem_of_getElem? (i := 579) (by decide +kernel), List.mem_of_getElem? (i := 694) (by decide +kernel), List.mem_of_getElem? (i := 695) (by decide +kernel)⟩
theorem lw_p20 : lw_okq (⟨"SoundWellsModel", "isPanel", "(I)Z"⟩, 16) := ⟨⟨by decide +kernel, by decide +kernel⟩, List.mem_of_getElem? (i := 579) (by decide +kernel), List.mem_of_getElem? (i := 717) (by decide +kernel), List.mem_of_getElem? (i := 718) (by decide +kernel)⟩
theorem lw_p21 : lw_okq (⟨"SoundWellsModel", "becomes", "(II)I"⟩, 16) := ⟨⟨by decide +kernel, by decide +kernel⟩, List.mem_of_getElem? (i := 579) (by decide +kernel), List.mem_of_getElem? (i := 722) (by decide +kernel), List.mem_of_getElem? (i := 723) (by decide +kernel)⟩
theorem lw_p22 : lw_okq (⟨"SoundWellsModel", "note", "()V"⟩, 16) := ⟨⟨by decide +kernel, by decide +kernel⟩, List.mem_of_getElem? (i := 579) (by decide +kernel), List.mem_of_getElem? (i := 726) (by decide +kernel), List.mem_of_getElem? (i := 727) (by decide +kernel)⟩
theorem lw_p23 : lw_okq (⟨"SoundWellsModel", "wellOf", "(II)I"⟩, 16) := ⟨⟨by decide +kernel, by decide +kernel⟩, List.mem_of_getElem? (i := 579) (by decide +kernel), List.mem_of_getElem? (i := 745) (by decide +kernel), List.mem_of_getElem? (i := 746) (by decide +kernel)⟩
theorem lw_p24 : lw_okq (⟨"SoundWellsModel", "depth", "(II)I"⟩, 16) := ⟨⟨by decide +kernel, by decide +kernel⟩, List.mem_of_getElem? (i := 579) (by decide +kernel), List.mem_of_getElem? (i := 749) (by decide +kernel), List.mem_of_getElem? (i := 750) (by decide +kernel)⟩
theorem lw_p25 : lw_okq (⟨"SoundWellsModel", "period", "(I)I"⟩, 16) := ⟨⟨by decide +kernel, by decide +kernel⟩, List.mem_of_getElem? (i := 579) (by decide +kernel), List.mem_of_getElem? (i := 753) (by decide +kernel), List.mem_of_getElem? (i := 754) (by decide +kernel)⟩
theorem lw_p26 : lw_okq (⟨"SoundWellsModel", "countOf", "(III)I"⟩, 16) := ⟨⟨by decide +kernel, by decide +kernel⟩, List.mem_of_getElem? (i := 579) (by decide +kernel), List.mem_of_getElem? (i := 761) (by decide +kernel), List.mem_of_getElem? (i := 762) (by decide +kernel)⟩
theorem lw_p27 : lw_okq (⟨"SoundWellsModel", "sumOf", "(II)I"⟩, 16) := ⟨⟨by decide +kernel, by decide +kernel⟩, List.mem_of_getElem? (i := 579) (by decide +kernel), List.mem_of_getElem? (i := 770) (by decide +kernel), List.mem_of_getElem? (i := 771) (by decide +kernel)⟩
theorem lw_p28 : lw_okq (⟨"SoundWellsModel", "even", "(I)I"⟩, 16) := ⟨⟨by decide +kernel, by decide +kernel⟩, List.mem_of_getElem? (i := 579) (by decide +kernel), List.mem_of_getElem? (i := 774) (by decide +kernel), List.mem_of_getElem? (i := 775) (by decide +kernel)⟩
theorem lw_p29 : lw_okq (⟨"SoundWellsModel", "planeOf", "(III)I"⟩, 16) := ⟨⟨by decide +kernel, by decide +kernel⟩, List.mem_of_getElem? (i := 579) (by decide +kernel), List.mem_of_getElem? (i := 782) (by decide +kernel), List.mem_of_getElem? (i := 783) (by decide +kernel)⟩
theorem lw_p30 : lw_okq (⟨"SoundWellsModel", "cutsAll", "()V"⟩, 16) := ⟨⟨by decide +kernel, by decide +kernel⟩, List.mem_of_getElem? (i := 579) (by decide +kernel), List.mem_of_getElem? (i := 795) (by decide +kernel), List.mem_of_getElem? (i := 796) (by decide +kernel)⟩
theorem lw_p31 : lw_okq (⟨"SoundWellsModel", "cuts", "(II)V"⟩, 16) := ⟨⟨by decide +kernel, by decide +kernel⟩, List.mem_of_getElem? (i := 579) (by decide +kernel), List.mem_of_getElem? (i := 799) (by decide +kernel), List.mem_of_getElem? (i := 800) (by decide +kernel)⟩
def lw_privs_2 : List (MethodName × Nat) := [(⟨"SoundWellsModel", "item", "(I)Z"⟩, 16), (⟨"SoundWellsModel", "panelItem", "(I)Z"⟩, 16), (⟨"SoundWellsModel", "number", "(IIII)Z"⟩, 16), (⟨"SoundWellsModel", "byteAt", "(I)I"⟩, 16), (⟨"SoundWellsModel", "isPanel", "(I)Z"⟩, 16), (⟨"SoundWellsModel", "becomes", "(II)I"⟩, 16), (⟨"SoundWellsModel", "note", "()V"⟩, 16), (⟨"SoundWellsModel", "wellOf", "(II)I"⟩, 16), (⟨"SoundWellsModel", "depth", "(II)I"⟩, 16), (⟨"SoundWellsModel", "period", "(I)I"⟩, 16), (⟨"SoundWellsModel", "countOf", "(III)I"⟩, 16), (⟨"SoundWellsModel", "sumOf", "(II)I"⟩, 16), (⟨"SoundWellsModel", "even", "(I)I"⟩, 16), (⟨"SoundWellsModel", "planeOf", "(III)I"⟩, 16), (⟨"SoundWellsModel", "cutsAll", "()V"⟩, 16), (⟨"SoundWellsModel", "cuts", "(II)V"⟩, 16)]
theorem lw_r2 : ∀ q ∈ lw_privs_2, lw_okq q := List.forall_mem_cons.mpr ⟨lw_p16, List.forall_mem_cons.mpr ⟨lw_p17, List.forall_mem_cons.mpr ⟨lw_p18, List.forall_mem_cons.mpr ⟨lw_p19, List.forall_mem_cons.mpr ⟨lw_p20, List.forall_mem_cons.mpr ⟨lw_p21, List.forall_mem_cons.mpr ⟨lw_p22, List.forall_mem_cons.mpr ⟨lw_p23, List.forall_mem_cons.mpr ⟨lw_p24, List.forall_mem_cons.mpr ⟨lw_p25, List.forall_mem_cons.mpr ⟨lw_p26, List.forall_mem_cons.mpr ⟨lw_p27, List.forall_mem_cons.mpr ⟨lw_p28, List.forall_mem_cons.mpr ⟨lw_p29, List.forall_mem_cons.mpr ⟨lw_p30, List.forall_mem_cons.mpr ⟨lw_p31, fun _ h => absurd h List.not_mem_nil⟩⟩⟩⟩⟩⟩⟩⟩⟩⟩⟩⟩⟩⟩⟩⟩
def lw_privs : List (MethodName × Nat) := lw_privs_1 ++ (lw_privs_2)
def lw_tbl : List Cond := k2_sels lw_privs ++ tables_1
theorem lw_privs_ok : ∀ q ∈ lw_privs, lw_okq q := by
  show ∀ q ∈ lw_privs_1 ++ (lw_privs_2), lw_okq q
  exact List.forall_mem_append.mpr ⟨lw_r1, lw_r2⟩
-- ===== end of PART A; then your names; then what follows =====
end
section
def RX0 : String := "SoundWells$Numbers"
def TX0 : u_T := fun k => match k with
  | _ => ("", "", "", false)
def tyX0 : Nat → FieldType := fun k => match k with
  | _ => .int
abbrev wsX00 : List Cond := u_ws RX0 TX0 0
theorem nmX0 : ∀ a, a < 0 → ∀ b, b < 0 → a ≠ b → (TX0 a).2.1 ≠ (TX0 b).2.1 := by decide +kernel
theorem tyX0_ok : ∀ k, k < 0 → parseFieldDescriptor (TX0 k).2.2.1 = some (tyX0 k) := by decide +kernel
abbrev cX0_isPrime : ByteArray := prog_2_method_2_code
def yX0_isPrime : MethodName := ⟨RX0, "isPrime", "(I)Z"⟩
abbrev cX0_rest : ByteArray := prog_2_method_3_code
def yX0_rest : MethodName := ⟨RX0, "rest", "(II)I"⟩
abbrev cX0_roundedUp : ByteArray := prog_2_method_4_code
def yX0_roundedUp : MethodName := ⟨RX0, "roundedUp", "(II)I"⟩
abbrev cX0_squareBits : ByteArray := prog_2_method_5_code
def yX0_squareBits : MethodName := ⟨RX0, "squareBits", "(I)I"⟩
abbrev cX0_signOf : ByteArray := prog_2_method_6_code
def yX0_signOf : MethodName := ⟨RX0, "signOf", "(II)I"⟩
abbrev cX0_isRoot : ByteArray := prog_2_method_7_code
def yX0_isRoot : MethodName := ⟨RX0, "isRoot", "(II)Z"⟩
abbrev cX0_lowestRoot : ByteArray := prog_2_method_8_code
def yX0_lowestRoot : MethodName := ⟨RX0, "lowestRoot", "(I)I"⟩
abbrev cX0_rootCount : ByteArray := prog_2_method_9_code
def yX0_rootCount : MethodName := ⟨RX0, "rootCount", "(I)I"⟩
def RX1 : String := "SoundWells$Panel"
def TX1 : u_T := fun k => match k with
  | 0 => ("SoundWells$Panel", "kind", "I", true)
  | 1 => ("SoundWells$Panel", "prime", "I", true)
  | 2 => ("SoundWells$Panel", "factor", "I", true)
  | 3 => ("SoundWells$Panel", "offset", "I", true)
  | 4 => ("SoundWells$Panel", "wells", "I", true)
  | 5 => ("SoundWells$Panel", "period", "I", true)
  | _ => ("SoundWells$Panel", "row", "[I", true)
def tyX1 : Nat → FieldType := fun k => match k with
  | 0 => .int
  | 1 => .int
  | 2 => .int
  | 3 => .int
  | 4 => .int
  | 5 => .int
  | _ => .array .int
abbrev wsX10 : List Cond := u_ws RX1 TX1 7
theorem nmX1 : ∀ a, a < 7 → ∀ b, b < 7 → a ≠ b → (TX1 a).2.1 ≠ (TX1 b).2.1 := by decide +kernel
theorem tyX1_ok : ∀ k, k < 7 → parseFieldDescriptor (TX1 k).2.2.1 = some (tyX1 k) := by decide +kernel
abbrev cX1_init : ByteArray := prog_3_method_1_code
def yX1_init : MethodName := ⟨RX1, "<init>", "(IIIII)V"⟩
abbrev cX1_rowOf : ByteArray := prog_3_method_2_code
def yX1_rowOf : MethodName := ⟨RX1, "rowOf", "(III)[I"⟩
abbrev cX1_factorFits : ByteArray := prog_3_method_3_code
def yX1_factorFits : MethodName := ⟨RX1, "factorFits", "(III)Z"⟩
abbrev cX1_offsetFits : ByteArray := prog_3_method_4_code
def yX1_offsetFits : MethodName := ⟨RX1, "offsetFits", "(II)Z"⟩
abbrev cX1_wellsFit : ByteArray := prog_3_method_5_code
def yX1_wellsFit : MethodName := ⟨RX1, "wellsFit", "(I)Z"⟩
abbrev cX1_allows : ByteArray := prog_3_method_6_code
def yX1_allows : MethodName := ⟨RX1, "allows", "(II)Z"⟩
abbrev cX1_measure : ByteArray := prog_3_method_7_code
def yX1_measure : MethodName := ⟨RX1, "measure", "(I)I"⟩
abbrev cX1_withMeasure : ByteArray := prog_3_method_8_code
def yX1_withMeasure : MethodName := ⟨RX1, "withMeasure", "(II)LSoundWells$Panel;"⟩
abbrev cX1_hasWell : ByteArray := prog_3_method_9_code
def yX1_hasWell : MethodName := ⟨RX1, "hasWell", "(I)Z"⟩
abbrev cX1_isRest : ByteArray := prog_3_method_10_code
def yX1_isRest : MethodName := ⟨RX1, "isRest", "(I)Z"⟩
abbrev cX1_depthAt : ByteArray := prog_3_method_11_code
def yX1_depthAt : MethodName := ⟨RX1, "depthAt", "(I)I"⟩
abbrev cX1_wellDepth : ByteArray := prog_3_method_12_code
def yX1_wellDepth : MethodName := ⟨RX1, "wellDepth", "(I)I"⟩
abbrev cX1_greatestDepth : ByteArray := prog_3_method_13_code
def yX1_greatestDepth : MethodName := ⟨RX1, "greatestDepth", "()I"⟩
abbrev cX1_depthsTogether : ByteArray := prog_3_method_14_code
def yX1_depthsTogether : MethodName := ⟨RX1, "depthsTogether", "()I"⟩
abbrev cX1_unlikeDepths : ByteArray := prog_3_method_15_code
def yX1_unlikeDepths : MethodName := ⟨RX1, "unlikeDepths", "()I"⟩
abbrev cX1_isMirrored : ByteArray := prog_3_method_16_code
def yX1_isMirrored : MethodName := ⟨RX1, "isMirrored", "()Z"⟩
abbrev cX1_differenceAt : ByteArray := prog_3_method_17_code
def yX1_differenceAt : MethodName := ⟨RX1, "differenceAt", "(II)I"⟩
abbrev cX1_countOf : ByteArray := prog_3_method_18_code
def yX1_countOf : MethodName := ⟨RX1, "countOf", "(II)I"⟩
abbrev cX1_evenness : ByteArray := prog_3_method_19_code
def yX1_evenness : MethodName := ⟨RX1, "evenness", "()I"⟩
abbrev cX1_planeDepth : ByteArray := prog_3_method_20_code
def yX1_planeDepth : MethodName := ⟨RX1, "planeDepth", "(II)I"⟩
abbrev cX1_planePlaces : ByteArray := prog_3_method_21_code
def yX1_planePlaces : MethodName := ⟨RX1, "planePlaces", "(I)I"⟩
def RX2 : String := "SoundWells$Past"
def TX2 : u_T := fun k => match k with
  | 0 => ("SoundWells$Past", "plans", "[LSoundWells$Plan;", true)
  | _ => ("SoundWells$Past", "kept", "I", false)
def tyX2 : Nat → FieldType := fun k => match k with
  | 0 => .array (.object "SoundWells$Plan")
  | _ => .int
abbrev wsX20 : List Cond := u_ws RX2 TX2 2
theorem nmX2 : ∀ a, a < 2 → ∀ b, b < 2 → a ≠ b → (TX2 a).2.1 ≠ (TX2 b).2.1 := by decide +kernel
theorem tyX2_ok : ∀ k, k < 2 → parseFieldDescriptor (TX2 k).2.2.1 = some (tyX2 k) := by decide +kernel
abbrev cX2_init : ByteArray := prog_4_method_1_code
def yX2_init : MethodName := ⟨RX2, "<init>", "()V"⟩
abbrev cX2_forget : ByteArray := prog_4_method_2_code
def yX2_forget : MethodName := ⟨RX2, "forget", "()V"⟩
abbrev cX2_keep : ByteArray := prog_4_method_3_code
def yX2_keep : MethodName := ⟨RX2, "keep", "(LSoundWells$Plan;)V"⟩
abbrev cX2_takeLatest : ByteArray := prog_4_method_4_code
def yX2_takeLatest : MethodName := ⟨RX2, "takeLatest", "()LSoundWells$Plan;"⟩
def RX3 : String := "SoundWells$Plan"
def TX3 : u_T := fun k => match k with
  | 0 => ("SoundWells$Plan", "panels", "[LSoundWells$Panel;", true)
  | 1 => ("SoundWells$Plan", "unit", "I", true)
  | 2 => ("SoundWells$Plan", "boardLength", "I", true)
  | _ => ("SoundWells$Plan", "cutWidth", "I", true)
def tyX3 : Nat → FieldType := fun k => match k with
  | 0 => .array (.object "SoundWells$Panel")
  | 1 => .int
  | 2 => .int
  | _ => .int
abbrev wsX30 : List Cond := u_ws RX3 TX3 4
theorem nmX3 : ∀ a, a < 4 → ∀ b, b < 4 → a ≠ b → (TX3 a).2.1 ≠ (TX3 b).2.1 := by decide +kernel
theorem tyX3_ok : ∀ k, k < 4 → parseFieldDescriptor (TX3 k).2.2.1 = some (tyX3 k) := by decide +kernel
abbrev cX3_init : ByteArray := prog_5_method_1_code
def yX3_init : MethodName := ⟨RX3, "<init>", "([LSoundWells$Panel;III)V"⟩
abbrev cX3_panelAt : ByteArray := prog_5_method_2_code
def yX3_panelAt : MethodName := ⟨RX3, "panelAt", "(I)LSoundWells$Panel;"⟩
abbrev cX3_wellsBefore : ByteArray := prog_5_method_3_code
def yX3_wellsBefore : MethodName := ⟨RX3, "wellsBefore", "(I)I"⟩
abbrev cX3_withPanel : ByteArray := prog_5_method_4_code
def yX3_withPanel : MethodName := ⟨RX3, "withPanel", "(ILSoundWells$Panel;)LSoundWells$Plan;"⟩
abbrev cX3_withoutPanel : ByteArray := prog_5_method_5_code
def yX3_withoutPanel : MethodName := ⟨RX3, "withoutPanel", "(I)LSoundWells$Plan;"⟩
abbrev cX3_allows : ByteArray := prog_5_method_6_code
def yX3_allows : MethodName := ⟨RX3, "allows", "(II)Z"⟩
abbrev cX3_measure : ByteArray := prog_5_method_7_code
def yX3_measure : MethodName := ⟨RX3, "measure", "(I)I"⟩
abbrev cX3_withMeasure : ByteArray := prog_5_method_8_code
def yX3_withMeasure : MethodName := ⟨RX3, "withMeasure", "(II)LSoundWells$Plan;"⟩
def RX4 : String := "SoundWells$Reader"
def TX4 : u_T := fun k => match k with
  | 0 => ("SoundWells$Reader", "panels", "[LSoundWells$Panel;", true)
  | 1 => ("SoundWells$Reader", "numbers", "[I", true)
  | 2 => ("SoundWells$Reader", "text", "[C", false)
  | 3 => ("SoundWells$Reader", "letters", "I", false)
  | 4 => ("SoundWells$Reader", "panelCount", "I", false)
  | 5 => ("SoundWells$Reader", "unit", "I", false)
  | 6 => ("SoundWells$Reader", "boardLength", "I", false)
  | _ => ("SoundWells$Reader", "cutWidth", "I", false)
def tyX4 : Nat → FieldType := fun k => match k with
  | 0 => .array (.object "SoundWells$Panel")
  | 1 => .array .int
  | 2 => .array .char
  | 3 => .int
  | 4 => .int
  | 5 => .int
  | 6 => .int
  | _ => .int
abbrev wsX40 : List Cond := u_ws RX4 TX4 8
theorem nmX4 : ∀ a, a < 8 → ∀ b, b < 8 → a ≠ b → (TX4 a).2.1 ≠ (TX4 b).2.1 := by decide +kernel
theorem tyX4_ok : ∀ k, k < 8 → parseFieldDescriptor (TX4 k).2.2.1 = some (tyX4 k) := by decide +kernel
abbrev cX4_init : ByteArray := prog_6_method_1_code
def yX4_init : MethodName := ⟨RX4, "<init>", "()V"⟩
abbrev cX4_firstFault : ByteArray := prog_6_method_2_code
def yX4_firstFault : MethodName := ⟨RX4, "firstFault", "([CI)I"⟩
abbrev cX4_planRead : ByteArray := prog_6_method_3_code
def yX4_planRead : MethodName := ⟨RX4, "planRead", "()LSoundWells$Plan;"⟩
abbrev cX4_readItem : ByteArray := prog_6_method_4_code
def yX4_readItem : MethodName := ⟨RX4, "readItem", "(I)I"⟩
abbrev cX4_numbersOf : ByteArray := prog_6_method_5_code
def yX4_numbersOf : MethodName := ⟨RX4, "numbersOf", "(C)I"⟩
abbrev cX4_letterAt : ByteArray := prog_6_method_6_code
def yX4_letterAt : MethodName := ⟨RX4, "letterAt", "(I)C"⟩
abbrev cX4_isFigure : ByteArray := prog_6_method_7_code
def yX4_isFigure : MethodName := ⟨RX4, "isFigure", "(I)Z"⟩
abbrev cX4_endOfFigures : ByteArray := prog_6_method_8_code
def yX4_endOfFigures : MethodName := ⟨RX4, "endOfFigures", "(I)I"⟩
abbrev cX4_valueOf : ByteArray := prog_6_method_9_code
def yX4_valueOf : MethodName := ⟨RX4, "valueOf", "(II)I"⟩
abbrev cX4_keepItem : ByteArray := prog_6_method_10_code
def yX4_keepItem : MethodName := ⟨RX4, "keepItem", "(C)Z"⟩
abbrev cX4_keepUnit : ByteArray := prog_6_method_11_code
def yX4_keepUnit : MethodName := ⟨RX4, "keepUnit", "()Z"⟩
abbrev cX4_keepBoard : ByteArray := prog_6_method_12_code
def yX4_keepBoard : MethodName := ⟨RX4, "keepBoard", "()Z"⟩
def RX5 : String := "SoundWells$Saw"
def TX5 : u_T := fun k => match k with
  | 0 => ("SoundWells$Saw", "depths", "[I", true)
  | 1 => ("SoundWells$Saw", "alike", "[I", true)
  | 2 => ("SoundWells$Saw", "boardOf", "[I", true)
  | 3 => ("SoundWells$Saw", "used", "[I", true)
  | 4 => ("SoundWells$Saw", "pieces", "[I", true)
  | 5 => ("SoundWells$Saw", "longest", "[I", true)
  | 6 => ("SoundWells$Saw", "wells", "I", false)
  | 7 => ("SoundWells$Saw", "unit", "I", false)
  | 8 => ("SoundWells$Saw", "boardLength", "I", false)
  | 9 => ("SoundWells$Saw", "cutWidth", "I", false)
  | 10 => ("SoundWells$Saw", "boards", "I", false)
  | 11 => ("SoundWells$Saw", "blocks", "I", false)
  | 12 => ("SoundWells$Saw", "lost", "I", false)
  | _ => ("SoundWells$Saw", "lengths", "I", false)
def tyX5 : Nat → FieldType := fun k => match k with
  | 0 => .array .int
  | 1 => .array .int
  | 2 => .array .int
  | 3 => .array .int
  | 4 => .array .int
  | 5 => .array .int
  | 6 => .int
  | 7 => .int
  | 8 => .int
  | 9 => .int
  | 10 => .int
  | 11 => .int
  | 12 => .int
  | _ => .int
abbrev wsX50 : List Cond := u_ws RX5 TX5 14
theorem nmX5 : ∀ a, a < 14 → ∀ b, b < 14 → a ≠ b → (TX5 a).2.1 ≠ (TX5 b).2.1 := by decide +kernel
theorem tyX5_ok : ∀ k, k < 14 → parseFieldDescriptor (TX5 k).2.2.1 = some (tyX5 k) := by decide +kernel
abbrev cX5_init : ByteArray := prog_7_method_1_code
def yX5_init : MethodName := ⟨RX5, "<init>", "()V"⟩
abbrev cX5_cutAll : ByteArray := prog_7_method_2_code
def yX5_cutAll : MethodName := ⟨RX5, "cutAll", "(LSoundWells$Plan;)V"⟩
abbrev cX5_cutAllMoved : ByteArray := prog_7_method_3_code
def yX5_cutAllMoved : MethodName := ⟨RX5, "cutAllMoved", "(LSoundWells$Plan;II)V"⟩
abbrev cX5_start : ByteArray := prog_7_method_4_code
def yX5_start : MethodName := ⟨RX5, "start", "(LSoundWells$Plan;)V"⟩
abbrev cX5_gather : ByteArray := prog_7_method_5_code
def yX5_gather : MethodName := ⟨RX5, "gather", "(LSoundWells$Panel;I)V"⟩
abbrev cX5_cutAlike : ByteArray := prog_7_method_6_code
def yX5_cutAlike : MethodName := ⟨RX5, "cutAlike", "(II)V"⟩
abbrev cX5_hasRoom : ByteArray := prog_7_method_7_code
def yX5_hasRoom : MethodName := ⟨RX5, "hasRoom", "(II)Z"⟩
abbrev cX5_cutFrom : ByteArray := prog_7_method_8_code
def yX5_cutFrom : MethodName := ⟨RX5, "cutFrom", "(II)V"⟩
abbrev cX5_leftOf : ByteArray := prog_7_method_9_code
def yX5_leftOf : MethodName := ⟨RX5, "leftOf", "(I)I"⟩
abbrev cX5_leftOfLast : ByteArray := prog_7_method_10_code
def yX5_leftOfLast : MethodName := ⟨RX5, "leftOfLast", "()I"⟩
abbrev cX5_isBetterThan : ByteArray := prog_7_method_11_code
def yX5_isBetterThan : MethodName := ⟨RX5, "isBetterThan", "(III)Z"⟩
abbrev cX5_boardOfWell : ByteArray := prog_7_method_12_code
def yX5_boardOfWell : MethodName := ⟨RX5, "boardOfWell", "(I)I"⟩
def RX6 : String := "SoundWells"
def TX6 : u_T := fun k => match k with
  | 0 => ("SoundWells", "text", "[C", true)
  | 1 => ("SoundWells", "reader", "LSoundWells$Reader;", true)
  | 2 => ("SoundWells", "past", "LSoundWells$Past;", true)
  | 3 => ("SoundWells", "saw", "LSoundWells$Saw;", true)
  | 4 => ("SoundWells", "letters", "I", false)
  | _ => ("SoundWells", "plan", "LSoundWells$Plan;", false)
def tyX6 : Nat → FieldType := fun k => match k with
  | 0 => .array .char
  | 1 => .object "SoundWells$Reader"
  | 2 => .object "SoundWells$Past"
  | 3 => .object "SoundWells$Saw"
  | 4 => .int
  | _ => .object "SoundWells$Plan"
abbrev wsX60 : List Cond := u_ws RX6 TX6 6
theorem nmX6 : ∀ a, a < 6 → ∀ b, b < 6 → a ≠ b → (TX6 a).2.1 ≠ (TX6 b).2.1 := by decide +kernel
theorem tyX6_ok : ∀ k, k < 6 → parseFieldDescriptor (TX6 k).2.2.1 = some (tyX6 k) := by decide +kernel
abbrev cX6_init : ByteArray := prog_1_method_1_code
def yX6_init : MethodName := ⟨RX6, "<init>", "()V"⟩
abbrev cX6_write : ByteArray := prog_1_method_2_code
def yX6_write : MethodName := ⟨RX6, "write", "(I)I"⟩
abbrev cX6_wipe : ByteArray := prog_1_method_3_code
def yX6_wipe : MethodName := ⟨RX6, "wipe", "()I"⟩
abbrev cX6_fault : ByteArray := prog_1_method_4_code
def yX6_fault : MethodName := ⟨RX6, "fault", "()I"⟩
abbrev cX6_lay : ByteArray := prog_1_method_5_code
def yX6_lay : MethodName := ⟨RX6, "lay", "()I"⟩
abbrev cX6_set : ByteArray := prog_1_method_6_code
def yX6_set : MethodName := ⟨RX6, "set", "(III)I"⟩
abbrev cX6_tell : ByteArray := prog_1_method_7_code
def yX6_tell : MethodName := ⟨RX6, "tell", "(II)I"⟩
abbrev cX6_take : ByteArray := prog_1_method_8_code
def yX6_take : MethodName := ⟨RX6, "take", "(I)I"⟩
abbrev cX6_undo : ByteArray := prog_1_method_9_code
def yX6_undo : MethodName := ⟨RX6, "undo", "()I"⟩
abbrev cX6_change : ByteArray := prog_1_method_10_code
def yX6_change : MethodName := ⟨RX6, "change", "(LSoundWells$Plan;)V"⟩
abbrev cX6_squares : ByteArray := prog_1_method_11_code
def yX6_squares : MethodName := ⟨RX6, "squares", "(I)I"⟩
abbrev cX6_sign : ByteArray := prog_1_method_12_code
def yX6_sign : MethodName := ⟨RX6, "sign", "(II)I"⟩
abbrev cX6_root : ByteArray := prog_1_method_13_code
def yX6_root : MethodName := ⟨RX6, "root", "(II)I"⟩
abbrev cX6_law : ByteArray := prog_1_method_14_code
def yX6_law : MethodName := ⟨RX6, "law", "(II)I"⟩
abbrev cX6_panel : ByteArray := prog_1_method_15_code
def yX6_panel : MethodName := ⟨RX6, "panel", "(II)I"⟩
abbrev cX6_well : ByteArray := prog_1_method_16_code
def yX6_well : MethodName := ⟨RX6, "well", "(II)I"⟩
abbrev cX6_counts : ByteArray := prog_1_method_17_code
def yX6_counts : MethodName := ⟨RX6, "counts", "(III)I"⟩
abbrev cX6_plane : ByteArray := prog_1_method_18_code
def yX6_plane : MethodName := ⟨RX6, "plane", "(III)I"⟩
abbrev cX6_planes : ByteArray := prog_1_method_19_code
def yX6_planes : MethodName := ⟨RX6, "planes", "(II)I"⟩
abbrev cX6_cut : ByteArray := prog_1_method_20_code
def yX6_cut : MethodName := ⟨RX6, "cut", "(I)I"⟩
abbrev cX6_board : ByteArray := prog_1_method_21_code
def yX6_board : MethodName := ⟨RX6, "board", "(II)I"⟩
abbrev cX6_where : ByteArray := prog_1_method_22_code
def yX6_where : MethodName := ⟨RX6, "where", "(II)I"⟩
abbrev cX6_best : ByteArray := prog_1_method_23_code
def yX6_best : MethodName := ⟨RX6, "best", "(II)I"⟩
abbrev cX6_count : ByteArray := prog_1_method_24_code
def yX6_count : MethodName := ⟨RX6, "count", "(I)I"⟩
def RX7 : String := "SoundWellsModel"
def TX7 : u_T := fun k => match k with
  | 0 => ("SoundWellsModel", "length", "I", false)
  | 1 => ("SoundWellsModel", "text", "[I", true)
  | 2 => ("SoundWellsModel", "spot", "I", false)
  | 3 => ("SoundWellsModel", "now", "[I", true)
  | 4 => ("SoundWellsModel", "read", "[I", true)
  | 5 => ("SoundWellsModel", "before", "[I", true)
  | 6 => ("SoundWellsModel", "undoMany", "I", false)
  | 7 => ("SoundWellsModel", "blocks", "[I", true)
  | 8 => ("SoundWellsModel", "used", "[I", true)
  | 9 => ("SoundWellsModel", "longest", "[I", true)
  | 10 => ("SoundWellsModel", "boardOf", "[I", true)
  | 11 => ("SoundWellsModel", "depths", "[I", true)
  | 12 => ("SoundWellsModel", "boards", "I", false)
  | 13 => ("SoundWellsModel", "cuts", "I", false)
  | 14 => ("SoundWellsModel", "lost", "I", false)
  | _ => ("SoundWellsModel", "whole", "I", false)
def tyX7 : Nat → FieldType := fun k => match k with
  | 0 => .int
  | 1 => .array .int
  | 2 => .int
  | 3 => .array .int
  | 4 => .array .int
  | 5 => .array .int
  | 6 => .int
  | 7 => .array .int
  | 8 => .array .int
  | 9 => .array .int
  | 10 => .array .int
  | 11 => .array .int
  | 12 => .int
  | 13 => .int
  | 14 => .int
  | _ => .int
abbrev wsX70 : List Cond := u_ws RX7 TX7 16
theorem nmX7 : ∀ a, a < 16 → ∀ b, b < 16 → a ≠ b → (TX7 a).2.1 ≠ (TX7 b).2.1 := by decide +kernel
theorem tyX7_ok : ∀ k, k < 16 → parseFieldDescriptor (TX7 k).2.2.1 = some (tyX7 k) := by decide +kernel
abbrev cX7_init : ByteArray := prog_9_method_1_code
def yX7_init : MethodName := ⟨RX7, "<init>", "()V"⟩
abbrev cX7_tells : ByteArray := prog_9_method_2_code
def yX7_tells : MethodName := ⟨RX7, "tells", "(IIIIII)V"⟩
abbrev cX7_in : ByteArray := prog_9_method_3_code
def yX7_in : MethodName := ⟨RX7, "in", "(JJJ)Z"⟩
abbrev cX7_isPrime : ByteArray := prog_9_method_4_code
def yX7_isPrime : MethodName := ⟨RX7, "isPrime", "(I)Z"⟩
abbrev cX7_signOf : ByteArray := prog_9_method_5_code
def yX7_signOf : MethodName := ⟨RX7, "signOf", "(II)I"⟩
abbrev cX7_isRoot : ByteArray := prog_9_method_6_code
def yX7_isRoot : MethodName := ⟨RX7, "isRoot", "(II)Z"⟩
abbrev cX7_squares : ByteArray := prog_9_method_7_code
def yX7_squares : MethodName := ⟨RX7, "squares", "(I)I"⟩
abbrev cX7_sign : ByteArray := prog_9_method_8_code
def yX7_sign : MethodName := ⟨RX7, "sign", "(II)I"⟩
abbrev cX7_root : ByteArray := prog_9_method_9_code
def yX7_root : MethodName := ⟨RX7, "root", "(II)I"⟩
abbrev cX7_law : ByteArray := prog_9_method_10_code
def yX7_law : MethodName := ⟨RX7, "law", "(II)I"⟩
abbrev cX7_write : ByteArray := prog_9_method_11_code
def yX7_write : MethodName := ⟨RX7, "write", "(I)I"⟩
abbrev cX7_wipe : ByteArray := prog_9_method_12_code
def yX7_wipe : MethodName := ⟨RX7, "wipe", "()I"⟩
abbrev cX7_byteAt : ByteArray := prog_9_method_13_code
def yX7_byteAt : MethodName := ⟨RX7, "byteAt", "(I)I"⟩
abbrev cX7_number : ByteArray := prog_9_method_14_code
def yX7_number : MethodName := ⟨RX7, "number", "(IIII)Z"⟩
abbrev cX7_mayBe : ByteArray := prog_9_method_15_code
def yX7_mayBe : MethodName := ⟨RX7, "mayBe", "(III)Z"⟩
abbrev cX7_panelItem : ByteArray := prog_9_method_16_code
def yX7_panelItem : MethodName := ⟨RX7, "panelItem", "(I)Z"⟩
abbrev cX7_item : ByteArray := prog_9_method_17_code
def yX7_item : MethodName := ⟨RX7, "item", "(I)Z"⟩
abbrev cX7_fault : ByteArray := prog_9_method_18_code
def yX7_fault : MethodName := ⟨RX7, "fault", "()I"⟩
abbrev cX7_lay : ByteArray := prog_9_method_19_code
def yX7_lay : MethodName := ⟨RX7, "lay", "()I"⟩
abbrev cX7_note : ByteArray := prog_9_method_20_code
def yX7_note : MethodName := ⟨RX7, "note", "()V"⟩
abbrev cX7_undo : ByteArray := prog_9_method_21_code
def yX7_undo : MethodName := ⟨RX7, "undo", "()I"⟩
abbrev cX7_becomes : ByteArray := prog_9_method_22_code
def yX7_becomes : MethodName := ⟨RX7, "becomes", "(II)I"⟩
abbrev cX7_isPanel : ByteArray := prog_9_method_23_code
def yX7_isPanel : MethodName := ⟨RX7, "isPanel", "(I)Z"⟩
abbrev cX7_set : ByteArray := prog_9_method_24_code
def yX7_set : MethodName := ⟨RX7, "set", "(III)I"⟩
abbrev cX7_tell : ByteArray := prog_9_method_25_code
def yX7_tell : MethodName := ⟨RX7, "tell", "(II)I"⟩
abbrev cX7_take : ByteArray := prog_9_method_26_code
def yX7_take : MethodName := ⟨RX7, "take", "(I)I"⟩
abbrev cX7_period : ByteArray := prog_9_method_27_code
def yX7_period : MethodName := ⟨RX7, "period", "(I)I"⟩
abbrev cX7_depth : ByteArray := prog_9_method_28_code
def yX7_depth : MethodName := ⟨RX7, "depth", "(II)I"⟩
abbrev cX7_wellOf : ByteArray := prog_9_method_29_code
def yX7_wellOf : MethodName := ⟨RX7, "wellOf", "(II)I"⟩
abbrev cX7_well : ByteArray := prog_9_method_30_code
def yX7_well : MethodName := ⟨RX7, "well", "(II)I"⟩
abbrev cX7_countOf : ByteArray := prog_9_method_31_code
def yX7_countOf : MethodName := ⟨RX7, "countOf", "(III)I"⟩
abbrev cX7_counts : ByteArray := prog_9_method_32_code
def yX7_counts : MethodName := ⟨RX7, "counts", "(III)I"⟩
abbrev cX7_even : ByteArray := prog_9_method_33_code
def yX7_even : MethodName := ⟨RX7, "even", "(I)I"⟩
abbrev cX7_sumOf : ByteArray := prog_9_method_34_code
def yX7_sumOf : MethodName := ⟨RX7, "sumOf", "(II)I"⟩
abbrev cX7_panel : ByteArray := prog_9_method_35_code
def yX7_panel : MethodName := ⟨RX7, "panel", "(II)I"⟩
abbrev cX7_planeOf : ByteArray := prog_9_method_36_code
def yX7_planeOf : MethodName := ⟨RX7, "planeOf", "(III)I"⟩
abbrev cX7_plane : ByteArray := prog_9_method_37_code
def yX7_plane : MethodName := ⟨RX7, "plane", "(III)I"⟩
abbrev cX7_planes : ByteArray := prog_9_method_38_code
def yX7_planes : MethodName := ⟨RX7, "planes", "(II)I"⟩
abbrev cX7_cuts : ByteArray := prog_9_method_39_code
def yX7_cuts : MethodName := ⟨RX7, "cuts", "(II)V"⟩
abbrev cX7_cutsAll : ByteArray := prog_9_method_40_code
def yX7_cutsAll : MethodName := ⟨RX7, "cutsAll", "()V"⟩
abbrev cX7_cut : ByteArray := prog_9_method_41_code
def yX7_cut : MethodName := ⟨RX7, "cut", "(I)I"⟩
abbrev cX7_board : ByteArray := prog_9_method_42_code
def yX7_board : MethodName := ⟨RX7, "board", "(II)I"⟩
abbrev cX7_where : ByteArray := prog_9_method_43_code
def yX7_where : MethodName := ⟨RX7, "where", "(II)I"⟩
abbrev cX7_best : ByteArray := prog_9_method_44_code
def yX7_best : MethodName := ⟨RX7, "best", "(II)I"⟩
abbrev cX7_count : ByteArray := prog_9_method_45_code
def yX7_count : MethodName := ⟨RX7, "count", "(I)I"⟩
def RJx8e188 : String := "java/lang/Cloneable"
def TJx8e188 : u_T := fun k => match k with
  | _ => ("", "", "", false)
def tyJx8e188 : Nat → FieldType := fun k => match k with
  | _ => .int
abbrev wsJx8e1880 : List Cond := u_ws RJx8e188 TJx8e188 0
theorem nmJx8e188 : ∀ a, a < 0 → ∀ b, b < 0 → a ≠ b → (TJx8e188 a).2.1 ≠ (TJx8e188 b).2.1 := by decide +kernel
theorem tyJx8e188_ok : ∀ k, k < 0 → parseFieldDescriptor (TJx8e188 k).2.2.1 = some (tyJx8e188 k) := by decide +kernel
def RJ6 : String := "java/lang/Integer"
def TJ6 : u_T := fun k => match k with
  | _ => ("", "", "", false)
def tyJ6 : Nat → FieldType := fun k => match k with
  | _ => .int
abbrev wsJ60 : List Cond := u_ws RJ6 TJ6 0
theorem nmJ6 : ∀ a, a < 0 → ∀ b, b < 0 → a ≠ b → (TJ6 a).2.1 ≠ (TJ6 b).2.1 := by decide +kernel
theorem tyJ6_ok : ∀ k, k < 0 → parseFieldDescriptor (TJ6 k).2.2.1 = some (tyJ6 k) := by decide +kernel
abbrev cJ6_bitCount_0f7a4 : ByteArray := prog_11_method_49_code
def yJ6_bitCount_0f7a4 : MethodName := ⟨RJ6, "bitCount", "(I)I"⟩
def RJ9 : String := "java/lang/Math"
def TJ9 : u_T := fun k => match k with
  | _ => ("", "", "", false)
def tyJ9 : Nat → FieldType := fun k => match k with
  | _ => .int
abbrev wsJ90 : List Cond := u_ws RJ9 TJ9 0
theorem nmJ9 : ∀ a, a < 0 → ∀ b, b < 0 → a ≠ b → (TJ9 a).2.1 ≠ (TJ9 b).2.1 := by decide +kernel
theorem tyJ9_ok : ∀ k, k < 0 → parseFieldDescriptor (TJ9 k).2.2.1 = some (tyJ9 k) := by decide +kernel
abbrev cJ9_max_7cf53 : ByteArray := prog_12_method_65_code
def yJ9_max_7cf53 : MethodName := ⟨RJ9, "max", "(II)I"⟩
abbrev cJ9_min_7cf53 : ByteArray := prog_12_method_69_code
def yJ9_min_7cf53 : MethodName := ⟨RJ9, "min", "(II)I"⟩
def RJ7 : String := "java/util/Arrays"
def TJ7 : u_T := fun k => match k with
  | _ => ("", "", "", false)
def tyJ7 : Nat → FieldType := fun k => match k with
  | _ => .int
abbrev wsJ70 : List Cond := u_ws RJ7 TJ7 0
theorem nmJ7 : ∀ a, a < 0 → ∀ b, b < 0 → a ≠ b → (TJ7 a).2.1 ≠ (TJ7 b).2.1 := by decide +kernel
theorem tyJ7_ok : ∀ k, k < 0 → parseFieldDescriptor (TJ7 k).2.2.1 = some (tyJ7 k) := by decide +kernel
abbrev cJ7_fill_53178 : ByteArray := prog_13_method_103_code
def yJ7_fill_53178 : MethodName := ⟨RJ7, "fill", "([II)V"⟩
def RL : String := "SoundWellsLaw"
abbrev cL_law : ByteArray := code
def yL_law : MethodName := ⟨RL, "law", "([I)Z"⟩
end
section
/-- the words of the tables that travel to callees -/
def TB : List Cond := lw_tbl.filter goodWord
theorem tb_in {w : Cond} (h : w ∈ TB) : w ∈ lw_tbl := (List.mem_filter.mp h).1
theorem tb_0 : (Jvm.Cond.initialized "SoundWellsLaw") ∈ TB := List.mem_filter.mpr ⟨List.mem_append_right _ (List.mem_of_getElem? (i := 0) (by decide +kernel)), (by decide +kernel)⟩
theorem tb_1 : (Jvm.Cond.initialized "SoundWells") ∈ TB := List.mem_filter.mpr ⟨List.mem_append_right _ (List.mem_of_getElem? (i := 1) (by decide +kernel)), (by decide +kernel)⟩
theorem tb_2 : (Jvm.Cond.initialized "SoundWells$Reader") ∈ TB := List.mem_filter.mpr ⟨List.mem_append_right _ (List.mem_of_getElem? (i := 2) (by decide +kernel)), (by decide +kernel)⟩
theorem tb_3 : (Jvm.Cond.initialized "SoundWells$Past") ∈ TB := List.mem_filter.mpr ⟨List.mem_append_right _ (List.mem_of_getElem? (i := 3) (by decide +kernel)), (by decide +kernel)⟩
theorem tb_4 : (Jvm.Cond.initialized "SoundWells$Saw") ∈ TB := List.mem_filter.mpr ⟨List.mem_append_right _ (List.mem_of_getElem? (i := 4) (by decide +kernel)), (by decide +kernel)⟩
theorem tb_5 : (Jvm.Cond.initialized "SoundWells$Panel") ∈ TB := List.mem_filter.mpr ⟨List.mem_append_right _ (List.mem_of_getElem? (i := 5) (by decide +kernel)), (by decide +kernel)⟩
theorem tb_6 : (Jvm.Cond.initialized "SoundWells$Numbers") ∈ TB := List.mem_filter.mpr ⟨List.mem_append_right _ (List.mem_of_getElem? (i := 6) (by decide +kernel)), (by decide +kernel)⟩
theorem tb_7 : (Jvm.Cond.initialized "SoundWells$Plan") ∈ TB := List.mem_filter.mpr ⟨List.mem_append_right _ (List.mem_of_getElem? (i := 7) (by decide +kernel)), (by decide +kernel)⟩
theorem tb_8 : (Jvm.Cond.initialized "SoundWellsModel") ∈ TB := List.mem_filter.mpr ⟨List.mem_append_right _ (List.mem_of_getElem? (i := 8) (by decide +kernel)), (by decide +kernel)⟩
theorem tb_9 : (Jvm.Cond.initialized "java/lang/Math") ∈ TB := List.mem_filter.mpr ⟨List.mem_append_right _ (List.mem_of_getElem? (i := 9) (by decide +kernel)), (by decide +kernel)⟩
theorem tb_10 : (Jvm.Cond.initialized "java/lang/Integer") ∈ TB := List.mem_filter.mpr ⟨List.mem_append_right _ (List.mem_of_getElem? (i := 10) (by decide +kernel)), (by decide +kernel)⟩
theorem tb_11 : (Jvm.Cond.initialized "java/util/Arrays") ∈ TB := List.mem_filter.mpr ⟨List.mem_append_right _ (List.mem_of_getElem? (i := 11) (by decide +kernel)), (by decide +kernel)⟩
theorem tb_12 : (Jvm.Cond.classLink "SoundWellsLaw" (7 : Nat) "SoundWells") ∈ TB := List.mem_filter.mpr ⟨List.mem_append_right _ (List.mem_of_getElem? (i := 12) (by decide +kernel)), (by decide +kernel)⟩
theorem tb_13 : (Jvm.Cond.instantiable "SoundWells" (6 : Nat)) ∈ TB := List.mem_filter.mpr ⟨List.mem_append_right _ (List.mem_of_getElem? (i := 13) (by decide +kernel)), (by decide +kernel)⟩
theorem tb_14 : (Jvm.Cond.methodLink "SoundWellsLaw" (9 : Nat) ({ cls := "SoundWells", name := "<init>", desc := "()V" } : Jvm.MethodName)) ∈ TB := List.mem_filter.mpr ⟨List.mem_append_right _ (List.mem_of_getElem? (i := 14) (by decide +kernel)), (by decide +kernel)⟩
theorem tb_15 : (Jvm.Cond.instanceMethod ({ cls := "SoundWells", name := "<init>", desc := "()V" } : Jvm.MethodName)) ∈ TB := List.mem_filter.mpr ⟨List.mem_append_right _ (List.mem_of_getElem? (i := 15) (by decide +kernel)), (by decide +kernel)⟩
theorem tb_16 : (Jvm.Cond.code ({ cls := "SoundWells", name := "<init>", desc := "()V" } : Jvm.MethodName) prog_1_method_1_code (2 : Nat) (Option.none : Option Jvm.ClassFile.FieldType)) ∈ TB := List.mem_filter.mpr ⟨List.mem_append_right _ (List.mem_of_getElem? (i := 16) (by decide +kernel)), (by decide +kernel)⟩
theorem tb_17 : (Jvm.Cond.methodLink "SoundWells" (1 : Nat) ({ cls := "java/lang/Object", name := "<init>", desc := "()V" } : Jvm.MethodName)) ∈ TB := List.mem_filter.mpr ⟨List.mem_append_right _ (List.mem_of_getElem? (i := 17) (by decide +kernel)), (by decide +kernel)⟩
theorem tb_18 : (Jvm.Cond.instanceMethod ({ cls := "java/lang/Object", name := "<init>", desc := "()V" } : Jvm.MethodName)) ∈ TB := List.mem_filter.mpr ⟨List.mem_append_right _ (List.mem_of_getElem? (i := 18) (by decide +kernel)), (by decide +kernel)⟩
theorem tb_19 : (Jvm.Cond.code ({ cls := "java/lang/Object", name := "<init>", desc := "()V" } : Jvm.MethodName) object_method_1_code (1 : Nat) (Option.none : Option Jvm.ClassFile.FieldType)) ∈ TB := List.mem_filter.mpr ⟨List.mem_append_right _ (List.mem_of_getElem? (i := 19) (by decide +kernel)), (by decide +kernel)⟩
theorem tb_20 : (Jvm.Cond.classLink "SoundWells" (13 : Nat) "SoundWells$Reader") ∈ TB := List.mem_filter.mpr ⟨List.mem_append_right _ (List.mem_of_getElem? (i := 20) (by decide +kernel)), (by decide +kernel)⟩
theorem tb_21 : (Jvm.Cond.instantiable "SoundWells$Reader" (8 : Nat)) ∈ TB := List.mem_filter.mpr ⟨List.mem_append_right _ (List.mem_of_getElem? (i := 21) (by decide +kernel)), (by decide +kernel)⟩
theorem tb_23 : (Jvm.Cond.instanceMethod ({ cls := "SoundWells$Reader", name := "<init>", desc := "()V" } : Jvm.MethodName)) ∈ TB := List.mem_filter.mpr ⟨List.mem_append_right _ (List.mem_of_getElem? (i := 23) (by decide +kernel)), (by decide +kernel)⟩
theorem tb_24 : (Jvm.Cond.code ({ cls := "SoundWells$Reader", name := "<init>", desc := "()V" } : Jvm.MethodName) prog_6_method_1_code (1 : Nat) (Option.none : Option Jvm.ClassFile.FieldType)) ∈ TB := List.mem_filter.mpr ⟨List.mem_append_right _ (List.mem_of_getElem? (i := 24) (by decide +kernel)), (by decide +kernel)⟩
theorem tb_25 : (Jvm.Cond.methodLink "SoundWells$Reader" (3 : Nat) ({ cls := "java/lang/Object", name := "<init>", desc := "()V" } : Jvm.MethodName)) ∈ TB := List.mem_filter.mpr ⟨List.mem_append_right _ (List.mem_of_getElem? (i := 25) (by decide +kernel)), (by decide +kernel)⟩
theorem tb_26 : (Jvm.Cond.classLink "SoundWells$Reader" (9 : Nat) "SoundWells$Panel") ∈ TB := List.mem_filter.mpr ⟨List.mem_append_right _ (List.mem_of_getElem? (i := 26) (by decide +kernel)), (by decide +kernel)⟩
theorem tb_28 : (Jvm.Cond.fieldLink "SoundWells$Reader" (11 : Nat) "SoundWells$Reader" "panels" "[LSoundWells$Panel;") ∈ TB := List.mem_filter.mpr ⟨List.mem_append_right _ (List.mem_of_getElem? (i := 28) (by decide +kernel)), (by decide +kernel)⟩
theorem tb_29 : (Jvm.Cond.fieldLink "SoundWells$Reader" (17 : Nat) "SoundWells$Reader" "numbers" "[I") ∈ TB := List.mem_filter.mpr ⟨List.mem_append_right _ (List.mem_of_getElem? (i := 29) (by decide +kernel)), (by decide +kernel)⟩
theorem tb_30 : (Jvm.Cond.fieldLink "SoundWells$Reader" (21 : Nat) "SoundWells$Reader" "text" "[C") ∈ TB := List.mem_filter.mpr ⟨List.mem_append_right _ (List.mem_of_getElem? (i := 30) (by decide +kernel)), (by decide +kernel)⟩
theorem tb_31 : (Jvm.Cond.fieldLink "SoundWells$Reader" (25 : Nat) "SoundWells$Reader" "letters" "I") ∈ TB := List.mem_filter.mpr ⟨List.mem_append_right _ (List.mem_of_getElem? (i := 31) (by decide +kernel)), (by decide +kernel)⟩
theorem tb_32 : (Jvm.Cond.fieldLink "SoundWells$Reader" (29 : Nat) "SoundWells$Reader" "panelCount" "I") ∈ TB := List.mem_filter.mpr ⟨List.mem_append_right _ (List.mem_of_getElem? (i := 32) (by decide +kernel)), (by decide +kernel)⟩
theorem tb_33 : (Jvm.Cond.fieldLink "SoundWells$Reader" (32 : Nat) "SoundWells$Reader" "unit" "I") ∈ TB := List.mem_filter.mpr ⟨List.mem_append_right _ (List.mem_of_getElem? (i := 33) (by decide +kernel)), (by decide +kernel)⟩
theorem tb_34 : (Jvm.Cond.fieldLink "SoundWells$Reader" (35 : Nat) "SoundWells$Reader" "boardLength" "I") ∈ TB := List.mem_filter.mpr ⟨List.mem_append_right _ (List.mem_of_getElem? (i := 34) (by decide +kernel)), (by decide +kernel)⟩
theorem tb_35 : (Jvm.Cond.fieldLink "SoundWells$Reader" (38 : Nat) "SoundWells$Reader" "cutWidth" "I") ∈ TB := List.mem_filter.mpr ⟨List.mem_append_right _ (List.mem_of_getElem? (i := 35) (by decide +kernel)), (by decide +kernel)⟩
theorem tb_36 : (Jvm.Cond.laysFinal "SoundWells$Reader" "SoundWells$Reader" "panels" "[LSoundWells$Panel;") ∈ TB := List.mem_filter.mpr ⟨List.mem_append_right _ (List.mem_of_getElem? (i := 36) (by decide +kernel)), (by decide +kernel)⟩
theorem tb_37 : (Jvm.Cond.soleField "SoundWells$Reader" "panels") ∈ TB := List.mem_filter.mpr ⟨List.mem_append_right _ (List.mem_of_getElem? (i := 37) (by decide +kernel)), (by decide +kernel)⟩
theorem tb_38 : (Jvm.Cond.laysFinal "SoundWells$Reader" "SoundWells$Reader" "numbers" "[I") ∈ TB := List.mem_filter.mpr ⟨List.mem_append_right _ (List.mem_of_getElem? (i := 38) (by decide +kernel)), (by decide +kernel)⟩
theorem tb_39 : (Jvm.Cond.soleField "SoundWells$Reader" "numbers") ∈ TB := List.mem_filter.mpr ⟨List.mem_append_right _ (List.mem_of_getElem? (i := 39) (by decide +kernel)), (by decide +kernel)⟩
theorem tb_40 : (Jvm.Cond.lays "SoundWells$Reader" "SoundWells$Reader" "text" "[C") ∈ TB := List.mem_filter.mpr ⟨List.mem_append_right _ (List.mem_of_getElem? (i := 40) (by decide +kernel)), (by decide +kernel)⟩
theorem tb_41 : (Jvm.Cond.soleField "SoundWells$Reader" "text") ∈ TB := List.mem_filter.mpr ⟨List.mem_append_right _ (List.mem_of_getElem? (i := 41) (by decide +kernel)), (by decide +kernel)⟩
theorem tb_42 : (Jvm.Cond.lays "SoundWells$Reader" "SoundWells$Reader" "letters" "I") ∈ TB := List.mem_filter.mpr ⟨List.mem_append_right _ (List.mem_of_getElem? (i := 42) (by decide +kernel)), (by decide +kernel)⟩
theorem tb_43 : (Jvm.Cond.soleField "SoundWells$Reader" "letters") ∈ TB := List.mem_filter.mpr ⟨List.mem_append_right _ (List.mem_of_getElem? (i := 43) (by decide +kernel)), (by decide +kernel)⟩
theorem tb_44 : (Jvm.Cond.lays "SoundWells$Reader" "SoundWells$Reader" "panelCount" "I") ∈ TB := List.mem_filter.mpr ⟨List.mem_append_right _ (List.mem_of_getElem? (i := 44) (by decide +kernel)), (by decide +kernel)⟩
theorem tb_45 : (Jvm.Cond.soleField "SoundWells$Reader" "panelCount") ∈ TB := List.mem_filter.mpr ⟨List.mem_append_right _ (List.mem_of_getElem? (i := 45) (by decide +kernel)), (by decide +kernel)⟩
theorem tb_46 : (Jvm.Cond.lays "SoundWells$Reader" "SoundWells$Reader" "unit" "I") ∈ TB := List.mem_filter.mpr ⟨List.mem_append_right _ (List.mem_of_getElem? (i := 46) (by decide +kernel)), (by decide +kernel)⟩
theorem tb_47 : (Jvm.Cond.soleField "SoundWells$Reader" "unit") ∈ TB := List.mem_filter.mpr ⟨List.mem_append_right _ (List.mem_of_getElem? (i := 47) (by decide +kernel)), (by decide +kernel)⟩
theorem tb_48 : (Jvm.Cond.lays "SoundWells$Reader" "SoundWells$Reader" "boardLength" "I") ∈ TB := List.mem_filter.mpr ⟨List.mem_append_right _ (List.mem_of_getElem? (i := 48) (by decide +kernel)), (by decide +kernel)⟩
theorem tb_49 : (Jvm.Cond.soleField "SoundWells$Reader" "boardLength") ∈ TB := List.mem_filter.mpr ⟨List.mem_append_right _ (List.mem_of_getElem? (i := 49) (by decide +kernel)), (by decide +kernel)⟩
theorem tb_50 : (Jvm.Cond.lays "SoundWells$Reader" "SoundWells$Reader" "cutWidth" "I") ∈ TB := List.mem_filter.mpr ⟨List.mem_append_right _ (List.mem_of_getElem? (i := 50) (by decide +kernel)), (by decide +kernel)⟩
theorem tb_51 : (Jvm.Cond.soleField "SoundWells$Reader" "cutWidth") ∈ TB := List.mem_filter.mpr ⟨List.mem_append_right _ (List.mem_of_getElem? (i := 51) (by decide +kernel)), (by decide +kernel)⟩
theorem tb_52 : (Jvm.Cond.superclass "SoundWells$Reader" "java/lang/Object") ∈ TB := List.mem_filter.mpr ⟨List.mem_append_right _ (List.mem_of_getElem? (i := 52) (by decide +kernel)), (by decide +kernel)⟩
theorem tb_53 : (Jvm.Cond.arrayClass Jvm.ClassFile.FieldType.char) ∈ TB := List.mem_filter.mpr ⟨List.mem_append_right _ (List.mem_of_getElem? (i := 53) (by decide +kernel)), (by decide +kernel)⟩
theorem tb_54 : (Jvm.Cond.arrayClass Jvm.ClassFile.FieldType.int) ∈ TB := List.mem_filter.mpr ⟨List.mem_append_right _ (List.mem_of_getElem? (i := 54) (by decide +kernel)), (by decide +kernel)⟩
theorem tb_55 : (Jvm.Cond.classLink "SoundWells" (20 : Nat) "SoundWells$Past") ∈ TB := List.mem_filter.mpr ⟨List.mem_append_right _ (List.mem_of_getElem? (i := 55) (by decide +kernel)), (by decide +kernel)⟩
theorem tb_56 : (Jvm.Cond.instantiable "SoundWells$Past" (2 : Nat)) ∈ TB := List.mem_filter.mpr ⟨List.mem_append_right _ (List.mem_of_getElem? (i := 56) (by decide +kernel)), (by decide +kernel)⟩
theorem tb_58 : (Jvm.Cond.instanceMethod ({ cls := "SoundWells$Past", name := "<init>", desc := "()V" } : Jvm.MethodName)) ∈ TB := List.mem_filter.mpr ⟨List.mem_append_right _ (List.mem_of_getElem? (i := 58) (by decide +kernel)), (by decide +kernel)⟩
theorem tb_59 : (Jvm.Cond.code ({ cls := "SoundWells$Past", name := "<init>", desc := "()V" } : Jvm.MethodName) prog_4_method_1_code (1 : Nat) (Option.none : Option Jvm.ClassFile.FieldType)) ∈ TB := List.mem_filter.mpr ⟨List.mem_append_right _ (List.mem_of_getElem? (i := 59) (by decide +kernel)), (by decide +kernel)⟩
theorem tb_60 : (Jvm.Cond.methodLink "SoundWells$Past" (3 : Nat) ({ cls := "java/lang/Object", name := "<init>", desc := "()V" } : Jvm.MethodName)) ∈ TB := List.mem_filter.mpr ⟨List.mem_append_right _ (List.mem_of_getElem? (i := 60) (by decide +kernel)), (by decide +kernel)⟩
theorem tb_61 : (Jvm.Cond.classLink "SoundWells$Past" (9 : Nat) "SoundWells$Plan") ∈ TB := List.mem_filter.mpr ⟨List.mem_append_right _ (List.mem_of_getElem? (i := 61) (by decide +kernel)), (by decide +kernel)⟩
theorem tb_63 : (Jvm.Cond.fieldLink "SoundWells$Past" (11 : Nat) "SoundWells$Past" "plans" "[LSoundWells$Plan;") ∈ TB := List.mem_filter.mpr ⟨List.mem_append_right _ (List.mem_of_getElem? (i := 63) (by decide +kernel)), (by decide +kernel)⟩
theorem tb_64 : (Jvm.Cond.fieldLink "SoundWells$Past" (17 : Nat) "SoundWells$Past" "kept" "I") ∈ TB := List.mem_filter.mpr ⟨List.mem_append_right _ (List.mem_of_getElem? (i := 64) (by decide +kernel)), (by decide +kernel)⟩
theorem tb_65 : (Jvm.Cond.fieldLink "SoundWells" (103 : Nat) "SoundWells$Past" "kept" "I") ∈ TB := List.mem_filter.mpr ⟨List.mem_append_right _ (List.mem_of_getElem? (i := 65) (by decide +kernel)), (by decide +kernel)⟩
theorem tb_66 : (Jvm.Cond.laysFinal "SoundWells$Past" "SoundWells$Past" "plans" "[LSoundWells$Plan;") ∈ TB := List.mem_filter.mpr ⟨List.mem_append_right _ (List.mem_of_getElem? (i := 66) (by decide +kernel)), (by decide +kernel)⟩
theorem tb_67 : (Jvm.Cond.soleField "SoundWells$Past" "plans") ∈ TB := List.mem_filter.mpr ⟨List.mem_append_right _ (List.mem_of_getElem? (i := 67) (by decide +kernel)), (by decide +kernel)⟩
theorem tb_68 : (Jvm.Cond.lays "SoundWells$Past" "SoundWells$Past" "kept" "I") ∈ TB := List.mem_filter.mpr ⟨List.mem_append_right _ (List.mem_of_getElem? (i := 68) (by decide +kernel)), (by decide +kernel)⟩
theorem tb_69 : (Jvm.Cond.soleField "SoundWells$Past" "kept") ∈ TB := List.mem_filter.mpr ⟨List.mem_append_right _ (List.mem_of_getElem? (i := 69) (by decide +kernel)), (by decide +kernel)⟩
theorem tb_70 : (Jvm.Cond.superclass "SoundWells$Past" "java/lang/Object") ∈ TB := List.mem_filter.mpr ⟨List.mem_append_right _ (List.mem_of_getElem? (i := 70) (by decide +kernel)), (by decide +kernel)⟩
theorem tb_71 : (Jvm.Cond.classLink "SoundWells" (27 : Nat) "SoundWells$Saw") ∈ TB := List.mem_filter.mpr ⟨List.mem_append_right _ (List.mem_of_getElem? (i := 71) (by decide +kernel)), (by decide +kernel)⟩
theorem tb_72 : (Jvm.Cond.instantiable "SoundWells$Saw" (14 : Nat)) ∈ TB := List.mem_filter.mpr ⟨List.mem_append_right _ (List.mem_of_getElem? (i := 72) (by decide +kernel)), (by decide +kernel)⟩
theorem tb_74 : (Jvm.Cond.instanceMethod ({ cls := "SoundWells$Saw", name := "<init>", desc := "()V" } : Jvm.MethodName)) ∈ TB := List.mem_filter.mpr ⟨List.mem_append_right _ (List.mem_of_getElem? (i := 74) (by decide +kernel)), (by decide +kernel)⟩
theorem tb_75 : (Jvm.Cond.code ({ cls := "SoundWells$Saw", name := "<init>", desc := "()V" } : Jvm.MethodName) prog_7_method_1_code (1 : Nat) (Option.none : Option Jvm.ClassFile.FieldType)) ∈ TB := List.mem_filter.mpr ⟨List.mem_append_right _ (List.mem_of_getElem? (i := 75) (by decide +kernel)), (by decide +kernel)⟩
theorem tb_76 : (Jvm.Cond.methodLink "SoundWells$Saw" (3 : Nat) ({ cls := "java/lang/Object", name := "<init>", desc := "()V" } : Jvm.MethodName)) ∈ TB := List.mem_filter.mpr ⟨List.mem_append_right _ (List.mem_of_getElem? (i := 76) (by decide +kernel)), (by decide +kernel)⟩
theorem tb_77 : (Jvm.Cond.fieldLink "SoundWells$Saw" (9 : Nat) "SoundWells$Saw" "depths" "[I") ∈ TB := List.mem_filter.mpr ⟨List.mem_append_right _ (List.mem_of_getElem? (i := 77) (by decide +kernel)), (by decide +kernel)⟩
theorem tb_78 : (Jvm.Cond.fieldLink "SoundWells$Saw" (15 : Nat) "SoundWells$Saw" "alike" "[I") ∈ TB := List.mem_filter.mpr ⟨List.mem_append_right _ (List.mem_of_getElem? (i := 78) (by decide +kernel)), (by decide +kernel)⟩
theorem tb_79 : (Jvm.Cond.fieldLink "SoundWells$Saw" (18 : Nat) "SoundWells$Saw" "boardOf" "[I") ∈ TB := List.mem_filter.mpr ⟨List.mem_append_right _ (List.mem_of_getElem? (i := 79) (by decide +kernel)), (by decide +kernel)⟩
theorem tb_80 : (Jvm.Cond.fieldLink "SoundWells$Saw" (21 : Nat) "SoundWells$Saw" "used" "[I") ∈ TB := List.mem_filter.mpr ⟨List.mem_append_right _ (List.mem_of_getElem? (i := 80) (by decide +kernel)), (by decide +kernel)⟩
theorem tb_81 : (Jvm.Cond.fieldLink "SoundWells$Saw" (24 : Nat) "SoundWells$Saw" "pieces" "[I") ∈ TB := List.mem_filter.mpr ⟨List.mem_append_right _ (List.mem_of_getElem? (i := 81) (by decide +kernel)), (by decide +kernel)⟩
theorem tb_82 : (Jvm.Cond.fieldLink "SoundWells" (202 : Nat) "SoundWells$Saw" "pieces" "[I") ∈ TB := List.mem_filter.mpr ⟨List.mem_append_right _ (List.mem_of_getElem? (i := 82) (by decide +kernel)), (by decide +kernel)⟩
theorem tb_83 : (Jvm.Cond.fieldLink "SoundWells$Saw" (27 : Nat) "SoundWells$Saw" "longest" "[I") ∈ TB := List.mem_filter.mpr ⟨List.mem_append_right _ (List.mem_of_getElem? (i := 83) (by decide +kernel)), (by decide +kernel)⟩
theorem tb_84 : (Jvm.Cond.fieldLink "SoundWells" (209 : Nat) "SoundWells$Saw" "longest" "[I") ∈ TB := List.mem_filter.mpr ⟨List.mem_append_right _ (List.mem_of_getElem? (i := 84) (by decide +kernel)), (by decide +kernel)⟩
theorem tb_85 : (Jvm.Cond.fieldLink "SoundWells$Saw" (77 : Nat) "SoundWells$Saw" "wells" "I") ∈ TB := List.mem_filter.mpr ⟨List.mem_append_right _ (List.mem_of_getElem? (i := 85) (by decide +kernel)), (by decide +kernel)⟩
theorem tb_86 : (Jvm.Cond.fieldLink "SoundWells$Saw" (58 : Nat) "SoundWells$Saw" "unit" "I") ∈ TB := List.mem_filter.mpr ⟨List.mem_append_right _ (List.mem_of_getElem? (i := 86) (by decide +kernel)), (by decide +kernel)⟩
theorem tb_87 : (Jvm.Cond.fieldLink "SoundWells$Saw" (61 : Nat) "SoundWells$Saw" "boardLength" "I") ∈ TB := List.mem_filter.mpr ⟨List.mem_append_right _ (List.mem_of_getElem? (i := 87) (by decide +kernel)), (by decide +kernel)⟩
theorem tb_88 : (Jvm.Cond.fieldLink "SoundWells$Saw" (76 : Nat) "SoundWells$Saw" "cutWidth" "I") ∈ TB := List.mem_filter.mpr ⟨List.mem_append_right _ (List.mem_of_getElem? (i := 88) (by decide +kernel)), (by decide +kernel)⟩
theorem tb_89 : (Jvm.Cond.fieldLink "SoundWells$Saw" (80 : Nat) "SoundWells$Saw" "boards" "I") ∈ TB := List.mem_filter.mpr ⟨List.mem_append_right _ (List.mem_of_getElem? (i := 89) (by decide +kernel)), (by decide +kernel)⟩
theorem tb_90 : (Jvm.Cond.fieldLink "SoundWells" (184 : Nat) "SoundWells$Saw" "boards" "I") ∈ TB := List.mem_filter.mpr ⟨List.mem_append_right _ (List.mem_of_getElem? (i := 90) (by decide +kernel)), (by decide +kernel)⟩
theorem tb_91 : (Jvm.Cond.fieldLink "SoundWells$Saw" (83 : Nat) "SoundWells$Saw" "blocks" "I") ∈ TB := List.mem_filter.mpr ⟨List.mem_append_right _ (List.mem_of_getElem? (i := 91) (by decide +kernel)), (by decide +kernel)⟩
theorem tb_92 : (Jvm.Cond.fieldLink "SoundWells" (187 : Nat) "SoundWells$Saw" "blocks" "I") ∈ TB := List.mem_filter.mpr ⟨List.mem_append_right _ (List.mem_of_getElem? (i := 92) (by decide +kernel)), (by decide +kernel)⟩
theorem tb_93 : (Jvm.Cond.fieldLink "SoundWells$Saw" (64 : Nat) "SoundWells$Saw" "lost" "I") ∈ TB := List.mem_filter.mpr ⟨List.mem_append_right _ (List.mem_of_getElem? (i := 93) (by decide +kernel)), (by decide +kernel)⟩
theorem tb_94 : (Jvm.Cond.fieldLink "SoundWells" (190 : Nat) "SoundWells$Saw" "lost" "I") ∈ TB := List.mem_filter.mpr ⟨List.mem_append_right _ (List.mem_of_getElem? (i := 94) (by decide +kernel)), (by decide +kernel)⟩
theorem tb_95 : (Jvm.Cond.fieldLink "SoundWells$Saw" (86 : Nat) "SoundWells$Saw" "lengths" "I") ∈ TB := List.mem_filter.mpr ⟨List.mem_append_right _ (List.mem_of_getElem? (i := 95) (by decide +kernel)), (by decide +kernel)⟩
theorem tb_96 : (Jvm.Cond.fieldLink "SoundWells" (193 : Nat) "SoundWells$Saw" "lengths" "I") ∈ TB := List.mem_filter.mpr ⟨List.mem_append_right _ (List.mem_of_getElem? (i := 96) (by decide +kernel)), (by decide +kernel)⟩
theorem tb_97 : (Jvm.Cond.laysFinal "SoundWells$Saw" "SoundWells$Saw" "depths" "[I") ∈ TB := List.mem_filter.mpr ⟨List.mem_append_right _ (List.mem_of_getElem? (i := 97) (by decide +kernel)), (by decide +kernel)⟩
theorem tb_98 : (Jvm.Cond.soleField "SoundWells$Saw" "depths") ∈ TB := List.mem_filter.mpr ⟨List.mem_append_right _ (List.mem_of_getElem? (i := 98) (by decide +kernel)), (by decide +kernel)⟩
theorem tb_99 : (Jvm.Cond.laysFinal "SoundWells$Saw" "SoundWells$Saw" "alike" "[I") ∈ TB := List.mem_filter.mpr ⟨List.mem_append_right _ (List.mem_of_getElem? (i := 99) (by decide +kernel)), (by decide +kernel)⟩
theorem tb_100 : (Jvm.Cond.soleField "SoundWells$Saw" "alike") ∈ TB := List.mem_filter.mpr ⟨List.mem_append_right _ (List.mem_of_getElem? (i := 100) (by decide +kernel)), (by decide +kernel)⟩
theorem tb_101 : (Jvm.Cond.laysFinal "SoundWells$Saw" "SoundWells$Saw" "boardOf" "[I") ∈ TB := List.mem_filter.mpr ⟨List.mem_append_right _ (List.mem_of_getElem? (i := 101) (by decide +kernel)), (by decide +kernel)⟩
theorem tb_102 : (Jvm.Cond.soleField "SoundWells$Saw" "boardOf") ∈ TB := List.mem_filter.mpr ⟨List.mem_append_right _ (List.mem_of_getElem? (i := 102) (by decide +kernel)), (by decide +kernel)⟩
theorem tb_103 : (Jvm.Cond.laysFinal "SoundWells$Saw" "SoundWells$Saw" "used" "[I") ∈ TB := List.mem_filter.mpr ⟨List.mem_append_right _ (List.mem_of_getElem? (i := 103) (by decide +kernel)), (by decide +kernel)⟩
theorem tb_104 : (Jvm.Cond.soleField "SoundWells$Saw" "used") ∈ TB := List.mem_filter.mpr ⟨List.mem_append_right _ (List.mem_of_getElem? (i := 104) (by decide +kernel)), (by decide +kernel)⟩
theorem tb_105 : (Jvm.Cond.laysFinal "SoundWells$Saw" "SoundWells$Saw" "pieces" "[I") ∈ TB := List.mem_filter.mpr ⟨List.mem_append_right _ (List.mem_of_getElem? (i := 105) (by decide +kernel)), (by decide +kernel)⟩
theorem tb_106 : (Jvm.Cond.soleField "SoundWells$Saw" "pieces") ∈ TB := List.mem_filter.mpr ⟨List.mem_append_right _ (List.mem_of_getElem? (i := 106) (by decide +kernel)), (by decide +kernel)⟩
theorem tb_107 : (Jvm.Cond.laysFinal "SoundWells$Saw" "SoundWells$Saw" "longest" "[I") ∈ TB := List.mem_filter.mpr ⟨List.mem_append_right _ (List.mem_of_getElem? (i := 107) (by decide +kernel)), (by decide +kernel)⟩
theorem tb_108 : (Jvm.Cond.soleField "SoundWells$Saw" "longest") ∈ TB := List.mem_filter.mpr ⟨List.mem_append_right _ (List.mem_of_getElem? (i := 108) (by decide +kernel)), (by decide +kernel)⟩
theorem tb_109 : (Jvm.Cond.lays "SoundWells$Saw" "SoundWells$Saw" "wells" "I") ∈ TB := List.mem_filter.mpr ⟨List.mem_append_right _ (List.mem_of_getElem? (i := 109) (by decide +kernel)), (by decide +kernel)⟩
theorem tb_110 : (Jvm.Cond.soleField "SoundWells$Saw" "wells") ∈ TB := List.mem_filter.mpr ⟨List.mem_append_right _ (List.mem_of_getElem? (i := 110) (by decide +kernel)), (by decide +kernel)⟩
theorem tb_111 : (Jvm.Cond.lays "SoundWells$Saw" "SoundWells$Saw" "unit" "I") ∈ TB := List.mem_filter.mpr ⟨List.mem_append_right _ (List.mem_of_getElem? (i := 111) (by decide +kernel)), (by decide +kernel)⟩
theorem tb_112 : (Jvm.Cond.soleField "SoundWells$Saw" "unit") ∈ TB := List.mem_filter.mpr ⟨List.mem_append_right _ (List.mem_of_getElem? (i := 112) (by decide +kernel)), (by decide +kernel)⟩
theorem tb_113 : (Jvm.Cond.lays "SoundWells$Saw" "SoundWells$Saw" "boardLength" "I") ∈ TB := List.mem_filter.mpr ⟨List.mem_append_right _ (List.mem_of_getElem? (i := 113) (by decide +kernel)), (by decide +kernel)⟩
theorem tb_114 : (Jvm.Cond.soleField "SoundWells$Saw" "boardLength") ∈ TB := List.mem_filter.mpr ⟨List.mem_append_right _ (List.mem_of_getElem? (i := 114) (by decide +kernel)), (by decide +kernel)⟩
theorem tb_115 : (Jvm.Cond.lays "SoundWells$Saw" "SoundWells$Saw" "cutWidth" "I") ∈ TB := List.mem_filter.mpr ⟨List.mem_append_right _ (List.mem_of_getElem? (i := 115) (by decide +kernel)), (by decide +kernel)⟩
theorem tb_116 : (Jvm.Cond.soleField "SoundWells$Saw" "cutWidth") ∈ TB := List.mem_filter.mpr ⟨List.mem_append_right _ (List.mem_of_getElem? (i := 116) (by decide +kernel)), (by decide +kernel)⟩
theorem tb_117 : (Jvm.Cond.lays "SoundWells$Saw" "SoundWells$Saw" "boards" "I") ∈ TB := List.mem_filter.mpr ⟨List.mem_append_right _ (List.mem_of_getElem? (i := 117) (by decide +kernel)), (by decide +kernel)⟩
theorem tb_118 : (Jvm.Cond.soleField "SoundWells$Saw" "boards") ∈ TB := List.mem_filter.mpr ⟨List.mem_append_right _ (List.mem_of_getElem? (i := 118) (by decide +kernel)), (by decide +kernel)⟩
theorem tb_119 : (Jvm.Cond.lays "SoundWells$Saw" "SoundWells$Saw" "blocks" "I") ∈ TB := List.mem_filter.mpr ⟨List.mem_append_right _ (List.mem_of_getElem? (i := 119) (by decide +kernel)), (by decide +kernel)⟩
theorem tb_120 : (Jvm.Cond.soleField "SoundWells$Saw" "blocks") ∈ TB := List.mem_filter.mpr ⟨List.mem_append_right _ (List.mem_of_getElem? (i := 120) (by decide +kernel)), (by decide +kernel)⟩
theorem tb_121 : (Jvm.Cond.lays "SoundWells$Saw" "SoundWells$Saw" "lost" "I") ∈ TB := List.mem_filter.mpr ⟨List.mem_append_right _ (List.mem_of_getElem? (i := 121) (by decide +kernel)), (by decide +kernel)⟩
theorem tb_122 : (Jvm.Cond.soleField "SoundWells$Saw" "lost") ∈ TB := List.mem_filter.mpr ⟨List.mem_append_right _ (List.mem_of_getElem? (i := 122) (by decide +kernel)), (by decide +kernel)⟩
theorem tb_123 : (Jvm.Cond.lays "SoundWells$Saw" "SoundWells$Saw" "lengths" "I") ∈ TB := List.mem_filter.mpr ⟨List.mem_append_right _ (List.mem_of_getElem? (i := 123) (by decide +kernel)), (by decide +kernel)⟩
theorem tb_124 : (Jvm.Cond.soleField "SoundWells$Saw" "lengths") ∈ TB := List.mem_filter.mpr ⟨List.mem_append_right _ (List.mem_of_getElem? (i := 124) (by decide +kernel)), (by decide +kernel)⟩
theorem tb_125 : (Jvm.Cond.superclass "SoundWells$Saw" "java/lang/Object") ∈ TB := List.mem_filter.mpr ⟨List.mem_append_right _ (List.mem_of_getElem? (i := 125) (by decide +kernel)), (by decide +kernel)⟩
theorem tb_126 : (Jvm.Cond.classLink "SoundWells" (34 : Nat) "SoundWells$Panel") ∈ TB := List.mem_filter.mpr ⟨List.mem_append_right _ (List.mem_of_getElem? (i := 126) (by decide +kernel)), (by decide +kernel)⟩
theorem tb_127 : (Jvm.Cond.instantiable "SoundWells$Panel" (7 : Nat)) ∈ TB := List.mem_filter.mpr ⟨List.mem_append_right _ (List.mem_of_getElem? (i := 127) (by decide +kernel)), (by decide +kernel)⟩
theorem tb_128 : (Jvm.Cond.methodLink "SoundWells" (36 : Nat) ({ cls := "SoundWells$Panel", name := "<init>", desc := "(IIIII)V" } : Jvm.MethodName)) ∈ TB := List.mem_filter.mpr ⟨List.mem_append_right _ (List.mem_of_getElem? (i := 128) (by decide +kernel)), (by decide +kernel)⟩
theorem tb_129 : (Jvm.Cond.instanceMethod ({ cls := "SoundWells$Panel", name := "<init>", desc := "(IIIII)V" } : Jvm.MethodName)) ∈ TB := List.mem_filter.mpr ⟨List.mem_append_right _ (List.mem_of_getElem? (i := 129) (by decide +kernel)), (by decide +kernel)⟩
theorem tb_130 : (Jvm.Cond.code ({ cls := "SoundWells$Panel", name := "<init>", desc := "(IIIII)V" } : Jvm.MethodName) prog_3_method_1_code (6 : Nat) (Option.none : Option Jvm.ClassFile.FieldType)) ∈ TB := List.mem_filter.mpr ⟨List.mem_append_right _ (List.mem_of_getElem? (i := 130) (by decide +kernel)), (by decide +kernel)⟩
theorem tb_131 : (Jvm.Cond.methodLink "SoundWells$Panel" (3 : Nat) ({ cls := "java/lang/Object", name := "<init>", desc := "()V" } : Jvm.MethodName)) ∈ TB := List.mem_filter.mpr ⟨List.mem_append_right _ (List.mem_of_getElem? (i := 131) (by decide +kernel)), (by decide +kernel)⟩
theorem tb_132 : (Jvm.Cond.methodLink "SoundWells$Panel" (30 : Nat) ({ cls := "SoundWells$Panel", name := "rowOf", desc := "(III)[I" } : Jvm.MethodName)) ∈ TB := List.mem_filter.mpr ⟨List.mem_append_right _ (List.mem_of_getElem? (i := 132) (by decide +kernel)), (by decide +kernel)⟩
theorem tb_133 : (Jvm.Cond.static ({ cls := "SoundWells$Panel", name := "rowOf", desc := "(III)[I" } : Jvm.MethodName)) ∈ TB := List.mem_filter.mpr ⟨List.mem_append_right _ (List.mem_of_getElem? (i := 133) (by decide +kernel)), (by decide +kernel)⟩
theorem tb_134 : (Jvm.Cond.code ({ cls := "SoundWells$Panel", name := "rowOf", desc := "(III)[I" } : Jvm.MethodName) prog_3_method_2_code (7 : Nat) (Option.some (Jvm.ClassFile.FieldType.array Jvm.ClassFile.FieldType.int))) ∈ TB := List.mem_filter.mpr ⟨List.mem_append_right _ (List.mem_of_getElem? (i := 134) (by decide +kernel)), (by decide +kernel)⟩
theorem tb_135 : (Jvm.Cond.methodLink "SoundWells$Panel" (38 : Nat) ({ cls := "SoundWells$Numbers", name := "squareBits", desc := "(I)I" } : Jvm.MethodName)) ∈ TB := List.mem_filter.mpr ⟨List.mem_append_right _ (List.mem_of_getElem? (i := 135) (by decide +kernel)), (by decide +kernel)⟩
theorem tb_136 : (Jvm.Cond.static ({ cls := "SoundWells$Numbers", name := "squareBits", desc := "(I)I" } : Jvm.MethodName)) ∈ TB := List.mem_filter.mpr ⟨List.mem_append_right _ (List.mem_of_getElem? (i := 136) (by decide +kernel)), (by decide +kernel)⟩
theorem tb_137 : (Jvm.Cond.code ({ cls := "SoundWells$Numbers", name := "squareBits", desc := "(I)I" } : Jvm.MethodName) prog_2_method_5_code (3 : Nat) (Option.some Jvm.ClassFile.FieldType.int)) ∈ TB := List.mem_filter.mpr ⟨List.mem_append_right _ (List.mem_of_getElem? (i := 137) (by decide +kernel)), (by decide +kernel)⟩
theorem tb_138 : (Jvm.Cond.methodLink "SoundWells$Panel" (44 : Nat) ({ cls := "SoundWells$Numbers", name := "rest", desc := "(II)I" } : Jvm.MethodName)) ∈ TB := List.mem_filter.mpr ⟨List.mem_append_right _ (List.mem_of_getElem? (i := 138) (by decide +kernel)), (by decide +kernel)⟩
theorem tb_139 : (Jvm.Cond.static ({ cls := "SoundWells$Numbers", name := "rest", desc := "(II)I" } : Jvm.MethodName)) ∈ TB := List.mem_filter.mpr ⟨List.mem_append_right _ (List.mem_of_getElem? (i := 139) (by decide +kernel)), (by decide +kernel)⟩
theorem tb_140 : (Jvm.Cond.code ({ cls := "SoundWells$Numbers", name := "rest", desc := "(II)I" } : Jvm.MethodName) prog_2_method_3_code (3 : Nat) (Option.some Jvm.ClassFile.FieldType.int)) ∈ TB := List.mem_filter.mpr ⟨List.mem_append_right _ (List.mem_of_getElem? (i := 140) (by decide +kernel)), (by decide +kernel)⟩
theorem tb_141 : (Jvm.Cond.fieldLink "SoundWells$Panel" (9 : Nat) "SoundWells$Panel" "kind" "I") ∈ TB := List.mem_filter.mpr ⟨List.mem_append_right _ (List.mem_of_getElem? (i := 141) (by decide +kernel)), (by decide +kernel)⟩
theorem tb_142 : (Jvm.Cond.fieldLink "SoundWells" (128 : Nat) "SoundWells$Panel" "kind" "I") ∈ TB := List.mem_filter.mpr ⟨List.mem_append_right _ (List.mem_of_getElem? (i := 142) (by decide +kernel)), (by decide +kernel)⟩
theorem tb_143 : (Jvm.Cond.fieldLink "SoundWells$Panel" (15 : Nat) "SoundWells$Panel" "prime" "I") ∈ TB := List.mem_filter.mpr ⟨List.mem_append_right _ (List.mem_of_getElem? (i := 143) (by decide +kernel)), (by decide +kernel)⟩
theorem tb_144 : (Jvm.Cond.fieldLink "SoundWells" (131 : Nat) "SoundWells$Panel" "prime" "I") ∈ TB := List.mem_filter.mpr ⟨List.mem_append_right _ (List.mem_of_getElem? (i := 144) (by decide +kernel)), (by decide +kernel)⟩
theorem tb_145 : (Jvm.Cond.fieldLink "SoundWells$Panel" (18 : Nat) "SoundWells$Panel" "factor" "I") ∈ TB := List.mem_filter.mpr ⟨List.mem_append_right _ (List.mem_of_getElem? (i := 145) (by decide +kernel)), (by decide +kernel)⟩
theorem tb_146 : (Jvm.Cond.fieldLink "SoundWells" (134 : Nat) "SoundWells$Panel" "factor" "I") ∈ TB := List.mem_filter.mpr ⟨List.mem_append_right _ (List.mem_of_getElem? (i := 146) (by decide +kernel)), (by decide +kernel)⟩
theorem tb_147 : (Jvm.Cond.fieldLink "SoundWells$Panel" (21 : Nat) "SoundWells$Panel" "offset" "I") ∈ TB := List.mem_filter.mpr ⟨List.mem_append_right _ (List.mem_of_getElem? (i := 147) (by decide +kernel)), (by decide +kernel)⟩
theorem tb_148 : (Jvm.Cond.fieldLink "SoundWells$Saw" (48 : Nat) "SoundWells$Panel" "offset" "I") ∈ TB := List.mem_filter.mpr ⟨List.mem_append_right _ (List.mem_of_getElem? (i := 148) (by decide +kernel)), (by decide +kernel)⟩
theorem tb_149 : (Jvm.Cond.fieldLink "SoundWells" (137 : Nat) "SoundWells$Panel" "offset" "I") ∈ TB := List.mem_filter.mpr ⟨List.mem_append_right _ (List.mem_of_getElem? (i := 149) (by decide +kernel)), (by decide +kernel)⟩
theorem tb_150 : (Jvm.Cond.fieldLink "SoundWells$Panel" (24 : Nat) "SoundWells$Panel" "wells" "I") ∈ TB := List.mem_filter.mpr ⟨List.mem_append_right _ (List.mem_of_getElem? (i := 150) (by decide +kernel)), (by decide +kernel)⟩
theorem tb_151 : (Jvm.Cond.fieldLink "SoundWells$Plan" (23 : Nat) "SoundWells$Panel" "wells" "I") ∈ TB := List.mem_filter.mpr ⟨List.mem_append_right _ (List.mem_of_getElem? (i := 151) (by decide +kernel)), (by decide +kernel)⟩
theorem tb_152 : (Jvm.Cond.fieldLink "SoundWells$Saw" (95 : Nat) "SoundWells$Panel" "wells" "I") ∈ TB := List.mem_filter.mpr ⟨List.mem_append_right _ (List.mem_of_getElem? (i := 152) (by decide +kernel)), (by decide +kernel)⟩
theorem tb_153 : (Jvm.Cond.fieldLink "SoundWells" (140 : Nat) "SoundWells$Panel" "wells" "I") ∈ TB := List.mem_filter.mpr ⟨List.mem_append_right _ (List.mem_of_getElem? (i := 153) (by decide +kernel)), (by decide +kernel)⟩
theorem tb_154 : (Jvm.Cond.fieldLink "SoundWells$Panel" (27 : Nat) "SoundWells$Panel" "period" "I") ∈ TB := List.mem_filter.mpr ⟨List.mem_append_right _ (List.mem_of_getElem? (i := 154) (by decide +kernel)), (by decide +kernel)⟩
theorem tb_155 : (Jvm.Cond.fieldLink "SoundWells" (143 : Nat) "SoundWells$Panel" "period" "I") ∈ TB := List.mem_filter.mpr ⟨List.mem_append_right _ (List.mem_of_getElem? (i := 155) (by decide +kernel)), (by decide +kernel)⟩
theorem tb_156 : (Jvm.Cond.fieldLink "SoundWells$Panel" (34 : Nat) "SoundWells$Panel" "row" "[I") ∈ TB := List.mem_filter.mpr ⟨List.mem_append_right _ (List.mem_of_getElem? (i := 156) (by decide +kernel)), (by decide +kernel)⟩
theorem tb_157 : (Jvm.Cond.laysFinal "SoundWells$Panel" "SoundWells$Panel" "kind" "I") ∈ TB := List.mem_filter.mpr ⟨List.mem_append_right _ (List.mem_of_getElem? (i := 157) (by decide +kernel)), (by decide +kernel)⟩
theorem tb_158 : (Jvm.Cond.soleField "SoundWells$Panel" "kind") ∈ TB := List.mem_filter.mpr ⟨List.mem_append_right _ (List.mem_of_getElem? (i := 158) (by decide +kernel)), (by decide +kernel)⟩
theorem tb_159 : (Jvm.Cond.laysFinal "SoundWells$Panel" "SoundWells$Panel" "prime" "I") ∈ TB := List.mem_filter.mpr ⟨List.mem_append_right _ (List.mem_of_getElem? (i := 159) (by decide +kernel)), (by decide +kernel)⟩
theorem tb_160 : (Jvm.Cond.soleField "SoundWells$Panel" "prime") ∈ TB := List.mem_filter.mpr ⟨List.mem_append_right _ (List.mem_of_getElem? (i := 160) (by decide +kernel)), (by decide +kernel)⟩
theorem tb_161 : (Jvm.Cond.laysFinal "SoundWells$Panel" "SoundWells$Panel" "factor" "I") ∈ TB := List.mem_filter.mpr ⟨List.mem_append_right _ (List.mem_of_getElem? (i := 161) (by decide +kernel)), (by decide +kernel)⟩
theorem tb_162 : (Jvm.Cond.soleField "SoundWells$Panel" "factor") ∈ TB := List.mem_filter.mpr ⟨List.mem_append_right _ (List.mem_of_getElem? (i := 162) (by decide +kernel)), (by decide +kernel)⟩
theorem tb_163 : (Jvm.Cond.laysFinal "SoundWells$Panel" "SoundWells$Panel" "offset" "I") ∈ TB := List.mem_filter.mpr ⟨List.mem_append_right _ (List.mem_of_getElem? (i := 163) (by decide +kernel)), (by decide +kernel)⟩
theorem tb_164 : (Jvm.Cond.soleField "SoundWells$Panel" "offset") ∈ TB := List.mem_filter.mpr ⟨List.mem_append_right _ (List.mem_of_getElem? (i := 164) (by decide +kernel)), (by decide +kernel)⟩
theorem tb_165 : (Jvm.Cond.laysFinal "SoundWells$Panel" "SoundWells$Panel" "wells" "I") ∈ TB := List.mem_filter.mpr ⟨List.mem_append_right _ (List.mem_of_getElem? (i := 165) (by decide +kernel)), (by decide +kernel)⟩
theorem tb_166 : (Jvm.Cond.soleField "SoundWells$Panel" "wells") ∈ TB := List.mem_filter.mpr ⟨List.mem_append_right _ (List.mem_of_getElem? (i := 166) (by decide +kernel)), (by decide +kernel)⟩
theorem tb_167 : (Jvm.Cond.laysFinal "SoundWells$Panel" "SoundWells$Panel" "period" "I") ∈ TB := List.mem_filter.mpr ⟨List.mem_append_right _ (List.mem_of_getElem? (i := 167) (by decide +kernel)), (by decide +kernel)⟩
theorem tb_168 : (Jvm.Cond.soleField "SoundWells$Panel" "period") ∈ TB := List.mem_filter.mpr ⟨List.mem_append_right _ (List.mem_of_getElem? (i := 168) (by decide +kernel)), (by decide +kernel)⟩
theorem tb_169 : (Jvm.Cond.laysFinal "SoundWells$Panel" "SoundWells$Panel" "row" "[I") ∈ TB := List.mem_filter.mpr ⟨List.mem_append_right _ (List.mem_of_getElem? (i := 169) (by decide +kernel)), (by decide +kernel)⟩
theorem tb_170 : (Jvm.Cond.soleField "SoundWells$Panel" "row") ∈ TB := List.mem_filter.mpr ⟨List.mem_append_right _ (List.mem_of_getElem? (i := 170) (by decide +kernel)), (by decide +kernel)⟩
theorem tb_171 : (Jvm.Cond.superclass "SoundWells$Panel" "java/lang/Object") ∈ TB := List.mem_filter.mpr ⟨List.mem_append_right _ (List.mem_of_getElem? (i := 171) (by decide +kernel)), (by decide +kernel)⟩
theorem tb_172 : (Jvm.Cond.classLink "SoundWells" (39 : Nat) "SoundWells$Plan") ∈ TB := List.mem_filter.mpr ⟨List.mem_append_right _ (List.mem_of_getElem? (i := 172) (by decide +kernel)), (by decide +kernel)⟩
theorem tb_173 : (Jvm.Cond.instantiable "SoundWells$Plan" (4 : Nat)) ∈ TB := List.mem_filter.mpr ⟨List.mem_append_right _ (List.mem_of_getElem? (i := 173) (by decide +kernel)), (by decide +kernel)⟩
theorem tb_174 : (Jvm.Cond.methodLink "SoundWells" (41 : Nat) ({ cls := "SoundWells$Plan", name := "<init>", desc := "([LSoundWells$Panel;III)V" } : Jvm.MethodName)) ∈ TB := List.mem_filter.mpr ⟨List.mem_append_right _ (List.mem_of_getElem? (i := 174) (by decide +kernel)), (by decide +kernel)⟩
theorem tb_175 : (Jvm.Cond.instanceMethod ({ cls := "SoundWells$Plan", name := "<init>", desc := "([LSoundWells$Panel;III)V" } : Jvm.MethodName)) ∈ TB := List.mem_filter.mpr ⟨List.mem_append_right _ (List.mem_of_getElem? (i := 175) (by decide +kernel)), (by decide +kernel)⟩
theorem tb_176 : (Jvm.Cond.code ({ cls := "SoundWells$Plan", name := "<init>", desc := "([LSoundWells$Panel;III)V" } : Jvm.MethodName) prog_5_method_1_code (5 : Nat) (Option.none : Option Jvm.ClassFile.FieldType)) ∈ TB := List.mem_filter.mpr ⟨List.mem_append_right _ (List.mem_of_getElem? (i := 176) (by decide +kernel)), (by decide +kernel)⟩
theorem tb_177 : (Jvm.Cond.methodLink "SoundWells$Plan" (1 : Nat) ({ cls := "java/lang/Object", name := "<init>", desc := "()V" } : Jvm.MethodName)) ∈ TB := List.mem_filter.mpr ⟨List.mem_append_right _ (List.mem_of_getElem? (i := 177) (by decide +kernel)), (by decide +kernel)⟩
theorem tb_178 : (Jvm.Cond.fieldLink "SoundWells$Plan" (7 : Nat) "SoundWells$Plan" "panels" "[LSoundWells$Panel;") ∈ TB := List.mem_filter.mpr ⟨List.mem_append_right _ (List.mem_of_getElem? (i := 178) (by decide +kernel)), (by decide +kernel)⟩
theorem tb_179 : (Jvm.Cond.fieldLink "SoundWells$Saw" (38 : Nat) "SoundWells$Plan" "panels" "[LSoundWells$Panel;") ∈ TB := List.mem_filter.mpr ⟨List.mem_append_right _ (List.mem_of_getElem? (i := 179) (by decide +kernel)), (by decide +kernel)⟩
theorem tb_180 : (Jvm.Cond.fieldLink "SoundWells" (63 : Nat) "SoundWells$Plan" "panels" "[LSoundWells$Panel;") ∈ TB := List.mem_filter.mpr ⟨List.mem_append_right _ (List.mem_of_getElem? (i := 180) (by decide +kernel)), (by decide +kernel)⟩
theorem tb_181 : (Jvm.Cond.fieldLink "SoundWells$Plan" (13 : Nat) "SoundWells$Plan" "unit" "I") ∈ TB := List.mem_filter.mpr ⟨List.mem_append_right _ (List.mem_of_getElem? (i := 181) (by decide +kernel)), (by decide +kernel)⟩
theorem tb_182 : (Jvm.Cond.fieldLink "SoundWells$Saw" (71 : Nat) "SoundWells$Plan" "unit" "I") ∈ TB := List.mem_filter.mpr ⟨List.mem_append_right _ (List.mem_of_getElem? (i := 182) (by decide +kernel)), (by decide +kernel)⟩
theorem tb_183 : (Jvm.Cond.fieldLink "SoundWells" (229 : Nat) "SoundWells$Plan" "unit" "I") ∈ TB := List.mem_filter.mpr ⟨List.mem_append_right _ (List.mem_of_getElem? (i := 183) (by decide +kernel)), (by decide +kernel)⟩
theorem tb_184 : (Jvm.Cond.fieldLink "SoundWells$Plan" (17 : Nat) "SoundWells$Plan" "boardLength" "I") ∈ TB := List.mem_filter.mpr ⟨List.mem_append_right _ (List.mem_of_getElem? (i := 184) (by decide +kernel)), (by decide +kernel)⟩
theorem tb_185 : (Jvm.Cond.fieldLink "SoundWells$Saw" (72 : Nat) "SoundWells$Plan" "boardLength" "I") ∈ TB := List.mem_filter.mpr ⟨List.mem_append_right _ (List.mem_of_getElem? (i := 185) (by decide +kernel)), (by decide +kernel)⟩
theorem tb_186 : (Jvm.Cond.fieldLink "SoundWells" (196 : Nat) "SoundWells$Plan" "boardLength" "I") ∈ TB := List.mem_filter.mpr ⟨List.mem_append_right _ (List.mem_of_getElem? (i := 186) (by decide +kernel)), (by decide +kernel)⟩
theorem tb_187 : (Jvm.Cond.fieldLink "SoundWells$Plan" (20 : Nat) "SoundWells$Plan" "cutWidth" "I") ∈ TB := List.mem_filter.mpr ⟨List.mem_append_right _ (List.mem_of_getElem? (i := 187) (by decide +kernel)), (by decide +kernel)⟩
theorem tb_188 : (Jvm.Cond.fieldLink "SoundWells$Saw" (73 : Nat) "SoundWells$Plan" "cutWidth" "I") ∈ TB := List.mem_filter.mpr ⟨List.mem_append_right _ (List.mem_of_getElem? (i := 188) (by decide +kernel)), (by decide +kernel)⟩
theorem tb_189 : (Jvm.Cond.fieldLink "SoundWells" (232 : Nat) "SoundWells$Plan" "cutWidth" "I") ∈ TB := List.mem_filter.mpr ⟨List.mem_append_right _ (List.mem_of_getElem? (i := 189) (by decide +kernel)), (by decide +kernel)⟩
theorem tb_190 : (Jvm.Cond.laysFinal "SoundWells$Plan" "SoundWells$Plan" "panels" "[LSoundWells$Panel;") ∈ TB := List.mem_filter.mpr ⟨List.mem_append_right _ (List.mem_of_getElem? (i := 190) (by decide +kernel)), (by decide +kernel)⟩
theorem tb_191 : (Jvm.Cond.soleField "SoundWells$Plan" "panels") ∈ TB := List.mem_filter.mpr ⟨List.mem_append_right _ (List.mem_of_getElem? (i := 191) (by decide +kernel)), (by decide +kernel)⟩
theorem tb_192 : (Jvm.Cond.laysFinal "SoundWells$Plan" "SoundWells$Plan" "unit" "I") ∈ TB := List.mem_filter.mpr ⟨List.mem_append_right _ (List.mem_of_getElem? (i := 192) (by decide +kernel)), (by decide +kernel)⟩
theorem tb_193 : (Jvm.Cond.soleField "SoundWells$Plan" "unit") ∈ TB := List.mem_filter.mpr ⟨List.mem_append_right _ (List.mem_of_getElem? (i := 193) (by decide +kernel)), (by decide +kernel)⟩
theorem tb_194 : (Jvm.Cond.laysFinal "SoundWells$Plan" "SoundWells$Plan" "boardLength" "I") ∈ TB := List.mem_filter.mpr ⟨List.mem_append_right _ (List.mem_of_getElem? (i := 194) (by decide +kernel)), (by decide +kernel)⟩
theorem tb_195 : (Jvm.Cond.soleField "SoundWells$Plan" "boardLength") ∈ TB := List.mem_filter.mpr ⟨List.mem_append_right _ (List.mem_of_getElem? (i := 195) (by decide +kernel)), (by decide +kernel)⟩
theorem tb_196 : (Jvm.Cond.laysFinal "SoundWells$Plan" "SoundWells$Plan" "cutWidth" "I") ∈ TB := List.mem_filter.mpr ⟨List.mem_append_right _ (List.mem_of_getElem? (i := 196) (by decide +kernel)), (by decide +kernel)⟩
theorem tb_197 : (Jvm.Cond.soleField "SoundWells$Plan" "cutWidth") ∈ TB := List.mem_filter.mpr ⟨List.mem_append_right _ (List.mem_of_getElem? (i := 197) (by decide +kernel)), (by decide +kernel)⟩
theorem tb_198 : (Jvm.Cond.superclass "SoundWells$Plan" "java/lang/Object") ∈ TB := List.mem_filter.mpr ⟨List.mem_append_right _ (List.mem_of_getElem? (i := 198) (by decide +kernel)), (by decide +kernel)⟩
theorem tb_199 : (Jvm.Cond.fieldLink "SoundWells" (9 : Nat) "SoundWells" "text" "[C") ∈ TB := List.mem_filter.mpr ⟨List.mem_append_right _ (List.mem_of_getElem? (i := 199) (by decide +kernel)), (by decide +kernel)⟩
theorem tb_200 : (Jvm.Cond.fieldLink "SoundWells" (16 : Nat) "SoundWells" "reader" "LSoundWells$Reader;") ∈ TB := List.mem_filter.mpr ⟨List.mem_append_right _ (List.mem_of_getElem? (i := 200) (by decide +kernel)), (by decide +kernel)⟩
theorem tb_201 : (Jvm.Cond.fieldLink "SoundWells" (23 : Nat) "SoundWells" "past" "LSoundWells$Past;") ∈ TB := List.mem_filter.mpr ⟨List.mem_append_right _ (List.mem_of_getElem? (i := 201) (by decide +kernel)), (by decide +kernel)⟩
theorem tb_202 : (Jvm.Cond.fieldLink "SoundWells" (30 : Nat) "SoundWells" "saw" "LSoundWells$Saw;") ∈ TB := List.mem_filter.mpr ⟨List.mem_append_right _ (List.mem_of_getElem? (i := 202) (by decide +kernel)), (by decide +kernel)⟩
theorem tb_203 : (Jvm.Cond.fieldLink "SoundWells" (48 : Nat) "SoundWells" "letters" "I") ∈ TB := List.mem_filter.mpr ⟨List.mem_append_right _ (List.mem_of_getElem? (i := 203) (by decide +kernel)), (by decide +kernel)⟩
theorem tb_204 : (Jvm.Cond.fieldLink "SoundWells" (44 : Nat) "SoundWells" "plan" "LSoundWells$Plan;") ∈ TB := List.mem_filter.mpr ⟨List.mem_append_right _ (List.mem_of_getElem? (i := 204) (by decide +kernel)), (by decide +kernel)⟩
theorem tb_205 : (Jvm.Cond.laysFinal "SoundWells" "SoundWells" "text" "[C") ∈ TB := List.mem_filter.mpr ⟨List.mem_append_right _ (List.mem_of_getElem? (i := 205) (by decide +kernel)), (by decide +kernel)⟩
theorem tb_206 : (Jvm.Cond.soleField "SoundWells" "text") ∈ TB := List.mem_filter.mpr ⟨List.mem_append_right _ (List.mem_of_getElem? (i := 206) (by decide +kernel)), (by decide +kernel)⟩
theorem tb_207 : (Jvm.Cond.laysFinal "SoundWells" "SoundWells" "reader" "LSoundWells$Reader;") ∈ TB := List.mem_filter.mpr ⟨List.mem_append_right _ (List.mem_of_getElem? (i := 207) (by decide +kernel)), (by decide +kernel)⟩
theorem tb_208 : (Jvm.Cond.soleField "SoundWells" "reader") ∈ TB := List.mem_filter.mpr ⟨List.mem_append_right _ (List.mem_of_getElem? (i := 208) (by decide +kernel)), (by decide +kernel)⟩
theorem tb_209 : (Jvm.Cond.laysFinal "SoundWells" "SoundWells" "past" "LSoundWells$Past;") ∈ TB := List.mem_filter.mpr ⟨List.mem_append_right _ (List.mem_of_getElem? (i := 209) (by decide +kernel)), (by decide +kernel)⟩
theorem tb_210 : (Jvm.Cond.soleField "SoundWells" "past") ∈ TB := List.mem_filter.mpr ⟨List.mem_append_right _ (List.mem_of_getElem? (i := 210) (by decide +kernel)), (by decide +kernel)⟩
theorem tb_211 : (Jvm.Cond.laysFinal "SoundWells" "SoundWells" "saw" "LSoundWells$Saw;") ∈ TB := List.mem_filter.mpr ⟨List.mem_append_right _ (List.mem_of_getElem? (i := 211) (by decide +kernel)), (by decide +kernel)⟩
theorem tb_212 : (Jvm.Cond.soleField "SoundWells" "saw") ∈ TB := List.mem_filter.mpr ⟨List.mem_append_right _ (List.mem_of_getElem? (i := 212) (by decide +kernel)), (by decide +kernel)⟩
theorem tb_213 : (Jvm.Cond.lays "SoundWells" "SoundWells" "letters" "I") ∈ TB := List.mem_filter.mpr ⟨List.mem_append_right _ (List.mem_of_getElem? (i := 213) (by decide +kernel)), (by decide +kernel)⟩
theorem tb_214 : (Jvm.Cond.soleField "SoundWells" "letters") ∈ TB := List.mem_filter.mpr ⟨List.mem_append_right _ (List.mem_of_getElem? (i := 214) (by decide +kernel)), (by decide +kernel)⟩
theorem tb_215 : (Jvm.Cond.lays "SoundWells" "SoundWells" "plan" "LSoundWells$Plan;") ∈ TB := List.mem_filter.mpr ⟨List.mem_append_right _ (List.mem_of_getElem? (i := 215) (by decide +kernel)), (by decide +kernel)⟩
theorem tb_216 : (Jvm.Cond.soleField "SoundWells" "plan") ∈ TB := List.mem_filter.mpr ⟨List.mem_append_right _ (List.mem_of_getElem? (i := 216) (by decide +kernel)), (by decide +kernel)⟩
theorem tb_217 : (Jvm.Cond.superclass "SoundWells" "java/lang/Object") ∈ TB := List.mem_filter.mpr ⟨List.mem_append_right _ (List.mem_of_getElem? (i := 217) (by decide +kernel)), (by decide +kernel)⟩
theorem tb_218 : (Jvm.Cond.methodLink "SoundWellsLaw" (13 : Nat) ({ cls := "SoundWells", name := "write", desc := "(I)I" } : Jvm.MethodName)) ∈ TB := List.mem_filter.mpr ⟨List.mem_append_right _ (List.mem_of_getElem? (i := 218) (by decide +kernel)), (by decide +kernel)⟩
theorem tb_219 : (Jvm.Cond.instanceMethod ({ cls := "SoundWells", name := "write", desc := "(I)I" } : Jvm.MethodName)) ∈ TB := List.mem_filter.mpr ⟨List.mem_append_right _ (List.mem_of_getElem? (i := 219) (by decide +kernel)), (by decide +kernel)⟩
theorem tb_220 : (Jvm.Cond.selects "SoundWells" ({ cls := "SoundWells", name := "write", desc := "(I)I" } : Jvm.MethodName) ({ cls := "SoundWells", name := "write", desc := "(I)I" } : Jvm.MethodName)) ∈ TB := List.mem_filter.mpr ⟨List.mem_append_right _ (List.mem_of_getElem? (i := 220) (by decide +kernel)), (by decide +kernel)⟩
theorem tb_221 : (Jvm.Cond.code ({ cls := "SoundWells", name := "write", desc := "(I)I" } : Jvm.MethodName) prog_1_method_2_code (2 : Nat) (Option.some Jvm.ClassFile.FieldType.int)) ∈ TB := List.mem_filter.mpr ⟨List.mem_append_right _ (List.mem_of_getElem? (i := 221) (by decide +kernel)), (by decide +kernel)⟩
theorem tb_222 : (Jvm.Cond.methodLink "SoundWellsLaw" (18 : Nat) ({ cls := "SoundWells", name := "wipe", desc := "()I" } : Jvm.MethodName)) ∈ TB := List.mem_filter.mpr ⟨List.mem_append_right _ (List.mem_of_getElem? (i := 222) (by decide +kernel)), (by decide +kernel)⟩
theorem tb_223 : (Jvm.Cond.instanceMethod ({ cls := "SoundWells", name := "wipe", desc := "()I" } : Jvm.MethodName)) ∈ TB := List.mem_filter.mpr ⟨List.mem_append_right _ (List.mem_of_getElem? (i := 223) (by decide +kernel)), (by decide +kernel)⟩
theorem tb_224 : (Jvm.Cond.selects "SoundWells" ({ cls := "SoundWells", name := "wipe", desc := "()I" } : Jvm.MethodName) ({ cls := "SoundWells", name := "wipe", desc := "()I" } : Jvm.MethodName)) ∈ TB := List.mem_filter.mpr ⟨List.mem_append_right _ (List.mem_of_getElem? (i := 224) (by decide +kernel)), (by decide +kernel)⟩
theorem tb_225 : (Jvm.Cond.code ({ cls := "SoundWells", name := "wipe", desc := "()I" } : Jvm.MethodName) prog_1_method_3_code (2 : Nat) (Option.some Jvm.ClassFile.FieldType.int)) ∈ TB := List.mem_filter.mpr ⟨List.mem_append_right _ (List.mem_of_getElem? (i := 225) (by decide +kernel)), (by decide +kernel)⟩
theorem tb_226 : (Jvm.Cond.methodLink "SoundWellsLaw" (23 : Nat) ({ cls := "SoundWells", name := "fault", desc := "()I" } : Jvm.MethodName)) ∈ TB := List.mem_filter.mpr ⟨List.mem_append_right _ (List.mem_of_getElem? (i := 226) (by decide +kernel)), (by decide +kernel)⟩
theorem tb_227 : (Jvm.Cond.instanceMethod ({ cls := "SoundWells", name := "fault", desc := "()I" } : Jvm.MethodName)) ∈ TB := List.mem_filter.mpr ⟨List.mem_append_right _ (List.mem_of_getElem? (i := 227) (by decide +kernel)), (by decide +kernel)⟩
theorem tb_228 : (Jvm.Cond.selects "SoundWells" ({ cls := "SoundWells", name := "fault", desc := "()I" } : Jvm.MethodName) ({ cls := "SoundWells", name := "fault", desc := "()I" } : Jvm.MethodName)) ∈ TB := List.mem_filter.mpr ⟨List.mem_append_right _ (List.mem_of_getElem? (i := 228) (by decide +kernel)), (by decide +kernel)⟩
theorem tb_229 : (Jvm.Cond.code ({ cls := "SoundWells", name := "fault", desc := "()I" } : Jvm.MethodName) prog_1_method_4_code (1 : Nat) (Option.some Jvm.ClassFile.FieldType.int)) ∈ TB := List.mem_filter.mpr ⟨List.mem_append_right _ (List.mem_of_getElem? (i := 229) (by decide +kernel)), (by decide +kernel)⟩
theorem tb_230 : (Jvm.Cond.methodLink "SoundWells" (52 : Nat) ({ cls := "SoundWells$Reader", name := "firstFault", desc := "([CI)I" } : Jvm.MethodName)) ∈ TB := List.mem_filter.mpr ⟨List.mem_append_right _ (List.mem_of_getElem? (i := 230) (by decide +kernel)), (by decide +kernel)⟩
theorem tb_231 : (Jvm.Cond.instanceMethod ({ cls := "SoundWells$Reader", name := "firstFault", desc := "([CI)I" } : Jvm.MethodName)) ∈ TB := List.mem_filter.mpr ⟨List.mem_append_right _ (List.mem_of_getElem? (i := 231) (by decide +kernel)), (by decide +kernel)⟩
theorem tb_232 : (Jvm.Cond.selects "SoundWells$Reader" ({ cls := "SoundWells$Reader", name := "firstFault", desc := "([CI)I" } : Jvm.MethodName) ({ cls := "SoundWells$Reader", name := "firstFault", desc := "([CI)I" } : Jvm.MethodName)) ∈ TB := List.mem_filter.mpr ⟨List.mem_append_right _ (List.mem_of_getElem? (i := 232) (by decide +kernel)), (by decide +kernel)⟩
theorem tb_233 : (Jvm.Cond.code ({ cls := "SoundWells$Reader", name := "firstFault", desc := "([CI)I" } : Jvm.MethodName) prog_6_method_2_code (5 : Nat) (Option.some Jvm.ClassFile.FieldType.int)) ∈ TB := List.mem_filter.mpr ⟨List.mem_append_right _ (List.mem_of_getElem? (i := 233) (by decide +kernel)), (by decide +kernel)⟩
theorem tb_234 : (Jvm.Cond.methodLink "SoundWells$Reader" (41 : Nat) ({ cls := "SoundWells$Reader", name := "readItem", desc := "(I)I" } : Jvm.MethodName)) ∈ TB := List.mem_filter.mpr ⟨List.mem_append_right _ (List.mem_of_getElem? (i := 234) (by decide +kernel)), (by decide +kernel)⟩
theorem tb_236 : (Jvm.Cond.instanceMethod ({ cls := "SoundWells$Reader", name := "readItem", desc := "(I)I" } : Jvm.MethodName)) ∈ TB := List.mem_filter.mpr ⟨List.mem_append_right _ (List.mem_of_getElem? (i := 236) (by decide +kernel)), (by decide +kernel)⟩
theorem tb_237 : (Jvm.Cond.code ({ cls := "SoundWells$Reader", name := "readItem", desc := "(I)I" } : Jvm.MethodName) prog_6_method_4_code (8 : Nat) (Option.some Jvm.ClassFile.FieldType.int)) ∈ TB := List.mem_filter.mpr ⟨List.mem_append_right _ (List.mem_of_getElem? (i := 237) (by decide +kernel)), (by decide +kernel)⟩
theorem tb_238 : (Jvm.Cond.methodLink "SoundWells$Reader" (59 : Nat) ({ cls := "SoundWells$Reader", name := "letterAt", desc := "(I)C" } : Jvm.MethodName)) ∈ TB := List.mem_filter.mpr ⟨List.mem_append_right _ (List.mem_of_getElem? (i := 238) (by decide +kernel)), (by decide +kernel)⟩
theorem tb_240 : (Jvm.Cond.instanceMethod ({ cls := "SoundWells$Reader", name := "letterAt", desc := "(I)C" } : Jvm.MethodName)) ∈ TB := List.mem_filter.mpr ⟨List.mem_append_right _ (List.mem_of_getElem? (i := 240) (by decide +kernel)), (by decide +kernel)⟩
theorem tb_241 : (Jvm.Cond.code ({ cls := "SoundWells$Reader", name := "letterAt", desc := "(I)C" } : Jvm.MethodName) prog_6_method_6_code (2 : Nat) (Option.some Jvm.ClassFile.FieldType.char)) ∈ TB := List.mem_filter.mpr ⟨List.mem_append_right _ (List.mem_of_getElem? (i := 241) (by decide +kernel)), (by decide +kernel)⟩
theorem tb_242 : (Jvm.Cond.methodLink "SoundWells$Reader" (63 : Nat) ({ cls := "SoundWells$Reader", name := "numbersOf", desc := "(C)I" } : Jvm.MethodName)) ∈ TB := List.mem_filter.mpr ⟨List.mem_append_right _ (List.mem_of_getElem? (i := 242) (by decide +kernel)), (by decide +kernel)⟩
theorem tb_243 : (Jvm.Cond.static ({ cls := "SoundWells$Reader", name := "numbersOf", desc := "(C)I" } : Jvm.MethodName)) ∈ TB := List.mem_filter.mpr ⟨List.mem_append_right _ (List.mem_of_getElem? (i := 243) (by decide +kernel)), (by decide +kernel)⟩
theorem tb_244 : (Jvm.Cond.code ({ cls := "SoundWells$Reader", name := "numbersOf", desc := "(C)I" } : Jvm.MethodName) prog_6_method_5_code (1 : Nat) (Option.some Jvm.ClassFile.FieldType.int)) ∈ TB := List.mem_filter.mpr ⟨List.mem_append_right _ (List.mem_of_getElem? (i := 244) (by decide +kernel)), (by decide +kernel)⟩
theorem tb_245 : (Jvm.Cond.methodLink "SoundWells$Reader" (67 : Nat) ({ cls := "SoundWells$Reader", name := "endOfFigures", desc := "(I)I" } : Jvm.MethodName)) ∈ TB := List.mem_filter.mpr ⟨List.mem_append_right _ (List.mem_of_getElem? (i := 245) (by decide +kernel)), (by decide +kernel)⟩
theorem tb_247 : (Jvm.Cond.instanceMethod ({ cls := "SoundWells$Reader", name := "endOfFigures", desc := "(I)I" } : Jvm.MethodName)) ∈ TB := List.mem_filter.mpr ⟨List.mem_append_right _ (List.mem_of_getElem? (i := 247) (by decide +kernel)), (by decide +kernel)⟩
theorem tb_248 : (Jvm.Cond.code ({ cls := "SoundWells$Reader", name := "endOfFigures", desc := "(I)I" } : Jvm.MethodName) prog_6_method_8_code (3 : Nat) (Option.some Jvm.ClassFile.FieldType.int)) ∈ TB := List.mem_filter.mpr ⟨List.mem_append_right _ (List.mem_of_getElem? (i := 248) (by decide +kernel)), (by decide +kernel)⟩
theorem tb_249 : (Jvm.Cond.methodLink "SoundWells$Reader" (77 : Nat) ({ cls := "SoundWells$Reader", name := "isFigure", desc := "(I)Z" } : Jvm.MethodName)) ∈ TB := List.mem_filter.mpr ⟨List.mem_append_right _ (List.mem_of_getElem? (i := 249) (by decide +kernel)), (by decide +kernel)⟩
theorem tb_251 : (Jvm.Cond.instanceMethod ({ cls := "SoundWells$Reader", name := "isFigure", desc := "(I)Z" } : Jvm.MethodName)) ∈ TB := List.mem_filter.mpr ⟨List.mem_append_right _ (List.mem_of_getElem? (i := 251) (by decide +kernel)), (by decide +kernel)⟩
theorem tb_252 : (Jvm.Cond.code ({ cls := "SoundWells$Reader", name := "isFigure", desc := "(I)Z" } : Jvm.MethodName) prog_6_method_7_code (3 : Nat) (Option.some Jvm.ClassFile.FieldType.boolean)) ∈ TB := List.mem_filter.mpr ⟨List.mem_append_right _ (List.mem_of_getElem? (i := 252) (by decide +kernel)), (by decide +kernel)⟩
theorem tb_253 : (Jvm.Cond.methodLink "SoundWells$Reader" (70 : Nat) ({ cls := "SoundWells$Reader", name := "valueOf", desc := "(II)I" } : Jvm.MethodName)) ∈ TB := List.mem_filter.mpr ⟨List.mem_append_right _ (List.mem_of_getElem? (i := 253) (by decide +kernel)), (by decide +kernel)⟩
theorem tb_255 : (Jvm.Cond.instanceMethod ({ cls := "SoundWells$Reader", name := "valueOf", desc := "(II)I" } : Jvm.MethodName)) ∈ TB := List.mem_filter.mpr ⟨List.mem_append_right _ (List.mem_of_getElem? (i := 255) (by decide +kernel)), (by decide +kernel)⟩
theorem tb_256 : (Jvm.Cond.code ({ cls := "SoundWells$Reader", name := "valueOf", desc := "(II)I" } : Jvm.MethodName) prog_6_method_9_code (5 : Nat) (Option.some Jvm.ClassFile.FieldType.int)) ∈ TB := List.mem_filter.mpr ⟨List.mem_append_right _ (List.mem_of_getElem? (i := 256) (by decide +kernel)), (by decide +kernel)⟩
theorem tb_257 : (Jvm.Cond.methodLink "SoundWells$Reader" (73 : Nat) ({ cls := "SoundWells$Reader", name := "keepItem", desc := "(C)Z" } : Jvm.MethodName)) ∈ TB := List.mem_filter.mpr ⟨List.mem_append_right _ (List.mem_of_getElem? (i := 257) (by decide +kernel)), (by decide +kernel)⟩
theorem tb_259 : (Jvm.Cond.instanceMethod ({ cls := "SoundWells$Reader", name := "keepItem", desc := "(C)Z" } : Jvm.MethodName)) ∈ TB := List.mem_filter.mpr ⟨List.mem_append_right _ (List.mem_of_getElem? (i := 259) (by decide +kernel)), (by decide +kernel)⟩
theorem tb_260 : (Jvm.Cond.code ({ cls := "SoundWells$Reader", name := "keepItem", desc := "(C)Z" } : Jvm.MethodName) prog_6_method_10_code (7 : Nat) (Option.some Jvm.ClassFile.FieldType.boolean)) ∈ TB := List.mem_filter.mpr ⟨List.mem_append_right _ (List.mem_of_getElem? (i := 260) (by decide +kernel)), (by decide +kernel)⟩
theorem tb_261 : (Jvm.Cond.methodLink "SoundWells$Reader" (81 : Nat) ({ cls := "SoundWells$Reader", name := "keepUnit", desc := "()Z" } : Jvm.MethodName)) ∈ TB := List.mem_filter.mpr ⟨List.mem_append_right _ (List.mem_of_getElem? (i := 261) (by decide +kernel)), (by decide +kernel)⟩
theorem tb_263 : (Jvm.Cond.instanceMethod ({ cls := "SoundWells$Reader", name := "keepUnit", desc := "()Z" } : Jvm.MethodName)) ∈ TB := List.mem_filter.mpr ⟨List.mem_append_right _ (List.mem_of_getElem? (i := 263) (by decide +kernel)), (by decide +kernel)⟩
theorem tb_264 : (Jvm.Cond.code ({ cls := "SoundWells$Reader", name := "keepUnit", desc := "()Z" } : Jvm.MethodName) prog_6_method_11_code (1 : Nat) (Option.some Jvm.ClassFile.FieldType.boolean)) ∈ TB := List.mem_filter.mpr ⟨List.mem_append_right _ (List.mem_of_getElem? (i := 264) (by decide +kernel)), (by decide +kernel)⟩
theorem tb_265 : (Jvm.Cond.methodLink "SoundWells$Reader" (107 : Nat) ({ cls := "SoundWells$Plan", name := "allows", desc := "(II)Z" } : Jvm.MethodName)) ∈ TB := List.mem_filter.mpr ⟨List.mem_append_right _ (List.mem_of_getElem? (i := 265) (by decide +kernel)), (by decide +kernel)⟩
theorem tb_266 : (Jvm.Cond.static ({ cls := "SoundWells$Plan", name := "allows", desc := "(II)Z" } : Jvm.MethodName)) ∈ TB := List.mem_filter.mpr ⟨List.mem_append_right _ (List.mem_of_getElem? (i := 266) (by decide +kernel)), (by decide +kernel)⟩
theorem tb_267 : (Jvm.Cond.code ({ cls := "SoundWells$Plan", name := "allows", desc := "(II)Z" } : Jvm.MethodName) prog_5_method_6_code (2 : Nat) (Option.some Jvm.ClassFile.FieldType.boolean)) ∈ TB := List.mem_filter.mpr ⟨List.mem_append_right _ (List.mem_of_getElem? (i := 267) (by decide +kernel)), (by decide +kernel)⟩
theorem tb_268 : (Jvm.Cond.methodLink "SoundWells$Reader" (85 : Nat) ({ cls := "SoundWells$Reader", name := "keepBoard", desc := "()Z" } : Jvm.MethodName)) ∈ TB := List.mem_filter.mpr ⟨List.mem_append_right _ (List.mem_of_getElem? (i := 268) (by decide +kernel)), (by decide +kernel)⟩
theorem tb_270 : (Jvm.Cond.instanceMethod ({ cls := "SoundWells$Reader", name := "keepBoard", desc := "()Z" } : Jvm.MethodName)) ∈ TB := List.mem_filter.mpr ⟨List.mem_append_right _ (List.mem_of_getElem? (i := 270) (by decide +kernel)), (by decide +kernel)⟩
theorem tb_271 : (Jvm.Cond.code ({ cls := "SoundWells$Reader", name := "keepBoard", desc := "()Z" } : Jvm.MethodName) prog_6_method_12_code (1 : Nat) (Option.some Jvm.ClassFile.FieldType.boolean)) ∈ TB := List.mem_filter.mpr ⟨List.mem_append_right _ (List.mem_of_getElem? (i := 271) (by decide +kernel)), (by decide +kernel)⟩
theorem tb_272 : (Jvm.Cond.methodLink "SoundWells$Reader" (88 : Nat) ({ cls := "SoundWells$Numbers", name := "isPrime", desc := "(I)Z" } : Jvm.MethodName)) ∈ TB := List.mem_filter.mpr ⟨List.mem_append_right _ (List.mem_of_getElem? (i := 272) (by decide +kernel)), (by decide +kernel)⟩
theorem tb_273 : (Jvm.Cond.static ({ cls := "SoundWells$Numbers", name := "isPrime", desc := "(I)Z" } : Jvm.MethodName)) ∈ TB := List.mem_filter.mpr ⟨List.mem_append_right _ (List.mem_of_getElem? (i := 273) (by decide +kernel)), (by decide +kernel)⟩
theorem tb_274 : (Jvm.Cond.code ({ cls := "SoundWells$Numbers", name := "isPrime", desc := "(I)Z" } : Jvm.MethodName) prog_2_method_2_code (5 : Nat) (Option.some Jvm.ClassFile.FieldType.boolean)) ∈ TB := List.mem_filter.mpr ⟨List.mem_append_right _ (List.mem_of_getElem? (i := 274) (by decide +kernel)), (by decide +kernel)⟩
theorem tb_277 : (Jvm.Cond.methodLink "SoundWells$Reader" (93 : Nat) ({ cls := "SoundWells$Panel", name := "factorFits", desc := "(III)Z" } : Jvm.MethodName)) ∈ TB := List.mem_filter.mpr ⟨List.mem_append_right _ (List.mem_of_getElem? (i := 277) (by decide +kernel)), (by decide +kernel)⟩
theorem tb_278 : (Jvm.Cond.static ({ cls := "SoundWells$Panel", name := "factorFits", desc := "(III)Z" } : Jvm.MethodName)) ∈ TB := List.mem_filter.mpr ⟨List.mem_append_right _ (List.mem_of_getElem? (i := 278) (by decide +kernel)), (by decide +kernel)⟩
theorem tb_279 : (Jvm.Cond.code ({ cls := "SoundWells$Panel", name := "factorFits", desc := "(III)Z" } : Jvm.MethodName) prog_3_method_3_code (3 : Nat) (Option.some Jvm.ClassFile.FieldType.boolean)) ∈ TB := List.mem_filter.mpr ⟨List.mem_append_right _ (List.mem_of_getElem? (i := 279) (by decide +kernel)), (by decide +kernel)⟩
theorem tb_280 : (Jvm.Cond.methodLink "SoundWells$Panel" (48 : Nat) ({ cls := "SoundWells$Numbers", name := "isRoot", desc := "(II)Z" } : Jvm.MethodName)) ∈ TB := List.mem_filter.mpr ⟨List.mem_append_right _ (List.mem_of_getElem? (i := 280) (by decide +kernel)), (by decide +kernel)⟩
theorem tb_281 : (Jvm.Cond.static ({ cls := "SoundWells$Numbers", name := "isRoot", desc := "(II)Z" } : Jvm.MethodName)) ∈ TB := List.mem_filter.mpr ⟨List.mem_append_right _ (List.mem_of_getElem? (i := 281) (by decide +kernel)), (by decide +kernel)⟩
theorem tb_282 : (Jvm.Cond.code ({ cls := "SoundWells$Numbers", name := "isRoot", desc := "(II)Z" } : Jvm.MethodName) prog_2_method_7_code (5 : Nat) (Option.some Jvm.ClassFile.FieldType.boolean)) ∈ TB := List.mem_filter.mpr ⟨List.mem_append_right _ (List.mem_of_getElem? (i := 282) (by decide +kernel)), (by decide +kernel)⟩
theorem tb_283 : (Jvm.Cond.methodLink "SoundWells$Reader" (97 : Nat) ({ cls := "SoundWells$Panel", name := "offsetFits", desc := "(II)Z" } : Jvm.MethodName)) ∈ TB := List.mem_filter.mpr ⟨List.mem_append_right _ (List.mem_of_getElem? (i := 283) (by decide +kernel)), (by decide +kernel)⟩
theorem tb_284 : (Jvm.Cond.static ({ cls := "SoundWells$Panel", name := "offsetFits", desc := "(II)Z" } : Jvm.MethodName)) ∈ TB := List.mem_filter.mpr ⟨List.mem_append_right _ (List.mem_of_getElem? (i := 284) (by decide +kernel)), (by decide +kernel)⟩
theorem tb_285 : (Jvm.Cond.code ({ cls := "SoundWells$Panel", name := "offsetFits", desc := "(II)Z" } : Jvm.MethodName) prog_3_method_4_code (2 : Nat) (Option.some Jvm.ClassFile.FieldType.boolean)) ∈ TB := List.mem_filter.mpr ⟨List.mem_append_right _ (List.mem_of_getElem? (i := 285) (by decide +kernel)), (by decide +kernel)⟩
theorem tb_286 : (Jvm.Cond.methodLink "SoundWells$Reader" (101 : Nat) ({ cls := "SoundWells$Panel", name := "wellsFit", desc := "(I)Z" } : Jvm.MethodName)) ∈ TB := List.mem_filter.mpr ⟨List.mem_append_right _ (List.mem_of_getElem? (i := 286) (by decide +kernel)), (by decide +kernel)⟩
theorem tb_287 : (Jvm.Cond.static ({ cls := "SoundWells$Panel", name := "wellsFit", desc := "(I)Z" } : Jvm.MethodName)) ∈ TB := List.mem_filter.mpr ⟨List.mem_append_right _ (List.mem_of_getElem? (i := 287) (by decide +kernel)), (by decide +kernel)⟩
theorem tb_288 : (Jvm.Cond.code ({ cls := "SoundWells$Panel", name := "wellsFit", desc := "(I)Z" } : Jvm.MethodName) prog_3_method_5_code (1 : Nat) (Option.some Jvm.ClassFile.FieldType.boolean)) ∈ TB := List.mem_filter.mpr ⟨List.mem_append_right _ (List.mem_of_getElem? (i := 288) (by decide +kernel)), (by decide +kernel)⟩
theorem tb_289 : (Jvm.Cond.methodLink "SoundWells$Reader" (104 : Nat) ({ cls := "SoundWells$Panel", name := "<init>", desc := "(IIIII)V" } : Jvm.MethodName)) ∈ TB := List.mem_filter.mpr ⟨List.mem_append_right _ (List.mem_of_getElem? (i := 289) (by decide +kernel)), (by decide +kernel)⟩
theorem tb_290 : (Jvm.Cond.methodLink "SoundWellsLaw" (27 : Nat) ({ cls := "SoundWells", name := "lay", desc := "()I" } : Jvm.MethodName)) ∈ TB := List.mem_filter.mpr ⟨List.mem_append_right _ (List.mem_of_getElem? (i := 290) (by decide +kernel)), (by decide +kernel)⟩
theorem tb_291 : (Jvm.Cond.instanceMethod ({ cls := "SoundWells", name := "lay", desc := "()I" } : Jvm.MethodName)) ∈ TB := List.mem_filter.mpr ⟨List.mem_append_right _ (List.mem_of_getElem? (i := 291) (by decide +kernel)), (by decide +kernel)⟩
theorem tb_292 : (Jvm.Cond.selects "SoundWells" ({ cls := "SoundWells", name := "lay", desc := "()I" } : Jvm.MethodName) ({ cls := "SoundWells", name := "lay", desc := "()I" } : Jvm.MethodName)) ∈ TB := List.mem_filter.mpr ⟨List.mem_append_right _ (List.mem_of_getElem? (i := 292) (by decide +kernel)), (by decide +kernel)⟩
theorem tb_293 : (Jvm.Cond.code ({ cls := "SoundWells", name := "lay", desc := "()I" } : Jvm.MethodName) prog_1_method_5_code (1 : Nat) (Option.some Jvm.ClassFile.FieldType.int)) ∈ TB := List.mem_filter.mpr ⟨List.mem_append_right _ (List.mem_of_getElem? (i := 293) (by decide +kernel)), (by decide +kernel)⟩
theorem tb_294 : (Jvm.Cond.methodLink "SoundWells" (56 : Nat) ({ cls := "SoundWells$Reader", name := "planRead", desc := "()LSoundWells$Plan;" } : Jvm.MethodName)) ∈ TB := List.mem_filter.mpr ⟨List.mem_append_right _ (List.mem_of_getElem? (i := 294) (by decide +kernel)), (by decide +kernel)⟩
theorem tb_295 : (Jvm.Cond.instanceMethod ({ cls := "SoundWells$Reader", name := "planRead", desc := "()LSoundWells$Plan;" } : Jvm.MethodName)) ∈ TB := List.mem_filter.mpr ⟨List.mem_append_right _ (List.mem_of_getElem? (i := 295) (by decide +kernel)), (by decide +kernel)⟩
theorem tb_296 : (Jvm.Cond.selects "SoundWells$Reader" ({ cls := "SoundWells$Reader", name := "planRead", desc := "()LSoundWells$Plan;" } : Jvm.MethodName) ({ cls := "SoundWells$Reader", name := "planRead", desc := "()LSoundWells$Plan;" } : Jvm.MethodName)) ∈ TB := List.mem_filter.mpr ⟨List.mem_append_right _ (List.mem_of_getElem? (i := 296) (by decide +kernel)), (by decide +kernel)⟩
theorem tb_297 : (Jvm.Cond.code ({ cls := "SoundWells$Reader", name := "planRead", desc := "()LSoundWells$Plan;" } : Jvm.MethodName) prog_6_method_3_code (3 : Nat) (Option.some (Jvm.ClassFile.FieldType.object "SoundWells$Plan"))) ∈ TB := List.mem_filter.mpr ⟨List.mem_append_right _ (List.mem_of_getElem? (i := 297) (by decide +kernel)), (by decide +kernel)⟩
theorem tb_298 : (Jvm.Cond.methodLink "SoundWells$Reader" (45 : Nat) ({ cls := "java/lang/Math", name := "min", desc := "(II)I" } : Jvm.MethodName)) ∈ TB := List.mem_filter.mpr ⟨List.mem_append_right _ (List.mem_of_getElem? (i := 298) (by decide +kernel)), (by decide +kernel)⟩
theorem tb_299 : (Jvm.Cond.static ({ cls := "java/lang/Math", name := "min", desc := "(II)I" } : Jvm.MethodName)) ∈ TB := List.mem_filter.mpr ⟨List.mem_append_right _ (List.mem_of_getElem? (i := 299) (by decide +kernel)), (by decide +kernel)⟩
theorem tb_300 : (Jvm.Cond.code ({ cls := "java/lang/Math", name := "min", desc := "(II)I" } : Jvm.MethodName) prog_12_method_69_code (2 : Nat) (Option.some Jvm.ClassFile.FieldType.int)) ∈ TB := List.mem_filter.mpr ⟨List.mem_append_right _ (List.mem_of_getElem? (i := 300) (by decide +kernel)), (by decide +kernel)⟩
theorem tb_301 : (Jvm.Cond.methodLink "SoundWells$Reader" (51 : Nat) ({ cls := "java/lang/Math", name := "max", desc := "(II)I" } : Jvm.MethodName)) ∈ TB := List.mem_filter.mpr ⟨List.mem_append_right _ (List.mem_of_getElem? (i := 301) (by decide +kernel)), (by decide +kernel)⟩
theorem tb_302 : (Jvm.Cond.static ({ cls := "java/lang/Math", name := "max", desc := "(II)I" } : Jvm.MethodName)) ∈ TB := List.mem_filter.mpr ⟨List.mem_append_right _ (List.mem_of_getElem? (i := 302) (by decide +kernel)), (by decide +kernel)⟩
theorem tb_303 : (Jvm.Cond.code ({ cls := "java/lang/Math", name := "max", desc := "(II)I" } : Jvm.MethodName) prog_12_method_65_code (2 : Nat) (Option.some Jvm.ClassFile.FieldType.int)) ∈ TB := List.mem_filter.mpr ⟨List.mem_append_right _ (List.mem_of_getElem? (i := 303) (by decide +kernel)), (by decide +kernel)⟩
theorem tb_304 : (Jvm.Cond.classLink "SoundWells$Reader" (54 : Nat) "SoundWells$Plan") ∈ TB := List.mem_filter.mpr ⟨List.mem_append_right _ (List.mem_of_getElem? (i := 304) (by decide +kernel)), (by decide +kernel)⟩
theorem tb_305 : (Jvm.Cond.methodLink "SoundWells$Reader" (56 : Nat) ({ cls := "SoundWells$Plan", name := "<init>", desc := "([LSoundWells$Panel;III)V" } : Jvm.MethodName)) ∈ TB := List.mem_filter.mpr ⟨List.mem_append_right _ (List.mem_of_getElem? (i := 305) (by decide +kernel)), (by decide +kernel)⟩
theorem tb_306 : (Jvm.Cond.methodLink "SoundWells" (60 : Nat) ({ cls := "SoundWells$Past", name := "forget", desc := "()V" } : Jvm.MethodName)) ∈ TB := List.mem_filter.mpr ⟨List.mem_append_right _ (List.mem_of_getElem? (i := 306) (by decide +kernel)), (by decide +kernel)⟩
theorem tb_307 : (Jvm.Cond.instanceMethod ({ cls := "SoundWells$Past", name := "forget", desc := "()V" } : Jvm.MethodName)) ∈ TB := List.mem_filter.mpr ⟨List.mem_append_right _ (List.mem_of_getElem? (i := 307) (by decide +kernel)), (by decide +kernel)⟩
theorem tb_308 : (Jvm.Cond.selects "SoundWells$Past" ({ cls := "SoundWells$Past", name := "forget", desc := "()V" } : Jvm.MethodName) ({ cls := "SoundWells$Past", name := "forget", desc := "()V" } : Jvm.MethodName)) ∈ TB := List.mem_filter.mpr ⟨List.mem_append_right _ (List.mem_of_getElem? (i := 308) (by decide +kernel)), (by decide +kernel)⟩
theorem tb_309 : (Jvm.Cond.code ({ cls := "SoundWells$Past", name := "forget", desc := "()V" } : Jvm.MethodName) prog_4_method_2_code (2 : Nat) (Option.none : Option Jvm.ClassFile.FieldType)) ∈ TB := List.mem_filter.mpr ⟨List.mem_append_right _ (List.mem_of_getElem? (i := 309) (by decide +kernel)), (by decide +kernel)⟩
theorem tb_310 : (Jvm.Cond.methodLink "SoundWellsLaw" (31 : Nat) ({ cls := "SoundWells", name := "set", desc := "(III)I" } : Jvm.MethodName)) ∈ TB := List.mem_filter.mpr ⟨List.mem_append_right _ (List.mem_of_getElem? (i := 310) (by decide +kernel)), (by decide +kernel)⟩
theorem tb_311 : (Jvm.Cond.instanceMethod ({ cls := "SoundWells", name := "set", desc := "(III)I" } : Jvm.MethodName)) ∈ TB := List.mem_filter.mpr ⟨List.mem_append_right _ (List.mem_of_getElem? (i := 311) (by decide +kernel)), (by decide +kernel)⟩
theorem tb_312 : (Jvm.Cond.selects "SoundWells" ({ cls := "SoundWells", name := "set", desc := "(III)I" } : Jvm.MethodName) ({ cls := "SoundWells", name := "set", desc := "(III)I" } : Jvm.MethodName)) ∈ TB := List.mem_filter.mpr ⟨List.mem_append_right _ (List.mem_of_getElem? (i := 312) (by decide +kernel)), (by decide +kernel)⟩
theorem tb_313 : (Jvm.Cond.code ({ cls := "SoundWells", name := "set", desc := "(III)I" } : Jvm.MethodName) prog_1_method_6_code (6 : Nat) (Option.some Jvm.ClassFile.FieldType.int)) ∈ TB := List.mem_filter.mpr ⟨List.mem_append_right _ (List.mem_of_getElem? (i := 313) (by decide +kernel)), (by decide +kernel)⟩
theorem tb_314 : (Jvm.Cond.methodLink "SoundWells" (67 : Nat) ({ cls := "SoundWells$Plan", name := "panelAt", desc := "(I)LSoundWells$Panel;" } : Jvm.MethodName)) ∈ TB := List.mem_filter.mpr ⟨List.mem_append_right _ (List.mem_of_getElem? (i := 314) (by decide +kernel)), (by decide +kernel)⟩
theorem tb_315 : (Jvm.Cond.instanceMethod ({ cls := "SoundWells$Plan", name := "panelAt", desc := "(I)LSoundWells$Panel;" } : Jvm.MethodName)) ∈ TB := List.mem_filter.mpr ⟨List.mem_append_right _ (List.mem_of_getElem? (i := 315) (by decide +kernel)), (by decide +kernel)⟩
theorem tb_316 : (Jvm.Cond.selects "SoundWells$Plan" ({ cls := "SoundWells$Plan", name := "panelAt", desc := "(I)LSoundWells$Panel;" } : Jvm.MethodName) ({ cls := "SoundWells$Plan", name := "panelAt", desc := "(I)LSoundWells$Panel;" } : Jvm.MethodName)) ∈ TB := List.mem_filter.mpr ⟨List.mem_append_right _ (List.mem_of_getElem? (i := 316) (by decide +kernel)), (by decide +kernel)⟩
theorem tb_317 : (Jvm.Cond.code ({ cls := "SoundWells$Plan", name := "panelAt", desc := "(I)LSoundWells$Panel;" } : Jvm.MethodName) prog_5_method_2_code (2 : Nat) (Option.some (Jvm.ClassFile.FieldType.object "SoundWells$Panel"))) ∈ TB := List.mem_filter.mpr ⟨List.mem_append_right _ (List.mem_of_getElem? (i := 317) (by decide +kernel)), (by decide +kernel)⟩
theorem tb_318 : (Jvm.Cond.methodLink "SoundWells" (71 : Nat) ({ cls := "SoundWells$Panel", name := "allows", desc := "(II)Z" } : Jvm.MethodName)) ∈ TB := List.mem_filter.mpr ⟨List.mem_append_right _ (List.mem_of_getElem? (i := 318) (by decide +kernel)), (by decide +kernel)⟩
theorem tb_319 : (Jvm.Cond.instanceMethod ({ cls := "SoundWells$Panel", name := "allows", desc := "(II)Z" } : Jvm.MethodName)) ∈ TB := List.mem_filter.mpr ⟨List.mem_append_right _ (List.mem_of_getElem? (i := 319) (by decide +kernel)), (by decide +kernel)⟩
theorem tb_320 : (Jvm.Cond.selects "SoundWells$Panel" ({ cls := "SoundWells$Panel", name := "allows", desc := "(II)Z" } : Jvm.MethodName) ({ cls := "SoundWells$Panel", name := "allows", desc := "(II)Z" } : Jvm.MethodName)) ∈ TB := List.mem_filter.mpr ⟨List.mem_append_right _ (List.mem_of_getElem? (i := 320) (by decide +kernel)), (by decide +kernel)⟩
theorem tb_321 : (Jvm.Cond.code ({ cls := "SoundWells$Panel", name := "allows", desc := "(II)Z" } : Jvm.MethodName) prog_3_method_6_code (3 : Nat) (Option.some Jvm.ClassFile.FieldType.boolean)) ∈ TB := List.mem_filter.mpr ⟨List.mem_append_right _ (List.mem_of_getElem? (i := 321) (by decide +kernel)), (by decide +kernel)⟩
theorem tb_322 : (Jvm.Cond.methodLink "SoundWells$Panel" (52 : Nat) ({ cls := "SoundWells$Panel", name := "factorFits", desc := "(III)Z" } : Jvm.MethodName)) ∈ TB := List.mem_filter.mpr ⟨List.mem_append_right _ (List.mem_of_getElem? (i := 322) (by decide +kernel)), (by decide +kernel)⟩
theorem tb_323 : (Jvm.Cond.methodLink "SoundWells$Panel" (56 : Nat) ({ cls := "SoundWells$Panel", name := "offsetFits", desc := "(II)Z" } : Jvm.MethodName)) ∈ TB := List.mem_filter.mpr ⟨List.mem_append_right _ (List.mem_of_getElem? (i := 323) (by decide +kernel)), (by decide +kernel)⟩
theorem tb_324 : (Jvm.Cond.methodLink "SoundWells$Panel" (59 : Nat) ({ cls := "SoundWells$Panel", name := "wellsFit", desc := "(I)Z" } : Jvm.MethodName)) ∈ TB := List.mem_filter.mpr ⟨List.mem_append_right _ (List.mem_of_getElem? (i := 324) (by decide +kernel)), (by decide +kernel)⟩
theorem tb_325 : (Jvm.Cond.methodLink "SoundWells" (75 : Nat) ({ cls := "SoundWells$Panel", name := "measure", desc := "(I)I" } : Jvm.MethodName)) ∈ TB := List.mem_filter.mpr ⟨List.mem_append_right _ (List.mem_of_getElem? (i := 325) (by decide +kernel)), (by decide +kernel)⟩
theorem tb_326 : (Jvm.Cond.instanceMethod ({ cls := "SoundWells$Panel", name := "measure", desc := "(I)I" } : Jvm.MethodName)) ∈ TB := List.mem_filter.mpr ⟨List.mem_append_right _ (List.mem_of_getElem? (i := 326) (by decide +kernel)), (by decide +kernel)⟩
theorem tb_327 : (Jvm.Cond.selects "SoundWells$Panel" ({ cls := "SoundWells$Panel", name := "measure", desc := "(I)I" } : Jvm.MethodName) ({ cls := "SoundWells$Panel", name := "measure", desc := "(I)I" } : Jvm.MethodName)) ∈ TB := List.mem_filter.mpr ⟨List.mem_append_right _ (List.mem_of_getElem? (i := 327) (by decide +kernel)), (by decide +kernel)⟩
theorem tb_328 : (Jvm.Cond.code ({ cls := "SoundWells$Panel", name := "measure", desc := "(I)I" } : Jvm.MethodName) prog_3_method_7_code (2 : Nat) (Option.some Jvm.ClassFile.FieldType.int)) ∈ TB := List.mem_filter.mpr ⟨List.mem_append_right _ (List.mem_of_getElem? (i := 328) (by decide +kernel)), (by decide +kernel)⟩
theorem tb_329 : (Jvm.Cond.methodLink "SoundWells" (79 : Nat) ({ cls := "SoundWells$Panel", name := "withMeasure", desc := "(II)LSoundWells$Panel;" } : Jvm.MethodName)) ∈ TB := List.mem_filter.mpr ⟨List.mem_append_right _ (List.mem_of_getElem? (i := 329) (by decide +kernel)), (by decide +kernel)⟩
theorem tb_330 : (Jvm.Cond.instanceMethod ({ cls := "SoundWells$Panel", name := "withMeasure", desc := "(II)LSoundWells$Panel;" } : Jvm.MethodName)) ∈ TB := List.mem_filter.mpr ⟨List.mem_append_right _ (List.mem_of_getElem? (i := 330) (by decide +kernel)), (by decide +kernel)⟩
theorem tb_331 : (Jvm.Cond.selects "SoundWells$Panel" ({ cls := "SoundWells$Panel", name := "withMeasure", desc := "(II)LSoundWells$Panel;" } : Jvm.MethodName) ({ cls := "SoundWells$Panel", name := "withMeasure", desc := "(II)LSoundWells$Panel;" } : Jvm.MethodName)) ∈ TB := List.mem_filter.mpr ⟨List.mem_append_right _ (List.mem_of_getElem? (i := 331) (by decide +kernel)), (by decide +kernel)⟩
theorem tb_332 : (Jvm.Cond.code ({ cls := "SoundWells$Panel", name := "withMeasure", desc := "(II)LSoundWells$Panel;" } : Jvm.MethodName) prog_3_method_8_code (3 : Nat) (Option.some (Jvm.ClassFile.FieldType.object "SoundWells$Panel"))) ∈ TB := List.mem_filter.mpr ⟨List.mem_append_right _ (List.mem_of_getElem? (i := 332) (by decide +kernel)), (by decide +kernel)⟩
theorem tb_333 : (Jvm.Cond.classLink "SoundWells$Panel" (10 : Nat) "SoundWells$Panel") ∈ TB := List.mem_filter.mpr ⟨List.mem_append_right _ (List.mem_of_getElem? (i := 333) (by decide +kernel)), (by decide +kernel)⟩
theorem tb_334 : (Jvm.Cond.methodLink "SoundWells$Panel" (63 : Nat) ({ cls := "SoundWells$Panel", name := "<init>", desc := "(IIIII)V" } : Jvm.MethodName)) ∈ TB := List.mem_filter.mpr ⟨List.mem_append_right _ (List.mem_of_getElem? (i := 334) (by decide +kernel)), (by decide +kernel)⟩
theorem tb_335 : (Jvm.Cond.methodLink "SoundWells" (83 : Nat) ({ cls := "SoundWells$Plan", name := "withPanel", desc := "(ILSoundWells$Panel;)LSoundWells$Plan;" } : Jvm.MethodName)) ∈ TB := List.mem_filter.mpr ⟨List.mem_append_right _ (List.mem_of_getElem? (i := 335) (by decide +kernel)), (by decide +kernel)⟩
theorem tb_336 : (Jvm.Cond.instanceMethod ({ cls := "SoundWells$Plan", name := "withPanel", desc := "(ILSoundWells$Panel;)LSoundWells$Plan;" } : Jvm.MethodName)) ∈ TB := List.mem_filter.mpr ⟨List.mem_append_right _ (List.mem_of_getElem? (i := 336) (by decide +kernel)), (by decide +kernel)⟩
theorem tb_337 : (Jvm.Cond.selects "SoundWells$Plan" ({ cls := "SoundWells$Plan", name := "withPanel", desc := "(ILSoundWells$Panel;)LSoundWells$Plan;" } : Jvm.MethodName) ({ cls := "SoundWells$Plan", name := "withPanel", desc := "(ILSoundWells$Panel;)LSoundWells$Plan;" } : Jvm.MethodName)) ∈ TB := List.mem_filter.mpr ⟨List.mem_append_right _ (List.mem_of_getElem? (i := 337) (by decide +kernel)), (by decide +kernel)⟩
theorem tb_338 : (Jvm.Cond.code ({ cls := "SoundWells$Plan", name := "withPanel", desc := "(ILSoundWells$Panel;)LSoundWells$Plan;" } : Jvm.MethodName) prog_5_method_4_code (4 : Nat) (Option.some (Jvm.ClassFile.FieldType.object "SoundWells$Plan"))) ∈ TB := List.mem_filter.mpr ⟨List.mem_append_right _ (List.mem_of_getElem? (i := 338) (by decide +kernel)), (by decide +kernel)⟩
theorem tb_339 : (Jvm.Cond.methodLink "SoundWells$Plan" (28 : Nat) ({ cls := "[LSoundWells$Panel;", name := "clone", desc := "()Ljava/lang/Object;" } : Jvm.MethodName)) ∈ TB := List.mem_filter.mpr ⟨List.mem_append_right _ (List.mem_of_getElem? (i := 339) (by decide +kernel)), (by decide +kernel)⟩
theorem tb_340 : (Jvm.Cond.sameMethod "[LSoundWells$Panel;" "java/lang/Object" "clone" "()Ljava/lang/Object;") ∈ TB := List.mem_filter.mpr ⟨List.mem_append_right _ (List.mem_of_getElem? (i := 340) (by decide +kernel)), (by decide +kernel)⟩
theorem tb_341 : (Jvm.Cond.native ({ cls := "java/lang/Object", name := "clone", desc := "()Ljava/lang/Object;" } : Jvm.MethodName)) ∈ TB := List.mem_filter.mpr ⟨List.mem_append_right _ (List.mem_of_getElem? (i := 341) (by decide +kernel)), (by decide +kernel)⟩
theorem tb_342 : (Jvm.Cond.instanceMethod ({ cls := "java/lang/Object", name := "clone", desc := "()Ljava/lang/Object;" } : Jvm.MethodName)) ∈ TB := List.mem_filter.mpr ⟨List.mem_append_right _ (List.mem_of_getElem? (i := 342) (by decide +kernel)), (by decide +kernel)⟩
theorem tb_343 : (Jvm.Cond.selects "[LSoundWells$Panel;" ({ cls := "[LSoundWells$Panel;", name := "clone", desc := "()Ljava/lang/Object;" } : Jvm.MethodName) ({ cls := "java/lang/Object", name := "clone", desc := "()Ljava/lang/Object;" } : Jvm.MethodName)) ∈ TB := List.mem_filter.mpr ⟨List.mem_append_right _ (List.mem_of_getElem? (i := 343) (by decide +kernel)), (by decide +kernel)⟩
theorem tb_345 : (Jvm.Cond.classLink "SoundWells$Plan" (29 : Nat) "[LSoundWells$Panel;") ∈ TB := List.mem_filter.mpr ⟨List.mem_append_right _ (List.mem_of_getElem? (i := 345) (by decide +kernel)), (by decide +kernel)⟩
theorem tb_346 : (Jvm.Cond.classLink "SoundWells$Plan" (8 : Nat) "SoundWells$Plan") ∈ TB := List.mem_filter.mpr ⟨List.mem_append_right _ (List.mem_of_getElem? (i := 346) (by decide +kernel)), (by decide +kernel)⟩
theorem tb_347 : (Jvm.Cond.methodLink "SoundWells$Plan" (33 : Nat) ({ cls := "SoundWells$Plan", name := "<init>", desc := "([LSoundWells$Panel;III)V" } : Jvm.MethodName)) ∈ TB := List.mem_filter.mpr ⟨List.mem_append_right _ (List.mem_of_getElem? (i := 347) (by decide +kernel)), (by decide +kernel)⟩
theorem tb_348 : (Jvm.Cond.methodLink "SoundWells" (87 : Nat) ({ cls := "SoundWells", name := "change", desc := "(LSoundWells$Plan;)V" } : Jvm.MethodName)) ∈ TB := List.mem_filter.mpr ⟨List.mem_append_right _ (List.mem_of_getElem? (i := 348) (by decide +kernel)), (by decide +kernel)⟩
theorem tb_350 : (Jvm.Cond.instanceMethod ({ cls := "SoundWells", name := "change", desc := "(LSoundWells$Plan;)V" } : Jvm.MethodName)) ∈ TB := List.mem_filter.mpr ⟨List.mem_append_right _ (List.mem_of_getElem? (i := 350) (by decide +kernel)), (by decide +kernel)⟩
theorem tb_351 : (Jvm.Cond.code ({ cls := "SoundWells", name := "change", desc := "(LSoundWells$Plan;)V" } : Jvm.MethodName) prog_1_method_10_code (2 : Nat) (Option.none : Option Jvm.ClassFile.FieldType)) ∈ TB := List.mem_filter.mpr ⟨List.mem_append_right _ (List.mem_of_getElem? (i := 351) (by decide +kernel)), (by decide +kernel)⟩
theorem tb_352 : (Jvm.Cond.methodLink "SoundWells" (106 : Nat) ({ cls := "SoundWells$Past", name := "keep", desc := "(LSoundWells$Plan;)V" } : Jvm.MethodName)) ∈ TB := List.mem_filter.mpr ⟨List.mem_append_right _ (List.mem_of_getElem? (i := 352) (by decide +kernel)), (by decide +kernel)⟩
theorem tb_353 : (Jvm.Cond.instanceMethod ({ cls := "SoundWells$Past", name := "keep", desc := "(LSoundWells$Plan;)V" } : Jvm.MethodName)) ∈ TB := List.mem_filter.mpr ⟨List.mem_append_right _ (List.mem_of_getElem? (i := 353) (by decide +kernel)), (by decide +kernel)⟩
theorem tb_354 : (Jvm.Cond.selects "SoundWells$Past" ({ cls := "SoundWells$Past", name := "keep", desc := "(LSoundWells$Plan;)V" } : Jvm.MethodName) ({ cls := "SoundWells$Past", name := "keep", desc := "(LSoundWells$Plan;)V" } : Jvm.MethodName)) ∈ TB := List.mem_filter.mpr ⟨List.mem_append_right _ (List.mem_of_getElem? (i := 354) (by decide +kernel)), (by decide +kernel)⟩
theorem tb_355 : (Jvm.Cond.code ({ cls := "SoundWells$Past", name := "keep", desc := "(LSoundWells$Plan;)V" } : Jvm.MethodName) prog_4_method_3_code (3 : Nat) (Option.none : Option Jvm.ClassFile.FieldType)) ∈ TB := List.mem_filter.mpr ⟨List.mem_append_right _ (List.mem_of_getElem? (i := 355) (by decide +kernel)), (by decide +kernel)⟩
theorem tb_356 : (Jvm.Cond.methodLink "SoundWellsLaw" (36 : Nat) ({ cls := "SoundWells", name := "tell", desc := "(II)I" } : Jvm.MethodName)) ∈ TB := List.mem_filter.mpr ⟨List.mem_append_right _ (List.mem_of_getElem? (i := 356) (by decide +kernel)), (by decide +kernel)⟩
theorem tb_357 : (Jvm.Cond.instanceMethod ({ cls := "SoundWells", name := "tell", desc := "(II)I" } : Jvm.MethodName)) ∈ TB := List.mem_filter.mpr ⟨List.mem_append_right _ (List.mem_of_getElem? (i := 357) (by decide +kernel)), (by decide +kernel)⟩
theorem tb_358 : (Jvm.Cond.selects "SoundWells" ({ cls := "SoundWells", name := "tell", desc := "(II)I" } : Jvm.MethodName) ({ cls := "SoundWells", name := "tell", desc := "(II)I" } : Jvm.MethodName)) ∈ TB := List.mem_filter.mpr ⟨List.mem_append_right _ (List.mem_of_getElem? (i := 358) (by decide +kernel)), (by decide +kernel)⟩
theorem tb_359 : (Jvm.Cond.code ({ cls := "SoundWells", name := "tell", desc := "(II)I" } : Jvm.MethodName) prog_1_method_7_code (4 : Nat) (Option.some Jvm.ClassFile.FieldType.int)) ∈ TB := List.mem_filter.mpr ⟨List.mem_append_right _ (List.mem_of_getElem? (i := 359) (by decide +kernel)), (by decide +kernel)⟩
theorem tb_360 : (Jvm.Cond.methodLink "SoundWells" (91 : Nat) ({ cls := "SoundWells$Plan", name := "allows", desc := "(II)Z" } : Jvm.MethodName)) ∈ TB := List.mem_filter.mpr ⟨List.mem_append_right _ (List.mem_of_getElem? (i := 360) (by decide +kernel)), (by decide +kernel)⟩
theorem tb_361 : (Jvm.Cond.methodLink "SoundWells" (92 : Nat) ({ cls := "SoundWells$Plan", name := "measure", desc := "(I)I" } : Jvm.MethodName)) ∈ TB := List.mem_filter.mpr ⟨List.mem_append_right _ (List.mem_of_getElem? (i := 361) (by decide +kernel)), (by decide +kernel)⟩
theorem tb_362 : (Jvm.Cond.instanceMethod ({ cls := "SoundWells$Plan", name := "measure", desc := "(I)I" } : Jvm.MethodName)) ∈ TB := List.mem_filter.mpr ⟨List.mem_append_right _ (List.mem_of_getElem? (i := 362) (by decide +kernel)), (by decide +kernel)⟩
theorem tb_363 : (Jvm.Cond.selects "SoundWells$Plan" ({ cls := "SoundWells$Plan", name := "measure", desc := "(I)I" } : Jvm.MethodName) ({ cls := "SoundWells$Plan", name := "measure", desc := "(I)I" } : Jvm.MethodName)) ∈ TB := List.mem_filter.mpr ⟨List.mem_append_right _ (List.mem_of_getElem? (i := 363) (by decide +kernel)), (by decide +kernel)⟩
theorem tb_364 : (Jvm.Cond.code ({ cls := "SoundWells$Plan", name := "measure", desc := "(I)I" } : Jvm.MethodName) prog_5_method_7_code (2 : Nat) (Option.some Jvm.ClassFile.FieldType.int)) ∈ TB := List.mem_filter.mpr ⟨List.mem_append_right _ (List.mem_of_getElem? (i := 364) (by decide +kernel)), (by decide +kernel)⟩
theorem tb_365 : (Jvm.Cond.methodLink "SoundWells" (93 : Nat) ({ cls := "SoundWells$Plan", name := "withMeasure", desc := "(II)LSoundWells$Plan;" } : Jvm.MethodName)) ∈ TB := List.mem_filter.mpr ⟨List.mem_append_right _ (List.mem_of_getElem? (i := 365) (by decide +kernel)), (by decide +kernel)⟩
theorem tb_366 : (Jvm.Cond.instanceMethod ({ cls := "SoundWells$Plan", name := "withMeasure", desc := "(II)LSoundWells$Plan;" } : Jvm.MethodName)) ∈ TB := List.mem_filter.mpr ⟨List.mem_append_right _ (List.mem_of_getElem? (i := 366) (by decide +kernel)), (by decide +kernel)⟩
theorem tb_367 : (Jvm.Cond.selects "SoundWells$Plan" ({ cls := "SoundWells$Plan", name := "withMeasure", desc := "(II)LSoundWells$Plan;" } : Jvm.MethodName) ({ cls := "SoundWells$Plan", name := "withMeasure", desc := "(II)LSoundWells$Plan;" } : Jvm.MethodName)) ∈ TB := List.mem_filter.mpr ⟨List.mem_append_right _ (List.mem_of_getElem? (i := 367) (by decide +kernel)), (by decide +kernel)⟩
theorem tb_368 : (Jvm.Cond.code ({ cls := "SoundWells$Plan", name := "withMeasure", desc := "(II)LSoundWells$Plan;" } : Jvm.MethodName) prog_5_method_8_code (3 : Nat) (Option.some (Jvm.ClassFile.FieldType.object "SoundWells$Plan"))) ∈ TB := List.mem_filter.mpr ⟨List.mem_append_right _ (List.mem_of_getElem? (i := 368) (by decide +kernel)), (by decide +kernel)⟩
theorem tb_369 : (Jvm.Cond.methodLink "SoundWellsLaw" (41 : Nat) ({ cls := "SoundWells", name := "take", desc := "(I)I" } : Jvm.MethodName)) ∈ TB := List.mem_filter.mpr ⟨List.mem_append_right _ (List.mem_of_getElem? (i := 369) (by decide +kernel)), (by decide +kernel)⟩
theorem tb_370 : (Jvm.Cond.instanceMethod ({ cls := "SoundWells", name := "take", desc := "(I)I" } : Jvm.MethodName)) ∈ TB := List.mem_filter.mpr ⟨List.mem_append_right _ (List.mem_of_getElem? (i := 370) (by decide +kernel)), (by decide +kernel)⟩
theorem tb_371 : (Jvm.Cond.selects "SoundWells" ({ cls := "SoundWells", name := "take", desc := "(I)I" } : Jvm.MethodName) ({ cls := "SoundWells", name := "take", desc := "(I)I" } : Jvm.MethodName)) ∈ TB := List.mem_filter.mpr ⟨List.mem_append_right _ (List.mem_of_getElem? (i := 371) (by decide +kernel)), (by decide +kernel)⟩
theorem tb_372 : (Jvm.Cond.code ({ cls := "SoundWells", name := "take", desc := "(I)I" } : Jvm.MethodName) prog_1_method_8_code (2 : Nat) (Option.some Jvm.ClassFile.FieldType.int)) ∈ TB := List.mem_filter.mpr ⟨List.mem_append_right _ (List.mem_of_getElem? (i := 372) (by decide +kernel)), (by decide +kernel)⟩
theorem tb_373 : (Jvm.Cond.methodLink "SoundWells" (96 : Nat) ({ cls := "SoundWells$Plan", name := "withoutPanel", desc := "(I)LSoundWells$Plan;" } : Jvm.MethodName)) ∈ TB := List.mem_filter.mpr ⟨List.mem_append_right _ (List.mem_of_getElem? (i := 373) (by decide +kernel)), (by decide +kernel)⟩
theorem tb_374 : (Jvm.Cond.instanceMethod ({ cls := "SoundWells$Plan", name := "withoutPanel", desc := "(I)LSoundWells$Plan;" } : Jvm.MethodName)) ∈ TB := List.mem_filter.mpr ⟨List.mem_append_right _ (List.mem_of_getElem? (i := 374) (by decide +kernel)), (by decide +kernel)⟩
theorem tb_375 : (Jvm.Cond.selects "SoundWells$Plan" ({ cls := "SoundWells$Plan", name := "withoutPanel", desc := "(I)LSoundWells$Plan;" } : Jvm.MethodName) ({ cls := "SoundWells$Plan", name := "withoutPanel", desc := "(I)LSoundWells$Plan;" } : Jvm.MethodName)) ∈ TB := List.mem_filter.mpr ⟨List.mem_append_right _ (List.mem_of_getElem? (i := 375) (by decide +kernel)), (by decide +kernel)⟩
theorem tb_376 : (Jvm.Cond.code ({ cls := "SoundWells$Plan", name := "withoutPanel", desc := "(I)LSoundWells$Plan;" } : Jvm.MethodName) prog_5_method_5_code (4 : Nat) (Option.some (Jvm.ClassFile.FieldType.object "SoundWells$Plan"))) ∈ TB := List.mem_filter.mpr ⟨List.mem_append_right _ (List.mem_of_getElem? (i := 376) (by decide +kernel)), (by decide +kernel)⟩
theorem tb_377 : (Jvm.Cond.classLink "SoundWells$Plan" (24 : Nat) "SoundWells$Panel") ∈ TB := List.mem_filter.mpr ⟨List.mem_append_right _ (List.mem_of_getElem? (i := 377) (by decide +kernel)), (by decide +kernel)⟩
theorem tb_378 : (Jvm.Cond.methodLink "SoundWellsLaw" (45 : Nat) ({ cls := "SoundWells", name := "undo", desc := "()I" } : Jvm.MethodName)) ∈ TB := List.mem_filter.mpr ⟨List.mem_append_right _ (List.mem_of_getElem? (i := 378) (by decide +kernel)), (by decide +kernel)⟩
theorem tb_379 : (Jvm.Cond.instanceMethod ({ cls := "SoundWells", name := "undo", desc := "()I" } : Jvm.MethodName)) ∈ TB := List.mem_filter.mpr ⟨List.mem_append_right _ (List.mem_of_getElem? (i := 379) (by decide +kernel)), (by decide +kernel)⟩
theorem tb_380 : (Jvm.Cond.selects "SoundWells" ({ cls := "SoundWells", name := "undo", desc := "()I" } : Jvm.MethodName) ({ cls := "SoundWells", name := "undo", desc := "()I" } : Jvm.MethodName)) ∈ TB := List.mem_filter.mpr ⟨List.mem_append_right _ (List.mem_of_getElem? (i := 380) (by decide +kernel)), (by decide +kernel)⟩
theorem tb_381 : (Jvm.Cond.code ({ cls := "SoundWells", name := "undo", desc := "()I" } : Jvm.MethodName) prog_1_method_9_code (2 : Nat) (Option.some Jvm.ClassFile.FieldType.int)) ∈ TB := List.mem_filter.mpr ⟨List.mem_append_right _ (List.mem_of_getElem? (i := 381) (by decide +kernel)), (by decide +kernel)⟩
theorem tb_382 : (Jvm.Cond.methodLink "SoundWells" (100 : Nat) ({ cls := "SoundWells$Past", name := "takeLatest", desc := "()LSoundWells$Plan;" } : Jvm.MethodName)) ∈ TB := List.mem_filter.mpr ⟨List.mem_append_right _ (List.mem_of_getElem? (i := 382) (by decide +kernel)), (by decide +kernel)⟩
theorem tb_383 : (Jvm.Cond.instanceMethod ({ cls := "SoundWells$Past", name := "takeLatest", desc := "()LSoundWells$Plan;" } : Jvm.MethodName)) ∈ TB := List.mem_filter.mpr ⟨List.mem_append_right _ (List.mem_of_getElem? (i := 383) (by decide +kernel)), (by decide +kernel)⟩
theorem tb_384 : (Jvm.Cond.selects "SoundWells$Past" ({ cls := "SoundWells$Past", name := "takeLatest", desc := "()LSoundWells$Plan;" } : Jvm.MethodName) ({ cls := "SoundWells$Past", name := "takeLatest", desc := "()LSoundWells$Plan;" } : Jvm.MethodName)) ∈ TB := List.mem_filter.mpr ⟨List.mem_append_right _ (List.mem_of_getElem? (i := 384) (by decide +kernel)), (by decide +kernel)⟩
theorem tb_385 : (Jvm.Cond.code ({ cls := "SoundWells$Past", name := "takeLatest", desc := "()LSoundWells$Plan;" } : Jvm.MethodName) prog_4_method_4_code (2 : Nat) (Option.some (Jvm.ClassFile.FieldType.object "SoundWells$Plan"))) ∈ TB := List.mem_filter.mpr ⟨List.mem_append_right _ (List.mem_of_getElem? (i := 385) (by decide +kernel)), (by decide +kernel)⟩
theorem tb_386 : (Jvm.Cond.methodLink "SoundWellsLaw" (49 : Nat) ({ cls := "SoundWells", name := "squares", desc := "(I)I" } : Jvm.MethodName)) ∈ TB := List.mem_filter.mpr ⟨List.mem_append_right _ (List.mem_of_getElem? (i := 386) (by decide +kernel)), (by decide +kernel)⟩
theorem tb_387 : (Jvm.Cond.instanceMethod ({ cls := "SoundWells", name := "squares", desc := "(I)I" } : Jvm.MethodName)) ∈ TB := List.mem_filter.mpr ⟨List.mem_append_right _ (List.mem_of_getElem? (i := 387) (by decide +kernel)), (by decide +kernel)⟩
theorem tb_388 : (Jvm.Cond.selects "SoundWells" ({ cls := "SoundWells", name := "squares", desc := "(I)I" } : Jvm.MethodName) ({ cls := "SoundWells", name := "squares", desc := "(I)I" } : Jvm.MethodName)) ∈ TB := List.mem_filter.mpr ⟨List.mem_append_right _ (List.mem_of_getElem? (i := 388) (by decide +kernel)), (by decide +kernel)⟩
theorem tb_389 : (Jvm.Cond.code ({ cls := "SoundWells", name := "squares", desc := "(I)I" } : Jvm.MethodName) prog_1_method_11_code (2 : Nat) (Option.some Jvm.ClassFile.FieldType.int)) ∈ TB := List.mem_filter.mpr ⟨List.mem_append_right _ (List.mem_of_getElem? (i := 389) (by decide +kernel)), (by decide +kernel)⟩
theorem tb_390 : (Jvm.Cond.methodLink "SoundWells" (109 : Nat) ({ cls := "SoundWells$Numbers", name := "isPrime", desc := "(I)Z" } : Jvm.MethodName)) ∈ TB := List.mem_filter.mpr ⟨List.mem_append_right _ (List.mem_of_getElem? (i := 390) (by decide +kernel)), (by decide +kernel)⟩
theorem tb_391 : (Jvm.Cond.methodLink "SoundWells" (115 : Nat) ({ cls := "SoundWells$Numbers", name := "squareBits", desc := "(I)I" } : Jvm.MethodName)) ∈ TB := List.mem_filter.mpr ⟨List.mem_append_right _ (List.mem_of_getElem? (i := 391) (by decide +kernel)), (by decide +kernel)⟩
theorem tb_392 : (Jvm.Cond.methodLink "SoundWellsLaw" (53 : Nat) ({ cls := "SoundWells", name := "sign", desc := "(II)I" } : Jvm.MethodName)) ∈ TB := List.mem_filter.mpr ⟨List.mem_append_right _ (List.mem_of_getElem? (i := 392) (by decide +kernel)), (by decide +kernel)⟩
theorem tb_393 : (Jvm.Cond.instanceMethod ({ cls := "SoundWells", name := "sign", desc := "(II)I" } : Jvm.MethodName)) ∈ TB := List.mem_filter.mpr ⟨List.mem_append_right _ (List.mem_of_getElem? (i := 393) (by decide +kernel)), (by decide +kernel)⟩
theorem tb_394 : (Jvm.Cond.selects "SoundWells" ({ cls := "SoundWells", name := "sign", desc := "(II)I" } : Jvm.MethodName) ({ cls := "SoundWells", name := "sign", desc := "(II)I" } : Jvm.MethodName)) ∈ TB := List.mem_filter.mpr ⟨List.mem_append_right _ (List.mem_of_getElem? (i := 394) (by decide +kernel)), (by decide +kernel)⟩
theorem tb_395 : (Jvm.Cond.code ({ cls := "SoundWells", name := "sign", desc := "(II)I" } : Jvm.MethodName) prog_1_method_12_code (3 : Nat) (Option.some Jvm.ClassFile.FieldType.int)) ∈ TB := List.mem_filter.mpr ⟨List.mem_append_right _ (List.mem_of_getElem? (i := 395) (by decide +kernel)), (by decide +kernel)⟩
theorem tb_396 : (Jvm.Cond.methodLink "SoundWells" (118 : Nat) ({ cls := "SoundWells$Numbers", name := "signOf", desc := "(II)I" } : Jvm.MethodName)) ∈ TB := List.mem_filter.mpr ⟨List.mem_append_right _ (List.mem_of_getElem? (i := 396) (by decide +kernel)), (by decide +kernel)⟩
theorem tb_397 : (Jvm.Cond.static ({ cls := "SoundWells$Numbers", name := "signOf", desc := "(II)I" } : Jvm.MethodName)) ∈ TB := List.mem_filter.mpr ⟨List.mem_append_right _ (List.mem_of_getElem? (i := 397) (by decide +kernel)), (by decide +kernel)⟩
theorem tb_398 : (Jvm.Cond.code ({ cls := "SoundWells$Numbers", name := "signOf", desc := "(II)I" } : Jvm.MethodName) prog_2_method_6_code (3 : Nat) (Option.some Jvm.ClassFile.FieldType.int)) ∈ TB := List.mem_filter.mpr ⟨List.mem_append_right _ (List.mem_of_getElem? (i := 398) (by decide +kernel)), (by decide +kernel)⟩
theorem tb_399 : (Jvm.Cond.methodLink "SoundWells$Numbers" (13 : Nat) ({ cls := "SoundWells$Numbers", name := "rest", desc := "(II)I" } : Jvm.MethodName)) ∈ TB := List.mem_filter.mpr ⟨List.mem_append_right _ (List.mem_of_getElem? (i := 399) (by decide +kernel)), (by decide +kernel)⟩
theorem tb_400 : (Jvm.Cond.methodLink "SoundWells$Numbers" (19 : Nat) ({ cls := "SoundWells$Numbers", name := "squareBits", desc := "(I)I" } : Jvm.MethodName)) ∈ TB := List.mem_filter.mpr ⟨List.mem_append_right _ (List.mem_of_getElem? (i := 400) (by decide +kernel)), (by decide +kernel)⟩
theorem tb_401 : (Jvm.Cond.methodLink "SoundWellsLaw" (57 : Nat) ({ cls := "SoundWells", name := "root", desc := "(II)I" } : Jvm.MethodName)) ∈ TB := List.mem_filter.mpr ⟨List.mem_append_right _ (List.mem_of_getElem? (i := 401) (by decide +kernel)), (by decide +kernel)⟩
theorem tb_402 : (Jvm.Cond.instanceMethod ({ cls := "SoundWells", name := "root", desc := "(II)I" } : Jvm.MethodName)) ∈ TB := List.mem_filter.mpr ⟨List.mem_append_right _ (List.mem_of_getElem? (i := 402) (by decide +kernel)), (by decide +kernel)⟩
theorem tb_403 : (Jvm.Cond.selects "SoundWells" ({ cls := "SoundWells", name := "root", desc := "(II)I" } : Jvm.MethodName) ({ cls := "SoundWells", name := "root", desc := "(II)I" } : Jvm.MethodName)) ∈ TB := List.mem_filter.mpr ⟨List.mem_append_right _ (List.mem_of_getElem? (i := 403) (by decide +kernel)), (by decide +kernel)⟩
theorem tb_404 : (Jvm.Cond.code ({ cls := "SoundWells", name := "root", desc := "(II)I" } : Jvm.MethodName) prog_1_method_13_code (3 : Nat) (Option.some Jvm.ClassFile.FieldType.int)) ∈ TB := List.mem_filter.mpr ⟨List.mem_append_right _ (List.mem_of_getElem? (i := 404) (by decide +kernel)), (by decide +kernel)⟩
theorem tb_405 : (Jvm.Cond.methodLink "SoundWells" (122 : Nat) ({ cls := "SoundWells$Numbers", name := "lowestRoot", desc := "(I)I" } : Jvm.MethodName)) ∈ TB := List.mem_filter.mpr ⟨List.mem_append_right _ (List.mem_of_getElem? (i := 405) (by decide +kernel)), (by decide +kernel)⟩
theorem tb_406 : (Jvm.Cond.static ({ cls := "SoundWells$Numbers", name := "lowestRoot", desc := "(I)I" } : Jvm.MethodName)) ∈ TB := List.mem_filter.mpr ⟨List.mem_append_right _ (List.mem_of_getElem? (i := 406) (by decide +kernel)), (by decide +kernel)⟩
theorem tb_407 : (Jvm.Cond.code ({ cls := "SoundWells$Numbers", name := "lowestRoot", desc := "(I)I" } : Jvm.MethodName) prog_2_method_8_code (2 : Nat) (Option.some Jvm.ClassFile.FieldType.int)) ∈ TB := List.mem_filter.mpr ⟨List.mem_append_right _ (List.mem_of_getElem? (i := 407) (by decide +kernel)), (by decide +kernel)⟩
theorem tb_408 : (Jvm.Cond.methodLink "SoundWells$Numbers" (23 : Nat) ({ cls := "SoundWells$Numbers", name := "isRoot", desc := "(II)Z" } : Jvm.MethodName)) ∈ TB := List.mem_filter.mpr ⟨List.mem_append_right _ (List.mem_of_getElem? (i := 408) (by decide +kernel)), (by decide +kernel)⟩
theorem tb_409 : (Jvm.Cond.methodLink "SoundWells" (125 : Nat) ({ cls := "SoundWells$Numbers", name := "rootCount", desc := "(I)I" } : Jvm.MethodName)) ∈ TB := List.mem_filter.mpr ⟨List.mem_append_right _ (List.mem_of_getElem? (i := 409) (by decide +kernel)), (by decide +kernel)⟩
theorem tb_410 : (Jvm.Cond.static ({ cls := "SoundWells$Numbers", name := "rootCount", desc := "(I)I" } : Jvm.MethodName)) ∈ TB := List.mem_filter.mpr ⟨List.mem_append_right _ (List.mem_of_getElem? (i := 410) (by decide +kernel)), (by decide +kernel)⟩
theorem tb_411 : (Jvm.Cond.code ({ cls := "SoundWells$Numbers", name := "rootCount", desc := "(I)I" } : Jvm.MethodName) prog_2_method_9_code (3 : Nat) (Option.some Jvm.ClassFile.FieldType.int)) ∈ TB := List.mem_filter.mpr ⟨List.mem_append_right _ (List.mem_of_getElem? (i := 411) (by decide +kernel)), (by decide +kernel)⟩
theorem tb_412 : (Jvm.Cond.methodLink "SoundWellsLaw" (61 : Nat) ({ cls := "SoundWells", name := "law", desc := "(II)I" } : Jvm.MethodName)) ∈ TB := List.mem_filter.mpr ⟨List.mem_append_right _ (List.mem_of_getElem? (i := 412) (by decide +kernel)), (by decide +kernel)⟩
theorem tb_413 : (Jvm.Cond.instanceMethod ({ cls := "SoundWells", name := "law", desc := "(II)I" } : Jvm.MethodName)) ∈ TB := List.mem_filter.mpr ⟨List.mem_append_right _ (List.mem_of_getElem? (i := 413) (by decide +kernel)), (by decide +kernel)⟩
theorem tb_414 : (Jvm.Cond.selects "SoundWells" ({ cls := "SoundWells", name := "law", desc := "(II)I" } : Jvm.MethodName) ({ cls := "SoundWells", name := "law", desc := "(II)I" } : Jvm.MethodName)) ∈ TB := List.mem_filter.mpr ⟨List.mem_append_right _ (List.mem_of_getElem? (i := 414) (by decide +kernel)), (by decide +kernel)⟩
theorem tb_415 : (Jvm.Cond.code ({ cls := "SoundWells", name := "law", desc := "(II)I" } : Jvm.MethodName) prog_1_method_14_code (3 : Nat) (Option.some Jvm.ClassFile.FieldType.int)) ∈ TB := List.mem_filter.mpr ⟨List.mem_append_right _ (List.mem_of_getElem? (i := 415) (by decide +kernel)), (by decide +kernel)⟩
theorem tb_416 : (Jvm.Cond.methodLink "SoundWellsLaw" (65 : Nat) ({ cls := "SoundWells", name := "panel", desc := "(II)I" } : Jvm.MethodName)) ∈ TB := List.mem_filter.mpr ⟨List.mem_append_right _ (List.mem_of_getElem? (i := 416) (by decide +kernel)), (by decide +kernel)⟩
theorem tb_417 : (Jvm.Cond.instanceMethod ({ cls := "SoundWells", name := "panel", desc := "(II)I" } : Jvm.MethodName)) ∈ TB := List.mem_filter.mpr ⟨List.mem_append_right _ (List.mem_of_getElem? (i := 417) (by decide +kernel)), (by decide +kernel)⟩
theorem tb_418 : (Jvm.Cond.selects "SoundWells" ({ cls := "SoundWells", name := "panel", desc := "(II)I" } : Jvm.MethodName) ({ cls := "SoundWells", name := "panel", desc := "(II)I" } : Jvm.MethodName)) ∈ TB := List.mem_filter.mpr ⟨List.mem_append_right _ (List.mem_of_getElem? (i := 418) (by decide +kernel)), (by decide +kernel)⟩
theorem tb_419 : (Jvm.Cond.code ({ cls := "SoundWells", name := "panel", desc := "(II)I" } : Jvm.MethodName) prog_1_method_15_code (4 : Nat) (Option.some Jvm.ClassFile.FieldType.int)) ∈ TB := List.mem_filter.mpr ⟨List.mem_append_right _ (List.mem_of_getElem? (i := 419) (by decide +kernel)), (by decide +kernel)⟩
theorem tb_420 : (Jvm.Cond.methodLink "SoundWells" (146 : Nat) ({ cls := "SoundWells$Panel", name := "greatestDepth", desc := "()I" } : Jvm.MethodName)) ∈ TB := List.mem_filter.mpr ⟨List.mem_append_right _ (List.mem_of_getElem? (i := 420) (by decide +kernel)), (by decide +kernel)⟩
theorem tb_421 : (Jvm.Cond.instanceMethod ({ cls := "SoundWells$Panel", name := "greatestDepth", desc := "()I" } : Jvm.MethodName)) ∈ TB := List.mem_filter.mpr ⟨List.mem_append_right _ (List.mem_of_getElem? (i := 421) (by decide +kernel)), (by decide +kernel)⟩
theorem tb_422 : (Jvm.Cond.selects "SoundWells$Panel" ({ cls := "SoundWells$Panel", name := "greatestDepth", desc := "()I" } : Jvm.MethodName) ({ cls := "SoundWells$Panel", name := "greatestDepth", desc := "()I" } : Jvm.MethodName)) ∈ TB := List.mem_filter.mpr ⟨List.mem_append_right _ (List.mem_of_getElem? (i := 422) (by decide +kernel)), (by decide +kernel)⟩
theorem tb_423 : (Jvm.Cond.code ({ cls := "SoundWells$Panel", name := "greatestDepth", desc := "()I" } : Jvm.MethodName) prog_3_method_13_code (3 : Nat) (Option.some Jvm.ClassFile.FieldType.int)) ∈ TB := List.mem_filter.mpr ⟨List.mem_append_right _ (List.mem_of_getElem? (i := 423) (by decide +kernel)), (by decide +kernel)⟩
theorem tb_424 : (Jvm.Cond.methodLink "SoundWells$Panel" (69 : Nat) ({ cls := "SoundWells$Panel", name := "wellDepth", desc := "(I)I" } : Jvm.MethodName)) ∈ TB := List.mem_filter.mpr ⟨List.mem_append_right _ (List.mem_of_getElem? (i := 424) (by decide +kernel)), (by decide +kernel)⟩
theorem tb_425 : (Jvm.Cond.instanceMethod ({ cls := "SoundWells$Panel", name := "wellDepth", desc := "(I)I" } : Jvm.MethodName)) ∈ TB := List.mem_filter.mpr ⟨List.mem_append_right _ (List.mem_of_getElem? (i := 425) (by decide +kernel)), (by decide +kernel)⟩
theorem tb_426 : (Jvm.Cond.selects "SoundWells$Panel" ({ cls := "SoundWells$Panel", name := "wellDepth", desc := "(I)I" } : Jvm.MethodName) ({ cls := "SoundWells$Panel", name := "wellDepth", desc := "(I)I" } : Jvm.MethodName)) ∈ TB := List.mem_filter.mpr ⟨List.mem_append_right _ (List.mem_of_getElem? (i := 426) (by decide +kernel)), (by decide +kernel)⟩
theorem tb_427 : (Jvm.Cond.code ({ cls := "SoundWells$Panel", name := "wellDepth", desc := "(I)I" } : Jvm.MethodName) prog_3_method_12_code (2 : Nat) (Option.some Jvm.ClassFile.FieldType.int)) ∈ TB := List.mem_filter.mpr ⟨List.mem_append_right _ (List.mem_of_getElem? (i := 427) (by decide +kernel)), (by decide +kernel)⟩
theorem tb_428 : (Jvm.Cond.methodLink "SoundWells$Panel" (66 : Nat) ({ cls := "SoundWells$Panel", name := "depthAt", desc := "(I)I" } : Jvm.MethodName)) ∈ TB := List.mem_filter.mpr ⟨List.mem_append_right _ (List.mem_of_getElem? (i := 428) (by decide +kernel)), (by decide +kernel)⟩
theorem tb_429 : (Jvm.Cond.instanceMethod ({ cls := "SoundWells$Panel", name := "depthAt", desc := "(I)I" } : Jvm.MethodName)) ∈ TB := List.mem_filter.mpr ⟨List.mem_append_right _ (List.mem_of_getElem? (i := 429) (by decide +kernel)), (by decide +kernel)⟩
theorem tb_430 : (Jvm.Cond.selects "SoundWells$Panel" ({ cls := "SoundWells$Panel", name := "depthAt", desc := "(I)I" } : Jvm.MethodName) ({ cls := "SoundWells$Panel", name := "depthAt", desc := "(I)I" } : Jvm.MethodName)) ∈ TB := List.mem_filter.mpr ⟨List.mem_append_right _ (List.mem_of_getElem? (i := 430) (by decide +kernel)), (by decide +kernel)⟩
theorem tb_431 : (Jvm.Cond.code ({ cls := "SoundWells$Panel", name := "depthAt", desc := "(I)I" } : Jvm.MethodName) prog_3_method_11_code (3 : Nat) (Option.some Jvm.ClassFile.FieldType.int)) ∈ TB := List.mem_filter.mpr ⟨List.mem_append_right _ (List.mem_of_getElem? (i := 431) (by decide +kernel)), (by decide +kernel)⟩
theorem tb_432 : (Jvm.Cond.methodLink "SoundWells$Panel" (72 : Nat) ({ cls := "java/lang/Math", name := "max", desc := "(II)I" } : Jvm.MethodName)) ∈ TB := List.mem_filter.mpr ⟨List.mem_append_right _ (List.mem_of_getElem? (i := 432) (by decide +kernel)), (by decide +kernel)⟩
theorem tb_433 : (Jvm.Cond.methodLink "SoundWells" (150 : Nat) ({ cls := "SoundWells$Panel", name := "depthsTogether", desc := "()I" } : Jvm.MethodName)) ∈ TB := List.mem_filter.mpr ⟨List.mem_append_right _ (List.mem_of_getElem? (i := 433) (by decide +kernel)), (by decide +kernel)⟩
theorem tb_434 : (Jvm.Cond.instanceMethod ({ cls := "SoundWells$Panel", name := "depthsTogether", desc := "()I" } : Jvm.MethodName)) ∈ TB := List.mem_filter.mpr ⟨List.mem_append_right _ (List.mem_of_getElem? (i := 434) (by decide +kernel)), (by decide +kernel)⟩
theorem tb_435 : (Jvm.Cond.selects "SoundWells$Panel" ({ cls := "SoundWells$Panel", name := "depthsTogether", desc := "()I" } : Jvm.MethodName) ({ cls := "SoundWells$Panel", name := "depthsTogether", desc := "()I" } : Jvm.MethodName)) ∈ TB := List.mem_filter.mpr ⟨List.mem_append_right _ (List.mem_of_getElem? (i := 435) (by decide +kernel)), (by decide +kernel)⟩
theorem tb_436 : (Jvm.Cond.code ({ cls := "SoundWells$Panel", name := "depthsTogether", desc := "()I" } : Jvm.MethodName) prog_3_method_14_code (3 : Nat) (Option.some Jvm.ClassFile.FieldType.int)) ∈ TB := List.mem_filter.mpr ⟨List.mem_append_right _ (List.mem_of_getElem? (i := 436) (by decide +kernel)), (by decide +kernel)⟩
theorem tb_437 : (Jvm.Cond.methodLink "SoundWells" (153 : Nat) ({ cls := "SoundWells$Panel", name := "unlikeDepths", desc := "()I" } : Jvm.MethodName)) ∈ TB := List.mem_filter.mpr ⟨List.mem_append_right _ (List.mem_of_getElem? (i := 437) (by decide +kernel)), (by decide +kernel)⟩
theorem tb_438 : (Jvm.Cond.instanceMethod ({ cls := "SoundWells$Panel", name := "unlikeDepths", desc := "()I" } : Jvm.MethodName)) ∈ TB := List.mem_filter.mpr ⟨List.mem_append_right _ (List.mem_of_getElem? (i := 438) (by decide +kernel)), (by decide +kernel)⟩
theorem tb_439 : (Jvm.Cond.selects "SoundWells$Panel" ({ cls := "SoundWells$Panel", name := "unlikeDepths", desc := "()I" } : Jvm.MethodName) ({ cls := "SoundWells$Panel", name := "unlikeDepths", desc := "()I" } : Jvm.MethodName)) ∈ TB := List.mem_filter.mpr ⟨List.mem_append_right _ (List.mem_of_getElem? (i := 439) (by decide +kernel)), (by decide +kernel)⟩
theorem tb_440 : (Jvm.Cond.code ({ cls := "SoundWells$Panel", name := "unlikeDepths", desc := "()I" } : Jvm.MethodName) prog_3_method_15_code (3 : Nat) (Option.some Jvm.ClassFile.FieldType.int)) ∈ TB := List.mem_filter.mpr ⟨List.mem_append_right _ (List.mem_of_getElem? (i := 440) (by decide +kernel)), (by decide +kernel)⟩
theorem tb_441 : (Jvm.Cond.methodLink "SoundWells$Panel" (77 : Nat) ({ cls := "java/lang/Integer", name := "bitCount", desc := "(I)I" } : Jvm.MethodName)) ∈ TB := List.mem_filter.mpr ⟨List.mem_append_right _ (List.mem_of_getElem? (i := 441) (by decide +kernel)), (by decide +kernel)⟩
theorem tb_442 : (Jvm.Cond.static ({ cls := "java/lang/Integer", name := "bitCount", desc := "(I)I" } : Jvm.MethodName)) ∈ TB := List.mem_filter.mpr ⟨List.mem_append_right _ (List.mem_of_getElem? (i := 442) (by decide +kernel)), (by decide +kernel)⟩
theorem tb_443 : (Jvm.Cond.code ({ cls := "java/lang/Integer", name := "bitCount", desc := "(I)I" } : Jvm.MethodName) prog_11_method_49_code (1 : Nat) (Option.some Jvm.ClassFile.FieldType.int)) ∈ TB := List.mem_filter.mpr ⟨List.mem_append_right _ (List.mem_of_getElem? (i := 443) (by decide +kernel)), (by decide +kernel)⟩
theorem tb_444 : (Jvm.Cond.constant "java/lang/Integer" (265 : Nat) (1431655765 : Int32)) ∈ TB := List.mem_filter.mpr ⟨List.mem_append_right _ (List.mem_of_getElem? (i := 444) (by decide +kernel)), (by decide +kernel)⟩
theorem tb_445 : (Jvm.Cond.constant "java/lang/Integer" (266 : Nat) (858993459 : Int32)) ∈ TB := List.mem_filter.mpr ⟨List.mem_append_right _ (List.mem_of_getElem? (i := 445) (by decide +kernel)), (by decide +kernel)⟩
theorem tb_446 : (Jvm.Cond.constant "java/lang/Integer" (267 : Nat) (252645135 : Int32)) ∈ TB := List.mem_filter.mpr ⟨List.mem_append_right _ (List.mem_of_getElem? (i := 446) (by decide +kernel)), (by decide +kernel)⟩
theorem tb_447 : (Jvm.Cond.methodLink "SoundWells" (156 : Nat) ({ cls := "SoundWells$Panel", name := "isMirrored", desc := "()Z" } : Jvm.MethodName)) ∈ TB := List.mem_filter.mpr ⟨List.mem_append_right _ (List.mem_of_getElem? (i := 447) (by decide +kernel)), (by decide +kernel)⟩
theorem tb_448 : (Jvm.Cond.instanceMethod ({ cls := "SoundWells$Panel", name := "isMirrored", desc := "()Z" } : Jvm.MethodName)) ∈ TB := List.mem_filter.mpr ⟨List.mem_append_right _ (List.mem_of_getElem? (i := 448) (by decide +kernel)), (by decide +kernel)⟩
theorem tb_449 : (Jvm.Cond.selects "SoundWells$Panel" ({ cls := "SoundWells$Panel", name := "isMirrored", desc := "()Z" } : Jvm.MethodName) ({ cls := "SoundWells$Panel", name := "isMirrored", desc := "()Z" } : Jvm.MethodName)) ∈ TB := List.mem_filter.mpr ⟨List.mem_append_right _ (List.mem_of_getElem? (i := 449) (by decide +kernel)), (by decide +kernel)⟩
theorem tb_450 : (Jvm.Cond.code ({ cls := "SoundWells$Panel", name := "isMirrored", desc := "()Z" } : Jvm.MethodName) prog_3_method_16_code (2 : Nat) (Option.some Jvm.ClassFile.FieldType.boolean)) ∈ TB := List.mem_filter.mpr ⟨List.mem_append_right _ (List.mem_of_getElem? (i := 450) (by decide +kernel)), (by decide +kernel)⟩
theorem tb_451 : (Jvm.Cond.methodLink "SoundWells" (160 : Nat) ({ cls := "SoundWells$Panel", name := "evenness", desc := "()I" } : Jvm.MethodName)) ∈ TB := List.mem_filter.mpr ⟨List.mem_append_right _ (List.mem_of_getElem? (i := 451) (by decide +kernel)), (by decide +kernel)⟩
theorem tb_452 : (Jvm.Cond.instanceMethod ({ cls := "SoundWells$Panel", name := "evenness", desc := "()I" } : Jvm.MethodName)) ∈ TB := List.mem_filter.mpr ⟨List.mem_append_right _ (List.mem_of_getElem? (i := 452) (by decide +kernel)), (by decide +kernel)⟩
theorem tb_453 : (Jvm.Cond.selects "SoundWells$Panel" ({ cls := "SoundWells$Panel", name := "evenness", desc := "()I" } : Jvm.MethodName) ({ cls := "SoundWells$Panel", name := "evenness", desc := "()I" } : Jvm.MethodName)) ∈ TB := List.mem_filter.mpr ⟨List.mem_append_right _ (List.mem_of_getElem? (i := 453) (by decide +kernel)), (by decide +kernel)⟩
theorem tb_454 : (Jvm.Cond.code ({ cls := "SoundWells$Panel", name := "evenness", desc := "()I" } : Jvm.MethodName) prog_3_method_19_code (7 : Nat) (Option.some Jvm.ClassFile.FieldType.int)) ∈ TB := List.mem_filter.mpr ⟨List.mem_append_right _ (List.mem_of_getElem? (i := 454) (by decide +kernel)), (by decide +kernel)⟩
theorem tb_455 : (Jvm.Cond.methodLink "SoundWells$Panel" (85 : Nat) ({ cls := "java/util/Arrays", name := "fill", desc := "([II)V" } : Jvm.MethodName)) ∈ TB := List.mem_filter.mpr ⟨List.mem_append_right _ (List.mem_of_getElem? (i := 455) (by decide +kernel)), (by decide +kernel)⟩
theorem tb_456 : (Jvm.Cond.static ({ cls := "java/util/Arrays", name := "fill", desc := "([II)V" } : Jvm.MethodName)) ∈ TB := List.mem_filter.mpr ⟨List.mem_append_right _ (List.mem_of_getElem? (i := 456) (by decide +kernel)), (by decide +kernel)⟩
theorem tb_457 : (Jvm.Cond.code ({ cls := "java/util/Arrays", name := "fill", desc := "([II)V" } : Jvm.MethodName) prog_13_method_103_code (4 : Nat) (Option.none : Option Jvm.ClassFile.FieldType)) ∈ TB := List.mem_filter.mpr ⟨List.mem_append_right _ (List.mem_of_getElem? (i := 457) (by decide +kernel)), (by decide +kernel)⟩
theorem tb_458 : (Jvm.Cond.methodLink "SoundWells$Panel" (82 : Nat) ({ cls := "SoundWells$Panel", name := "differenceAt", desc := "(II)I" } : Jvm.MethodName)) ∈ TB := List.mem_filter.mpr ⟨List.mem_append_right _ (List.mem_of_getElem? (i := 458) (by decide +kernel)), (by decide +kernel)⟩
theorem tb_460 : (Jvm.Cond.instanceMethod ({ cls := "SoundWells$Panel", name := "differenceAt", desc := "(II)I" } : Jvm.MethodName)) ∈ TB := List.mem_filter.mpr ⟨List.mem_append_right _ (List.mem_of_getElem? (i := 460) (by decide +kernel)), (by decide +kernel)⟩
theorem tb_461 : (Jvm.Cond.code ({ cls := "SoundWells$Panel", name := "differenceAt", desc := "(II)I" } : Jvm.MethodName) prog_3_method_17_code (3 : Nat) (Option.some Jvm.ClassFile.FieldType.int)) ∈ TB := List.mem_filter.mpr ⟨List.mem_append_right _ (List.mem_of_getElem? (i := 461) (by decide +kernel)), (by decide +kernel)⟩
theorem tb_462 : (Jvm.Cond.methodLink "SoundWells$Panel" (91 : Nat) ({ cls := "java/lang/Math", name := "min", desc := "(II)I" } : Jvm.MethodName)) ∈ TB := List.mem_filter.mpr ⟨List.mem_append_right _ (List.mem_of_getElem? (i := 462) (by decide +kernel)), (by decide +kernel)⟩
theorem tb_463 : (Jvm.Cond.methodLink "SoundWellsLaw" (69 : Nat) ({ cls := "SoundWells", name := "well", desc := "(II)I" } : Jvm.MethodName)) ∈ TB := List.mem_filter.mpr ⟨List.mem_append_right _ (List.mem_of_getElem? (i := 463) (by decide +kernel)), (by decide +kernel)⟩
theorem tb_464 : (Jvm.Cond.instanceMethod ({ cls := "SoundWells", name := "well", desc := "(II)I" } : Jvm.MethodName)) ∈ TB := List.mem_filter.mpr ⟨List.mem_append_right _ (List.mem_of_getElem? (i := 464) (by decide +kernel)), (by decide +kernel)⟩
theorem tb_465 : (Jvm.Cond.selects "SoundWells" ({ cls := "SoundWells", name := "well", desc := "(II)I" } : Jvm.MethodName) ({ cls := "SoundWells", name := "well", desc := "(II)I" } : Jvm.MethodName)) ∈ TB := List.mem_filter.mpr ⟨List.mem_append_right _ (List.mem_of_getElem? (i := 465) (by decide +kernel)), (by decide +kernel)⟩
theorem tb_466 : (Jvm.Cond.code ({ cls := "SoundWells", name := "well", desc := "(II)I" } : Jvm.MethodName) prog_1_method_16_code (4 : Nat) (Option.some Jvm.ClassFile.FieldType.int)) ∈ TB := List.mem_filter.mpr ⟨List.mem_append_right _ (List.mem_of_getElem? (i := 466) (by decide +kernel)), (by decide +kernel)⟩
theorem tb_467 : (Jvm.Cond.methodLink "SoundWells" (163 : Nat) ({ cls := "SoundWells$Panel", name := "hasWell", desc := "(I)Z" } : Jvm.MethodName)) ∈ TB := List.mem_filter.mpr ⟨List.mem_append_right _ (List.mem_of_getElem? (i := 467) (by decide +kernel)), (by decide +kernel)⟩
theorem tb_468 : (Jvm.Cond.instanceMethod ({ cls := "SoundWells$Panel", name := "hasWell", desc := "(I)Z" } : Jvm.MethodName)) ∈ TB := List.mem_filter.mpr ⟨List.mem_append_right _ (List.mem_of_getElem? (i := 468) (by decide +kernel)), (by decide +kernel)⟩
theorem tb_469 : (Jvm.Cond.selects "SoundWells$Panel" ({ cls := "SoundWells$Panel", name := "hasWell", desc := "(I)Z" } : Jvm.MethodName) ({ cls := "SoundWells$Panel", name := "hasWell", desc := "(I)Z" } : Jvm.MethodName)) ∈ TB := List.mem_filter.mpr ⟨List.mem_append_right _ (List.mem_of_getElem? (i := 469) (by decide +kernel)), (by decide +kernel)⟩
theorem tb_470 : (Jvm.Cond.code ({ cls := "SoundWells$Panel", name := "hasWell", desc := "(I)Z" } : Jvm.MethodName) prog_3_method_9_code (2 : Nat) (Option.some Jvm.ClassFile.FieldType.boolean)) ∈ TB := List.mem_filter.mpr ⟨List.mem_append_right _ (List.mem_of_getElem? (i := 470) (by decide +kernel)), (by decide +kernel)⟩
theorem tb_471 : (Jvm.Cond.methodLink "SoundWells" (166 : Nat) ({ cls := "SoundWells$Panel", name := "wellDepth", desc := "(I)I" } : Jvm.MethodName)) ∈ TB := List.mem_filter.mpr ⟨List.mem_append_right _ (List.mem_of_getElem? (i := 471) (by decide +kernel)), (by decide +kernel)⟩
theorem tb_472 : (Jvm.Cond.methodLink "SoundWellsLaw" (73 : Nat) ({ cls := "SoundWells", name := "counts", desc := "(III)I" } : Jvm.MethodName)) ∈ TB := List.mem_filter.mpr ⟨List.mem_append_right _ (List.mem_of_getElem? (i := 472) (by decide +kernel)), (by decide +kernel)⟩
theorem tb_473 : (Jvm.Cond.instanceMethod ({ cls := "SoundWells", name := "counts", desc := "(III)I" } : Jvm.MethodName)) ∈ TB := List.mem_filter.mpr ⟨List.mem_append_right _ (List.mem_of_getElem? (i := 473) (by decide +kernel)), (by decide +kernel)⟩
theorem tb_474 : (Jvm.Cond.selects "SoundWells" ({ cls := "SoundWells", name := "counts", desc := "(III)I" } : Jvm.MethodName) ({ cls := "SoundWells", name := "counts", desc := "(III)I" } : Jvm.MethodName)) ∈ TB := List.mem_filter.mpr ⟨List.mem_append_right _ (List.mem_of_getElem? (i := 474) (by decide +kernel)), (by decide +kernel)⟩
theorem tb_475 : (Jvm.Cond.code ({ cls := "SoundWells", name := "counts", desc := "(III)I" } : Jvm.MethodName) prog_1_method_17_code (5 : Nat) (Option.some Jvm.ClassFile.FieldType.int)) ∈ TB := List.mem_filter.mpr ⟨List.mem_append_right _ (List.mem_of_getElem? (i := 475) (by decide +kernel)), (by decide +kernel)⟩
theorem tb_476 : (Jvm.Cond.methodLink "SoundWells" (169 : Nat) ({ cls := "SoundWells$Panel", name := "isRest", desc := "(I)Z" } : Jvm.MethodName)) ∈ TB := List.mem_filter.mpr ⟨List.mem_append_right _ (List.mem_of_getElem? (i := 476) (by decide +kernel)), (by decide +kernel)⟩
theorem tb_477 : (Jvm.Cond.instanceMethod ({ cls := "SoundWells$Panel", name := "isRest", desc := "(I)Z" } : Jvm.MethodName)) ∈ TB := List.mem_filter.mpr ⟨List.mem_append_right _ (List.mem_of_getElem? (i := 477) (by decide +kernel)), (by decide +kernel)⟩
theorem tb_478 : (Jvm.Cond.selects "SoundWells$Panel" ({ cls := "SoundWells$Panel", name := "isRest", desc := "(I)Z" } : Jvm.MethodName) ({ cls := "SoundWells$Panel", name := "isRest", desc := "(I)Z" } : Jvm.MethodName)) ∈ TB := List.mem_filter.mpr ⟨List.mem_append_right _ (List.mem_of_getElem? (i := 478) (by decide +kernel)), (by decide +kernel)⟩
theorem tb_479 : (Jvm.Cond.code ({ cls := "SoundWells$Panel", name := "isRest", desc := "(I)Z" } : Jvm.MethodName) prog_3_method_10_code (2 : Nat) (Option.some Jvm.ClassFile.FieldType.boolean)) ∈ TB := List.mem_filter.mpr ⟨List.mem_append_right _ (List.mem_of_getElem? (i := 479) (by decide +kernel)), (by decide +kernel)⟩
theorem tb_480 : (Jvm.Cond.methodLink "SoundWells" (172 : Nat) ({ cls := "SoundWells$Panel", name := "countOf", desc := "(II)I" } : Jvm.MethodName)) ∈ TB := List.mem_filter.mpr ⟨List.mem_append_right _ (List.mem_of_getElem? (i := 480) (by decide +kernel)), (by decide +kernel)⟩
theorem tb_481 : (Jvm.Cond.instanceMethod ({ cls := "SoundWells$Panel", name := "countOf", desc := "(II)I" } : Jvm.MethodName)) ∈ TB := List.mem_filter.mpr ⟨List.mem_append_right _ (List.mem_of_getElem? (i := 481) (by decide +kernel)), (by decide +kernel)⟩
theorem tb_482 : (Jvm.Cond.selects "SoundWells$Panel" ({ cls := "SoundWells$Panel", name := "countOf", desc := "(II)I" } : Jvm.MethodName) ({ cls := "SoundWells$Panel", name := "countOf", desc := "(II)I" } : Jvm.MethodName)) ∈ TB := List.mem_filter.mpr ⟨List.mem_append_right _ (List.mem_of_getElem? (i := 482) (by decide +kernel)), (by decide +kernel)⟩
theorem tb_483 : (Jvm.Cond.code ({ cls := "SoundWells$Panel", name := "countOf", desc := "(II)I" } : Jvm.MethodName) prog_3_method_18_code (5 : Nat) (Option.some Jvm.ClassFile.FieldType.int)) ∈ TB := List.mem_filter.mpr ⟨List.mem_append_right _ (List.mem_of_getElem? (i := 483) (by decide +kernel)), (by decide +kernel)⟩
theorem tb_484 : (Jvm.Cond.methodLink "SoundWellsLaw" (77 : Nat) ({ cls := "SoundWells", name := "plane", desc := "(III)I" } : Jvm.MethodName)) ∈ TB := List.mem_filter.mpr ⟨List.mem_append_right _ (List.mem_of_getElem? (i := 484) (by decide +kernel)), (by decide +kernel)⟩
theorem tb_485 : (Jvm.Cond.instanceMethod ({ cls := "SoundWells", name := "plane", desc := "(III)I" } : Jvm.MethodName)) ∈ TB := List.mem_filter.mpr ⟨List.mem_append_right _ (List.mem_of_getElem? (i := 485) (by decide +kernel)), (by decide +kernel)⟩
theorem tb_486 : (Jvm.Cond.selects "SoundWells" ({ cls := "SoundWells", name := "plane", desc := "(III)I" } : Jvm.MethodName) ({ cls := "SoundWells", name := "plane", desc := "(III)I" } : Jvm.MethodName)) ∈ TB := List.mem_filter.mpr ⟨List.mem_append_right _ (List.mem_of_getElem? (i := 486) (by decide +kernel)), (by decide +kernel)⟩
theorem tb_487 : (Jvm.Cond.code ({ cls := "SoundWells", name := "plane", desc := "(III)I" } : Jvm.MethodName) prog_1_method_18_code (5 : Nat) (Option.some Jvm.ClassFile.FieldType.int)) ∈ TB := List.mem_filter.mpr ⟨List.mem_append_right _ (List.mem_of_getElem? (i := 487) (by decide +kernel)), (by decide +kernel)⟩
theorem tb_488 : (Jvm.Cond.methodLink "SoundWells" (175 : Nat) ({ cls := "SoundWells$Panel", name := "planeDepth", desc := "(II)I" } : Jvm.MethodName)) ∈ TB := List.mem_filter.mpr ⟨List.mem_append_right _ (List.mem_of_getElem? (i := 488) (by decide +kernel)), (by decide +kernel)⟩
theorem tb_489 : (Jvm.Cond.instanceMethod ({ cls := "SoundWells$Panel", name := "planeDepth", desc := "(II)I" } : Jvm.MethodName)) ∈ TB := List.mem_filter.mpr ⟨List.mem_append_right _ (List.mem_of_getElem? (i := 489) (by decide +kernel)), (by decide +kernel)⟩
theorem tb_490 : (Jvm.Cond.selects "SoundWells$Panel" ({ cls := "SoundWells$Panel", name := "planeDepth", desc := "(II)I" } : Jvm.MethodName) ({ cls := "SoundWells$Panel", name := "planeDepth", desc := "(II)I" } : Jvm.MethodName)) ∈ TB := List.mem_filter.mpr ⟨List.mem_append_right _ (List.mem_of_getElem? (i := 490) (by decide +kernel)), (by decide +kernel)⟩
theorem tb_491 : (Jvm.Cond.code ({ cls := "SoundWells$Panel", name := "planeDepth", desc := "(II)I" } : Jvm.MethodName) prog_3_method_20_code (3 : Nat) (Option.some Jvm.ClassFile.FieldType.int)) ∈ TB := List.mem_filter.mpr ⟨List.mem_append_right _ (List.mem_of_getElem? (i := 491) (by decide +kernel)), (by decide +kernel)⟩
theorem tb_492 : (Jvm.Cond.methodLink "SoundWellsLaw" (81 : Nat) ({ cls := "SoundWells", name := "planes", desc := "(II)I" } : Jvm.MethodName)) ∈ TB := List.mem_filter.mpr ⟨List.mem_append_right _ (List.mem_of_getElem? (i := 492) (by decide +kernel)), (by decide +kernel)⟩
theorem tb_493 : (Jvm.Cond.instanceMethod ({ cls := "SoundWells", name := "planes", desc := "(II)I" } : Jvm.MethodName)) ∈ TB := List.mem_filter.mpr ⟨List.mem_append_right _ (List.mem_of_getElem? (i := 493) (by decide +kernel)), (by decide +kernel)⟩
theorem tb_494 : (Jvm.Cond.selects "SoundWells" ({ cls := "SoundWells", name := "planes", desc := "(II)I" } : Jvm.MethodName) ({ cls := "SoundWells", name := "planes", desc := "(II)I" } : Jvm.MethodName)) ∈ TB := List.mem_filter.mpr ⟨List.mem_append_right _ (List.mem_of_getElem? (i := 494) (by decide +kernel)), (by decide +kernel)⟩
theorem tb_495 : (Jvm.Cond.code ({ cls := "SoundWells", name := "planes", desc := "(II)I" } : Jvm.MethodName) prog_1_method_19_code (4 : Nat) (Option.some Jvm.ClassFile.FieldType.int)) ∈ TB := List.mem_filter.mpr ⟨List.mem_append_right _ (List.mem_of_getElem? (i := 495) (by decide +kernel)), (by decide +kernel)⟩
theorem tb_496 : (Jvm.Cond.methodLink "SoundWells" (178 : Nat) ({ cls := "SoundWells$Panel", name := "planePlaces", desc := "(I)I" } : Jvm.MethodName)) ∈ TB := List.mem_filter.mpr ⟨List.mem_append_right _ (List.mem_of_getElem? (i := 496) (by decide +kernel)), (by decide +kernel)⟩
theorem tb_497 : (Jvm.Cond.instanceMethod ({ cls := "SoundWells$Panel", name := "planePlaces", desc := "(I)I" } : Jvm.MethodName)) ∈ TB := List.mem_filter.mpr ⟨List.mem_append_right _ (List.mem_of_getElem? (i := 497) (by decide +kernel)), (by decide +kernel)⟩
theorem tb_498 : (Jvm.Cond.selects "SoundWells$Panel" ({ cls := "SoundWells$Panel", name := "planePlaces", desc := "(I)I" } : Jvm.MethodName) ({ cls := "SoundWells$Panel", name := "planePlaces", desc := "(I)I" } : Jvm.MethodName)) ∈ TB := List.mem_filter.mpr ⟨List.mem_append_right _ (List.mem_of_getElem? (i := 498) (by decide +kernel)), (by decide +kernel)⟩
theorem tb_499 : (Jvm.Cond.code ({ cls := "SoundWells$Panel", name := "planePlaces", desc := "(I)I" } : Jvm.MethodName) prog_3_method_21_code (5 : Nat) (Option.some Jvm.ClassFile.FieldType.int)) ∈ TB := List.mem_filter.mpr ⟨List.mem_append_right _ (List.mem_of_getElem? (i := 499) (by decide +kernel)), (by decide +kernel)⟩
theorem tb_500 : (Jvm.Cond.methodLink "SoundWells$Panel" (94 : Nat) ({ cls := "SoundWells$Panel", name := "planeDepth", desc := "(II)I" } : Jvm.MethodName)) ∈ TB := List.mem_filter.mpr ⟨List.mem_append_right _ (List.mem_of_getElem? (i := 500) (by decide +kernel)), (by decide +kernel)⟩
theorem tb_501 : (Jvm.Cond.methodLink "SoundWellsLaw" (85 : Nat) ({ cls := "SoundWells", name := "cut", desc := "(I)I" } : Jvm.MethodName)) ∈ TB := List.mem_filter.mpr ⟨List.mem_append_right _ (List.mem_of_getElem? (i := 501) (by decide +kernel)), (by decide +kernel)⟩
theorem tb_502 : (Jvm.Cond.instanceMethod ({ cls := "SoundWells", name := "cut", desc := "(I)I" } : Jvm.MethodName)) ∈ TB := List.mem_filter.mpr ⟨List.mem_append_right _ (List.mem_of_getElem? (i := 502) (by decide +kernel)), (by decide +kernel)⟩
theorem tb_503 : (Jvm.Cond.selects "SoundWells" ({ cls := "SoundWells", name := "cut", desc := "(I)I" } : Jvm.MethodName) ({ cls := "SoundWells", name := "cut", desc := "(I)I" } : Jvm.MethodName)) ∈ TB := List.mem_filter.mpr ⟨List.mem_append_right _ (List.mem_of_getElem? (i := 503) (by decide +kernel)), (by decide +kernel)⟩
theorem tb_504 : (Jvm.Cond.code ({ cls := "SoundWells", name := "cut", desc := "(I)I" } : Jvm.MethodName) prog_1_method_20_code (2 : Nat) (Option.some Jvm.ClassFile.FieldType.int)) ∈ TB := List.mem_filter.mpr ⟨List.mem_append_right _ (List.mem_of_getElem? (i := 504) (by decide +kernel)), (by decide +kernel)⟩
theorem tb_505 : (Jvm.Cond.methodLink "SoundWells" (181 : Nat) ({ cls := "SoundWells$Saw", name := "cutAll", desc := "(LSoundWells$Plan;)V" } : Jvm.MethodName)) ∈ TB := List.mem_filter.mpr ⟨List.mem_append_right _ (List.mem_of_getElem? (i := 505) (by decide +kernel)), (by decide +kernel)⟩
theorem tb_506 : (Jvm.Cond.instanceMethod ({ cls := "SoundWells$Saw", name := "cutAll", desc := "(LSoundWells$Plan;)V" } : Jvm.MethodName)) ∈ TB := List.mem_filter.mpr ⟨List.mem_append_right _ (List.mem_of_getElem? (i := 506) (by decide +kernel)), (by decide +kernel)⟩
theorem tb_507 : (Jvm.Cond.selects "SoundWells$Saw" ({ cls := "SoundWells$Saw", name := "cutAll", desc := "(LSoundWells$Plan;)V" } : Jvm.MethodName) ({ cls := "SoundWells$Saw", name := "cutAll", desc := "(LSoundWells$Plan;)V" } : Jvm.MethodName)) ∈ TB := List.mem_filter.mpr ⟨List.mem_append_right _ (List.mem_of_getElem? (i := 507) (by decide +kernel)), (by decide +kernel)⟩
theorem tb_508 : (Jvm.Cond.code ({ cls := "SoundWells$Saw", name := "cutAll", desc := "(LSoundWells$Plan;)V" } : Jvm.MethodName) prog_7_method_2_code (2 : Nat) (Option.none : Option Jvm.ClassFile.FieldType)) ∈ TB := List.mem_filter.mpr ⟨List.mem_append_right _ (List.mem_of_getElem? (i := 508) (by decide +kernel)), (by decide +kernel)⟩
theorem tb_509 : (Jvm.Cond.methodLink "SoundWells$Saw" (30 : Nat) ({ cls := "SoundWells$Saw", name := "cutAllMoved", desc := "(LSoundWells$Plan;II)V" } : Jvm.MethodName)) ∈ TB := List.mem_filter.mpr ⟨List.mem_append_right _ (List.mem_of_getElem? (i := 509) (by decide +kernel)), (by decide +kernel)⟩
theorem tb_510 : (Jvm.Cond.instanceMethod ({ cls := "SoundWells$Saw", name := "cutAllMoved", desc := "(LSoundWells$Plan;II)V" } : Jvm.MethodName)) ∈ TB := List.mem_filter.mpr ⟨List.mem_append_right _ (List.mem_of_getElem? (i := 510) (by decide +kernel)), (by decide +kernel)⟩
theorem tb_511 : (Jvm.Cond.selects "SoundWells$Saw" ({ cls := "SoundWells$Saw", name := "cutAllMoved", desc := "(LSoundWells$Plan;II)V" } : Jvm.MethodName) ({ cls := "SoundWells$Saw", name := "cutAllMoved", desc := "(LSoundWells$Plan;II)V" } : Jvm.MethodName)) ∈ TB := List.mem_filter.mpr ⟨List.mem_append_right _ (List.mem_of_getElem? (i := 511) (by decide +kernel)), (by decide +kernel)⟩
theorem tb_512 : (Jvm.Cond.code ({ cls := "SoundWells$Saw", name := "cutAllMoved", desc := "(LSoundWells$Plan;II)V" } : Jvm.MethodName) prog_7_method_3_code (6 : Nat) (Option.none : Option Jvm.ClassFile.FieldType)) ∈ TB := List.mem_filter.mpr ⟨List.mem_append_right _ (List.mem_of_getElem? (i := 512) (by decide +kernel)), (by decide +kernel)⟩
theorem tb_513 : (Jvm.Cond.methodLink "SoundWells$Saw" (34 : Nat) ({ cls := "SoundWells$Saw", name := "start", desc := "(LSoundWells$Plan;)V" } : Jvm.MethodName)) ∈ TB := List.mem_filter.mpr ⟨List.mem_append_right _ (List.mem_of_getElem? (i := 513) (by decide +kernel)), (by decide +kernel)⟩
theorem tb_515 : (Jvm.Cond.instanceMethod ({ cls := "SoundWells$Saw", name := "start", desc := "(LSoundWells$Plan;)V" } : Jvm.MethodName)) ∈ TB := List.mem_filter.mpr ⟨List.mem_append_right _ (List.mem_of_getElem? (i := 515) (by decide +kernel)), (by decide +kernel)⟩
theorem tb_516 : (Jvm.Cond.code ({ cls := "SoundWells$Saw", name := "start", desc := "(LSoundWells$Plan;)V" } : Jvm.MethodName) prog_7_method_4_code (2 : Nat) (Option.none : Option Jvm.ClassFile.FieldType)) ∈ TB := List.mem_filter.mpr ⟨List.mem_append_right _ (List.mem_of_getElem? (i := 516) (by decide +kernel)), (by decide +kernel)⟩
theorem tb_517 : (Jvm.Cond.methodLink "SoundWells$Saw" (89 : Nat) ({ cls := "java/util/Arrays", name := "fill", desc := "([II)V" } : Jvm.MethodName)) ∈ TB := List.mem_filter.mpr ⟨List.mem_append_right _ (List.mem_of_getElem? (i := 517) (by decide +kernel)), (by decide +kernel)⟩
theorem tb_518 : (Jvm.Cond.methodLink "SoundWells$Saw" (44 : Nat) ({ cls := "SoundWells$Plan", name := "panelAt", desc := "(I)LSoundWells$Panel;" } : Jvm.MethodName)) ∈ TB := List.mem_filter.mpr ⟨List.mem_append_right _ (List.mem_of_getElem? (i := 518) (by decide +kernel)), (by decide +kernel)⟩
theorem tb_519 : (Jvm.Cond.methodLink "SoundWells$Saw" (54 : Nat) ({ cls := "SoundWells$Saw", name := "gather", desc := "(LSoundWells$Panel;I)V" } : Jvm.MethodName)) ∈ TB := List.mem_filter.mpr ⟨List.mem_append_right _ (List.mem_of_getElem? (i := 519) (by decide +kernel)), (by decide +kernel)⟩
theorem tb_521 : (Jvm.Cond.instanceMethod ({ cls := "SoundWells$Saw", name := "gather", desc := "(LSoundWells$Panel;I)V" } : Jvm.MethodName)) ∈ TB := List.mem_filter.mpr ⟨List.mem_append_right _ (List.mem_of_getElem? (i := 521) (by decide +kernel)), (by decide +kernel)⟩
theorem tb_522 : (Jvm.Cond.code ({ cls := "SoundWells$Saw", name := "gather", desc := "(LSoundWells$Panel;I)V" } : Jvm.MethodName) prog_7_method_5_code (5 : Nat) (Option.none : Option Jvm.ClassFile.FieldType)) ∈ TB := List.mem_filter.mpr ⟨List.mem_append_right _ (List.mem_of_getElem? (i := 522) (by decide +kernel)), (by decide +kernel)⟩
theorem tb_523 : (Jvm.Cond.methodLink "SoundWells$Saw" (96 : Nat) ({ cls := "SoundWells$Panel", name := "depthAt", desc := "(I)I" } : Jvm.MethodName)) ∈ TB := List.mem_filter.mpr ⟨List.mem_append_right _ (List.mem_of_getElem? (i := 523) (by decide +kernel)), (by decide +kernel)⟩
theorem tb_524 : (Jvm.Cond.methodLink "SoundWells$Saw" (67 : Nat) ({ cls := "SoundWells$Saw", name := "cutAlike", desc := "(II)V" } : Jvm.MethodName)) ∈ TB := List.mem_filter.mpr ⟨List.mem_append_right _ (List.mem_of_getElem? (i := 524) (by decide +kernel)), (by decide +kernel)⟩
theorem tb_526 : (Jvm.Cond.instanceMethod ({ cls := "SoundWells$Saw", name := "cutAlike", desc := "(II)V" } : Jvm.MethodName)) ∈ TB := List.mem_filter.mpr ⟨List.mem_append_right _ (List.mem_of_getElem? (i := 526) (by decide +kernel)), (by decide +kernel)⟩
theorem tb_527 : (Jvm.Cond.code ({ cls := "SoundWells$Saw", name := "cutAlike", desc := "(II)V" } : Jvm.MethodName) prog_7_method_6_code (5 : Nat) (Option.none : Option Jvm.ClassFile.FieldType)) ∈ TB := List.mem_filter.mpr ⟨List.mem_append_right _ (List.mem_of_getElem? (i := 527) (by decide +kernel)), (by decide +kernel)⟩
theorem tb_528 : (Jvm.Cond.methodLink "SoundWells$Saw" (100 : Nat) ({ cls := "SoundWells$Saw", name := "hasRoom", desc := "(II)Z" } : Jvm.MethodName)) ∈ TB := List.mem_filter.mpr ⟨List.mem_append_right _ (List.mem_of_getElem? (i := 528) (by decide +kernel)), (by decide +kernel)⟩
theorem tb_530 : (Jvm.Cond.instanceMethod ({ cls := "SoundWells$Saw", name := "hasRoom", desc := "(II)Z" } : Jvm.MethodName)) ∈ TB := List.mem_filter.mpr ⟨List.mem_append_right _ (List.mem_of_getElem? (i := 530) (by decide +kernel)), (by decide +kernel)⟩
theorem tb_531 : (Jvm.Cond.code ({ cls := "SoundWells$Saw", name := "hasRoom", desc := "(II)Z" } : Jvm.MethodName) prog_7_method_7_code (3 : Nat) (Option.some Jvm.ClassFile.FieldType.boolean)) ∈ TB := List.mem_filter.mpr ⟨List.mem_append_right _ (List.mem_of_getElem? (i := 531) (by decide +kernel)), (by decide +kernel)⟩
theorem tb_532 : (Jvm.Cond.methodLink "SoundWells$Saw" (104 : Nat) ({ cls := "SoundWells$Saw", name := "cutFrom", desc := "(II)V" } : Jvm.MethodName)) ∈ TB := List.mem_filter.mpr ⟨List.mem_append_right _ (List.mem_of_getElem? (i := 532) (by decide +kernel)), (by decide +kernel)⟩
theorem tb_534 : (Jvm.Cond.instanceMethod ({ cls := "SoundWells$Saw", name := "cutFrom", desc := "(II)V" } : Jvm.MethodName)) ∈ TB := List.mem_filter.mpr ⟨List.mem_append_right _ (List.mem_of_getElem? (i := 534) (by decide +kernel)), (by decide +kernel)⟩
theorem tb_535 : (Jvm.Cond.code ({ cls := "SoundWells$Saw", name := "cutFrom", desc := "(II)V" } : Jvm.MethodName) prog_7_method_8_code (3 : Nat) (Option.none : Option Jvm.ClassFile.FieldType)) ∈ TB := List.mem_filter.mpr ⟨List.mem_append_right _ (List.mem_of_getElem? (i := 535) (by decide +kernel)), (by decide +kernel)⟩
theorem tb_536 : (Jvm.Cond.methodLink "SoundWells" (199 : Nat) ({ cls := "SoundWells$Numbers", name := "roundedUp", desc := "(II)I" } : Jvm.MethodName)) ∈ TB := List.mem_filter.mpr ⟨List.mem_append_right _ (List.mem_of_getElem? (i := 536) (by decide +kernel)), (by decide +kernel)⟩
theorem tb_537 : (Jvm.Cond.static ({ cls := "SoundWells$Numbers", name := "roundedUp", desc := "(II)I" } : Jvm.MethodName)) ∈ TB := List.mem_filter.mpr ⟨List.mem_append_right _ (List.mem_of_getElem? (i := 537) (by decide +kernel)), (by decide +kernel)⟩
theorem tb_538 : (Jvm.Cond.code ({ cls := "SoundWells$Numbers", name := "roundedUp", desc := "(II)I" } : Jvm.MethodName) prog_2_method_4_code (2 : Nat) (Option.some Jvm.ClassFile.FieldType.int)) ∈ TB := List.mem_filter.mpr ⟨List.mem_append_right _ (List.mem_of_getElem? (i := 538) (by decide +kernel)), (by decide +kernel)⟩
theorem tb_539 : (Jvm.Cond.methodLink "SoundWellsLaw" (89 : Nat) ({ cls := "SoundWells", name := "board", desc := "(II)I" } : Jvm.MethodName)) ∈ TB := List.mem_filter.mpr ⟨List.mem_append_right _ (List.mem_of_getElem? (i := 539) (by decide +kernel)), (by decide +kernel)⟩
theorem tb_540 : (Jvm.Cond.instanceMethod ({ cls := "SoundWells", name := "board", desc := "(II)I" } : Jvm.MethodName)) ∈ TB := List.mem_filter.mpr ⟨List.mem_append_right _ (List.mem_of_getElem? (i := 540) (by decide +kernel)), (by decide +kernel)⟩
theorem tb_541 : (Jvm.Cond.selects "SoundWells" ({ cls := "SoundWells", name := "board", desc := "(II)I" } : Jvm.MethodName) ({ cls := "SoundWells", name := "board", desc := "(II)I" } : Jvm.MethodName)) ∈ TB := List.mem_filter.mpr ⟨List.mem_append_right _ (List.mem_of_getElem? (i := 541) (by decide +kernel)), (by decide +kernel)⟩
theorem tb_542 : (Jvm.Cond.code ({ cls := "SoundWells", name := "board", desc := "(II)I" } : Jvm.MethodName) prog_1_method_21_code (3 : Nat) (Option.some Jvm.ClassFile.FieldType.int)) ∈ TB := List.mem_filter.mpr ⟨List.mem_append_right _ (List.mem_of_getElem? (i := 542) (by decide +kernel)), (by decide +kernel)⟩
theorem tb_543 : (Jvm.Cond.methodLink "SoundWells" (206 : Nat) ({ cls := "SoundWells$Saw", name := "leftOf", desc := "(I)I" } : Jvm.MethodName)) ∈ TB := List.mem_filter.mpr ⟨List.mem_append_right _ (List.mem_of_getElem? (i := 543) (by decide +kernel)), (by decide +kernel)⟩
theorem tb_544 : (Jvm.Cond.instanceMethod ({ cls := "SoundWells$Saw", name := "leftOf", desc := "(I)I" } : Jvm.MethodName)) ∈ TB := List.mem_filter.mpr ⟨List.mem_append_right _ (List.mem_of_getElem? (i := 544) (by decide +kernel)), (by decide +kernel)⟩
theorem tb_545 : (Jvm.Cond.selects "SoundWells$Saw" ({ cls := "SoundWells$Saw", name := "leftOf", desc := "(I)I" } : Jvm.MethodName) ({ cls := "SoundWells$Saw", name := "leftOf", desc := "(I)I" } : Jvm.MethodName)) ∈ TB := List.mem_filter.mpr ⟨List.mem_append_right _ (List.mem_of_getElem? (i := 545) (by decide +kernel)), (by decide +kernel)⟩
theorem tb_546 : (Jvm.Cond.code ({ cls := "SoundWells$Saw", name := "leftOf", desc := "(I)I" } : Jvm.MethodName) prog_7_method_9_code (2 : Nat) (Option.some Jvm.ClassFile.FieldType.int)) ∈ TB := List.mem_filter.mpr ⟨List.mem_append_right _ (List.mem_of_getElem? (i := 546) (by decide +kernel)), (by decide +kernel)⟩
theorem tb_547 : (Jvm.Cond.methodLink "SoundWellsLaw" (93 : Nat) ({ cls := "SoundWells", name := "where", desc := "(II)I" } : Jvm.MethodName)) ∈ TB := List.mem_filter.mpr ⟨List.mem_append_right _ (List.mem_of_getElem? (i := 547) (by decide +kernel)), (by decide +kernel)⟩
theorem tb_548 : (Jvm.Cond.instanceMethod ({ cls := "SoundWells", name := "where", desc := "(II)I" } : Jvm.MethodName)) ∈ TB := List.mem_filter.mpr ⟨List.mem_append_right _ (List.mem_of_getElem? (i := 548) (by decide +kernel)), (by decide +kernel)⟩
theorem tb_549 : (Jvm.Cond.selects "SoundWells" ({ cls := "SoundWells", name := "where", desc := "(II)I" } : Jvm.MethodName) ({ cls := "SoundWells", name := "where", desc := "(II)I" } : Jvm.MethodName)) ∈ TB := List.mem_filter.mpr ⟨List.mem_append_right _ (List.mem_of_getElem? (i := 549) (by decide +kernel)), (by decide +kernel)⟩
theorem tb_550 : (Jvm.Cond.code ({ cls := "SoundWells", name := "where", desc := "(II)I" } : Jvm.MethodName) prog_1_method_22_code (4 : Nat) (Option.some Jvm.ClassFile.FieldType.int)) ∈ TB := List.mem_filter.mpr ⟨List.mem_append_right _ (List.mem_of_getElem? (i := 550) (by decide +kernel)), (by decide +kernel)⟩
theorem tb_551 : (Jvm.Cond.methodLink "SoundWells" (212 : Nat) ({ cls := "SoundWells$Plan", name := "wellsBefore", desc := "(I)I" } : Jvm.MethodName)) ∈ TB := List.mem_filter.mpr ⟨List.mem_append_right _ (List.mem_of_getElem? (i := 551) (by decide +kernel)), (by decide +kernel)⟩
theorem tb_552 : (Jvm.Cond.instanceMethod ({ cls := "SoundWells$Plan", name := "wellsBefore", desc := "(I)I" } : Jvm.MethodName)) ∈ TB := List.mem_filter.mpr ⟨List.mem_append_right _ (List.mem_of_getElem? (i := 552) (by decide +kernel)), (by decide +kernel)⟩
theorem tb_553 : (Jvm.Cond.selects "SoundWells$Plan" ({ cls := "SoundWells$Plan", name := "wellsBefore", desc := "(I)I" } : Jvm.MethodName) ({ cls := "SoundWells$Plan", name := "wellsBefore", desc := "(I)I" } : Jvm.MethodName)) ∈ TB := List.mem_filter.mpr ⟨List.mem_append_right _ (List.mem_of_getElem? (i := 553) (by decide +kernel)), (by decide +kernel)⟩
theorem tb_554 : (Jvm.Cond.code ({ cls := "SoundWells$Plan", name := "wellsBefore", desc := "(I)I" } : Jvm.MethodName) prog_5_method_3_code (5 : Nat) (Option.some Jvm.ClassFile.FieldType.int)) ∈ TB := List.mem_filter.mpr ⟨List.mem_append_right _ (List.mem_of_getElem? (i := 554) (by decide +kernel)), (by decide +kernel)⟩
theorem tb_555 : (Jvm.Cond.methodLink "SoundWells" (215 : Nat) ({ cls := "SoundWells$Saw", name := "boardOfWell", desc := "(I)I" } : Jvm.MethodName)) ∈ TB := List.mem_filter.mpr ⟨List.mem_append_right _ (List.mem_of_getElem? (i := 555) (by decide +kernel)), (by decide +kernel)⟩
theorem tb_556 : (Jvm.Cond.instanceMethod ({ cls := "SoundWells$Saw", name := "boardOfWell", desc := "(I)I" } : Jvm.MethodName)) ∈ TB := List.mem_filter.mpr ⟨List.mem_append_right _ (List.mem_of_getElem? (i := 556) (by decide +kernel)), (by decide +kernel)⟩
theorem tb_557 : (Jvm.Cond.selects "SoundWells$Saw" ({ cls := "SoundWells$Saw", name := "boardOfWell", desc := "(I)I" } : Jvm.MethodName) ({ cls := "SoundWells$Saw", name := "boardOfWell", desc := "(I)I" } : Jvm.MethodName)) ∈ TB := List.mem_filter.mpr ⟨List.mem_append_right _ (List.mem_of_getElem? (i := 557) (by decide +kernel)), (by decide +kernel)⟩
theorem tb_558 : (Jvm.Cond.code ({ cls := "SoundWells$Saw", name := "boardOfWell", desc := "(I)I" } : Jvm.MethodName) prog_7_method_12_code (6 : Nat) (Option.some Jvm.ClassFile.FieldType.int)) ∈ TB := List.mem_filter.mpr ⟨List.mem_append_right _ (List.mem_of_getElem? (i := 558) (by decide +kernel)), (by decide +kernel)⟩
theorem tb_559 : (Jvm.Cond.methodLink "SoundWellsLaw" (97 : Nat) ({ cls := "SoundWells", name := "best", desc := "(II)I" } : Jvm.MethodName)) ∈ TB := List.mem_filter.mpr ⟨List.mem_append_right _ (List.mem_of_getElem? (i := 559) (by decide +kernel)), (by decide +kernel)⟩
theorem tb_560 : (Jvm.Cond.instanceMethod ({ cls := "SoundWells", name := "best", desc := "(II)I" } : Jvm.MethodName)) ∈ TB := List.mem_filter.mpr ⟨List.mem_append_right _ (List.mem_of_getElem? (i := 560) (by decide +kernel)), (by decide +kernel)⟩
theorem tb_561 : (Jvm.Cond.selects "SoundWells" ({ cls := "SoundWells", name := "best", desc := "(II)I" } : Jvm.MethodName) ({ cls := "SoundWells", name := "best", desc := "(II)I" } : Jvm.MethodName)) ∈ TB := List.mem_filter.mpr ⟨List.mem_append_right _ (List.mem_of_getElem? (i := 561) (by decide +kernel)), (by decide +kernel)⟩
theorem tb_562 : (Jvm.Cond.code ({ cls := "SoundWells", name := "best", desc := "(II)I" } : Jvm.MethodName) prog_1_method_23_code (9 : Nat) (Option.some Jvm.ClassFile.FieldType.int)) ∈ TB := List.mem_filter.mpr ⟨List.mem_append_right _ (List.mem_of_getElem? (i := 562) (by decide +kernel)), (by decide +kernel)⟩
theorem tb_563 : (Jvm.Cond.methodLink "SoundWells" (218 : Nat) ({ cls := "SoundWells$Saw", name := "cutAllMoved", desc := "(LSoundWells$Plan;II)V" } : Jvm.MethodName)) ∈ TB := List.mem_filter.mpr ⟨List.mem_append_right _ (List.mem_of_getElem? (i := 563) (by decide +kernel)), (by decide +kernel)⟩
theorem tb_564 : (Jvm.Cond.methodLink "SoundWells" (222 : Nat) ({ cls := "SoundWells$Saw", name := "isBetterThan", desc := "(III)Z" } : Jvm.MethodName)) ∈ TB := List.mem_filter.mpr ⟨List.mem_append_right _ (List.mem_of_getElem? (i := 564) (by decide +kernel)), (by decide +kernel)⟩
theorem tb_565 : (Jvm.Cond.instanceMethod ({ cls := "SoundWells$Saw", name := "isBetterThan", desc := "(III)Z" } : Jvm.MethodName)) ∈ TB := List.mem_filter.mpr ⟨List.mem_append_right _ (List.mem_of_getElem? (i := 565) (by decide +kernel)), (by decide +kernel)⟩
theorem tb_566 : (Jvm.Cond.selects "SoundWells$Saw" ({ cls := "SoundWells$Saw", name := "isBetterThan", desc := "(III)Z" } : Jvm.MethodName) ({ cls := "SoundWells$Saw", name := "isBetterThan", desc := "(III)Z" } : Jvm.MethodName)) ∈ TB := List.mem_filter.mpr ⟨List.mem_append_right _ (List.mem_of_getElem? (i := 566) (by decide +kernel)), (by decide +kernel)⟩
theorem tb_567 : (Jvm.Cond.code ({ cls := "SoundWells$Saw", name := "isBetterThan", desc := "(III)Z" } : Jvm.MethodName) prog_7_method_11_code (4 : Nat) (Option.some Jvm.ClassFile.FieldType.boolean)) ∈ TB := List.mem_filter.mpr ⟨List.mem_append_right _ (List.mem_of_getElem? (i := 567) (by decide +kernel)), (by decide +kernel)⟩
theorem tb_568 : (Jvm.Cond.methodLink "SoundWells$Saw" (110 : Nat) ({ cls := "SoundWells$Saw", name := "leftOfLast", desc := "()I" } : Jvm.MethodName)) ∈ TB := List.mem_filter.mpr ⟨List.mem_append_right _ (List.mem_of_getElem? (i := 568) (by decide +kernel)), (by decide +kernel)⟩
theorem tb_569 : (Jvm.Cond.instanceMethod ({ cls := "SoundWells$Saw", name := "leftOfLast", desc := "()I" } : Jvm.MethodName)) ∈ TB := List.mem_filter.mpr ⟨List.mem_append_right _ (List.mem_of_getElem? (i := 569) (by decide +kernel)), (by decide +kernel)⟩
theorem tb_570 : (Jvm.Cond.selects "SoundWells$Saw" ({ cls := "SoundWells$Saw", name := "leftOfLast", desc := "()I" } : Jvm.MethodName) ({ cls := "SoundWells$Saw", name := "leftOfLast", desc := "()I" } : Jvm.MethodName)) ∈ TB := List.mem_filter.mpr ⟨List.mem_append_right _ (List.mem_of_getElem? (i := 570) (by decide +kernel)), (by decide +kernel)⟩
theorem tb_571 : (Jvm.Cond.code ({ cls := "SoundWells$Saw", name := "leftOfLast", desc := "()I" } : Jvm.MethodName) prog_7_method_10_code (1 : Nat) (Option.some Jvm.ClassFile.FieldType.int)) ∈ TB := List.mem_filter.mpr ⟨List.mem_append_right _ (List.mem_of_getElem? (i := 571) (by decide +kernel)), (by decide +kernel)⟩
theorem tb_572 : (Jvm.Cond.methodLink "SoundWells$Saw" (107 : Nat) ({ cls := "SoundWells$Saw", name := "leftOf", desc := "(I)I" } : Jvm.MethodName)) ∈ TB := List.mem_filter.mpr ⟨List.mem_append_right _ (List.mem_of_getElem? (i := 572) (by decide +kernel)), (by decide +kernel)⟩
theorem tb_573 : (Jvm.Cond.methodLink "SoundWells" (226 : Nat) ({ cls := "SoundWells$Saw", name := "leftOfLast", desc := "()I" } : Jvm.MethodName)) ∈ TB := List.mem_filter.mpr ⟨List.mem_append_right _ (List.mem_of_getElem? (i := 573) (by decide +kernel)), (by decide +kernel)⟩
theorem tb_574 : (Jvm.Cond.methodLink "SoundWellsLaw" (101 : Nat) ({ cls := "SoundWells", name := "count", desc := "(I)I" } : Jvm.MethodName)) ∈ TB := List.mem_filter.mpr ⟨List.mem_append_right _ (List.mem_of_getElem? (i := 574) (by decide +kernel)), (by decide +kernel)⟩
theorem tb_575 : (Jvm.Cond.instanceMethod ({ cls := "SoundWells", name := "count", desc := "(I)I" } : Jvm.MethodName)) ∈ TB := List.mem_filter.mpr ⟨List.mem_append_right _ (List.mem_of_getElem? (i := 575) (by decide +kernel)), (by decide +kernel)⟩
theorem tb_576 : (Jvm.Cond.selects "SoundWells" ({ cls := "SoundWells", name := "count", desc := "(I)I" } : Jvm.MethodName) ({ cls := "SoundWells", name := "count", desc := "(I)I" } : Jvm.MethodName)) ∈ TB := List.mem_filter.mpr ⟨List.mem_append_right _ (List.mem_of_getElem? (i := 576) (by decide +kernel)), (by decide +kernel)⟩
theorem tb_577 : (Jvm.Cond.code ({ cls := "SoundWells", name := "count", desc := "(I)I" } : Jvm.MethodName) prog_1_method_24_code (2 : Nat) (Option.some Jvm.ClassFile.FieldType.int)) ∈ TB := List.mem_filter.mpr ⟨List.mem_append_right _ (List.mem_of_getElem? (i := 577) (by decide +kernel)), (by decide +kernel)⟩
theorem tb_578 : (Jvm.Cond.classLink "SoundWellsLaw" (10 : Nat) "SoundWellsModel") ∈ TB := List.mem_filter.mpr ⟨List.mem_append_right _ (List.mem_of_getElem? (i := 578) (by decide +kernel)), (by decide +kernel)⟩
theorem tb_579 : (Jvm.Cond.instantiable "SoundWellsModel" (16 : Nat)) ∈ TB := List.mem_filter.mpr ⟨List.mem_append_right _ (List.mem_of_getElem? (i := 579) (by decide +kernel)), (by decide +kernel)⟩
theorem tb_580 : (Jvm.Cond.methodLink "SoundWellsLaw" (12 : Nat) ({ cls := "SoundWellsModel", name := "<init>", desc := "()V" } : Jvm.MethodName)) ∈ TB := List.mem_filter.mpr ⟨List.mem_append_right _ (List.mem_of_getElem? (i := 580) (by decide +kernel)), (by decide +kernel)⟩
theorem tb_581 : (Jvm.Cond.instanceMethod ({ cls := "SoundWellsModel", name := "<init>", desc := "()V" } : Jvm.MethodName)) ∈ TB := List.mem_filter.mpr ⟨List.mem_append_right _ (List.mem_of_getElem? (i := 581) (by decide +kernel)), (by decide +kernel)⟩
theorem tb_582 : (Jvm.Cond.code ({ cls := "SoundWellsModel", name := "<init>", desc := "()V" } : Jvm.MethodName) prog_9_method_1_code (1 : Nat) (Option.none : Option Jvm.ClassFile.FieldType)) ∈ TB := List.mem_filter.mpr ⟨List.mem_append_right _ (List.mem_of_getElem? (i := 582) (by decide +kernel)), (by decide +kernel)⟩
theorem tb_583 : (Jvm.Cond.methodLink "SoundWellsModel" (1 : Nat) ({ cls := "java/lang/Object", name := "<init>", desc := "()V" } : Jvm.MethodName)) ∈ TB := List.mem_filter.mpr ⟨List.mem_append_right _ (List.mem_of_getElem? (i := 583) (by decide +kernel)), (by decide +kernel)⟩
theorem tb_584 : (Jvm.Cond.methodLink "SoundWellsModel" (37 : Nat) ({ cls := "SoundWellsModel", name := "tells", desc := "(IIIIII)V" } : Jvm.MethodName)) ∈ TB := List.mem_filter.mpr ⟨List.mem_append_right _ (List.mem_of_getElem? (i := 584) (by decide +kernel)), (by decide +kernel)⟩
theorem tb_586 : (Jvm.Cond.instanceMethod ({ cls := "SoundWellsModel", name := "tells", desc := "(IIIIII)V" } : Jvm.MethodName)) ∈ TB := List.mem_filter.mpr ⟨List.mem_append_right _ (List.mem_of_getElem? (i := 586) (by decide +kernel)), (by decide +kernel)⟩
theorem tb_587 : (Jvm.Cond.code ({ cls := "SoundWellsModel", name := "tells", desc := "(IIIIII)V" } : Jvm.MethodName) prog_9_method_2_code (7 : Nat) (Option.none : Option Jvm.ClassFile.FieldType)) ∈ TB := List.mem_filter.mpr ⟨List.mem_append_right _ (List.mem_of_getElem? (i := 587) (by decide +kernel)), (by decide +kernel)⟩
theorem tb_588 : (Jvm.Cond.fieldLink "SoundWellsModel" (65 : Nat) "SoundWellsModel" "length" "I") ∈ TB := List.mem_filter.mpr ⟨List.mem_append_right _ (List.mem_of_getElem? (i := 588) (by decide +kernel)), (by decide +kernel)⟩
theorem tb_589 : (Jvm.Cond.fieldLink "SoundWellsModel" (7 : Nat) "SoundWellsModel" "text" "[I") ∈ TB := List.mem_filter.mpr ⟨List.mem_append_right _ (List.mem_of_getElem? (i := 589) (by decide +kernel)), (by decide +kernel)⟩
theorem tb_590 : (Jvm.Cond.fieldLink "SoundWellsModel" (69 : Nat) "SoundWellsModel" "spot" "I") ∈ TB := List.mem_filter.mpr ⟨List.mem_append_right _ (List.mem_of_getElem? (i := 590) (by decide +kernel)), (by decide +kernel)⟩
theorem tb_591 : (Jvm.Cond.fieldLink "SoundWellsModel" (13 : Nat) "SoundWellsModel" "now" "[I") ∈ TB := List.mem_filter.mpr ⟨List.mem_append_right _ (List.mem_of_getElem? (i := 591) (by decide +kernel)), (by decide +kernel)⟩
theorem tb_592 : (Jvm.Cond.fieldLink "SoundWellsModel" (16 : Nat) "SoundWellsModel" "read" "[I") ∈ TB := List.mem_filter.mpr ⟨List.mem_append_right _ (List.mem_of_getElem? (i := 592) (by decide +kernel)), (by decide +kernel)⟩
theorem tb_593 : (Jvm.Cond.fieldLink "SoundWellsModel" (19 : Nat) "SoundWellsModel" "before" "[I") ∈ TB := List.mem_filter.mpr ⟨List.mem_append_right _ (List.mem_of_getElem? (i := 593) (by decide +kernel)), (by decide +kernel)⟩
theorem tb_594 : (Jvm.Cond.fieldLink "SoundWellsModel" (100 : Nat) "SoundWellsModel" "undoMany" "I") ∈ TB := List.mem_filter.mpr ⟨List.mem_append_right _ (List.mem_of_getElem? (i := 594) (by decide +kernel)), (by decide +kernel)⟩
theorem tb_595 : (Jvm.Cond.fieldLink "SoundWellsModel" (22 : Nat) "SoundWellsModel" "blocks" "[I") ∈ TB := List.mem_filter.mpr ⟨List.mem_append_right _ (List.mem_of_getElem? (i := 595) (by decide +kernel)), (by decide +kernel)⟩
theorem tb_596 : (Jvm.Cond.fieldLink "SoundWellsModel" (25 : Nat) "SoundWellsModel" "used" "[I") ∈ TB := List.mem_filter.mpr ⟨List.mem_append_right _ (List.mem_of_getElem? (i := 596) (by decide +kernel)), (by decide +kernel)⟩
theorem tb_597 : (Jvm.Cond.fieldLink "SoundWellsModel" (28 : Nat) "SoundWellsModel" "longest" "[I") ∈ TB := List.mem_filter.mpr ⟨List.mem_append_right _ (List.mem_of_getElem? (i := 597) (by decide +kernel)), (by decide +kernel)⟩
theorem tb_598 : (Jvm.Cond.fieldLink "SoundWellsModel" (31 : Nat) "SoundWellsModel" "boardOf" "[I") ∈ TB := List.mem_filter.mpr ⟨List.mem_append_right _ (List.mem_of_getElem? (i := 598) (by decide +kernel)), (by decide +kernel)⟩
theorem tb_599 : (Jvm.Cond.fieldLink "SoundWellsModel" (34 : Nat) "SoundWellsModel" "depths" "[I") ∈ TB := List.mem_filter.mpr ⟨List.mem_append_right _ (List.mem_of_getElem? (i := 599) (by decide +kernel)), (by decide +kernel)⟩
theorem tb_600 : (Jvm.Cond.fieldLink "SoundWellsModel" (144 : Nat) "SoundWellsModel" "boards" "I") ∈ TB := List.mem_filter.mpr ⟨List.mem_append_right _ (List.mem_of_getElem? (i := 600) (by decide +kernel)), (by decide +kernel)⟩
theorem tb_601 : (Jvm.Cond.fieldLink "SoundWellsModel" (147 : Nat) "SoundWellsModel" "cuts" "I") ∈ TB := List.mem_filter.mpr ⟨List.mem_append_right _ (List.mem_of_getElem? (i := 601) (by decide +kernel)), (by decide +kernel)⟩
theorem tb_602 : (Jvm.Cond.fieldLink "SoundWellsModel" (153 : Nat) "SoundWellsModel" "lost" "I") ∈ TB := List.mem_filter.mpr ⟨List.mem_append_right _ (List.mem_of_getElem? (i := 602) (by decide +kernel)), (by decide +kernel)⟩
theorem tb_603 : (Jvm.Cond.fieldLink "SoundWellsModel" (150 : Nat) "SoundWellsModel" "whole" "I") ∈ TB := List.mem_filter.mpr ⟨List.mem_append_right _ (List.mem_of_getElem? (i := 603) (by decide +kernel)), (by decide +kernel)⟩
theorem tb_604 : (Jvm.Cond.lays "SoundWellsModel" "SoundWellsModel" "length" "I") ∈ TB := List.mem_filter.mpr ⟨List.mem_append_right _ (List.mem_of_getElem? (i := 604) (by decide +kernel)), (by decide +kernel)⟩
theorem tb_605 : (Jvm.Cond.soleField "SoundWellsModel" "length") ∈ TB := List.mem_filter.mpr ⟨List.mem_append_right _ (List.mem_of_getElem? (i := 605) (by decide +kernel)), (by decide +kernel)⟩
theorem tb_606 : (Jvm.Cond.laysFinal "SoundWellsModel" "SoundWellsModel" "text" "[I") ∈ TB := List.mem_filter.mpr ⟨List.mem_append_right _ (List.mem_of_getElem? (i := 606) (by decide +kernel)), (by decide +kernel)⟩
theorem tb_607 : (Jvm.Cond.soleField "SoundWellsModel" "text") ∈ TB := List.mem_filter.mpr ⟨List.mem_append_right _ (List.mem_of_getElem? (i := 607) (by decide +kernel)), (by decide +kernel)⟩
theorem tb_608 : (Jvm.Cond.lays "SoundWellsModel" "SoundWellsModel" "spot" "I") ∈ TB := List.mem_filter.mpr ⟨List.mem_append_right _ (List.mem_of_getElem? (i := 608) (by decide +kernel)), (by decide +kernel)⟩
theorem tb_609 : (Jvm.Cond.soleField "SoundWellsModel" "spot") ∈ TB := List.mem_filter.mpr ⟨List.mem_append_right _ (List.mem_of_getElem? (i := 609) (by decide +kernel)), (by decide +kernel)⟩
theorem tb_610 : (Jvm.Cond.laysFinal "SoundWellsModel" "SoundWellsModel" "now" "[I") ∈ TB := List.mem_filter.mpr ⟨List.mem_append_right _ (List.mem_of_getElem? (i := 610) (by decide +kernel)), (by decide +kernel)⟩
theorem tb_611 : (Jvm.Cond.soleField "SoundWellsModel" "now") ∈ TB := List.mem_filter.mpr ⟨List.mem_append_right _ (List.mem_of_getElem? (i := 611) (by decide +kernel)), (by decide +kernel)⟩
theorem tb_612 : (Jvm.Cond.laysFinal "SoundWellsModel" "SoundWellsModel" "read" "[I") ∈ TB := List.mem_filter.mpr ⟨List.mem_append_right _ (List.mem_of_getElem? (i := 612) (by decide +kernel)), (by decide +kernel)⟩
theorem tb_613 : (Jvm.Cond.soleField "SoundWellsModel" "read") ∈ TB := List.mem_filter.mpr ⟨List.mem_append_right _ (List.mem_of_getElem? (i := 613) (by decide +kernel)), (by decide +kernel)⟩
theorem tb_614 : (Jvm.Cond.laysFinal "SoundWellsModel" "SoundWellsModel" "before" "[I") ∈ TB := List.mem_filter.mpr ⟨List.mem_append_right _ (List.mem_of_getElem? (i := 614) (by decide +kernel)), (by decide +kernel)⟩
theorem tb_615 : (Jvm.Cond.soleField "SoundWellsModel" "before") ∈ TB := List.mem_filter.mpr ⟨List.mem_append_right _ (List.mem_of_getElem? (i := 615) (by decide +kernel)), (by decide +kernel)⟩
theorem tb_616 : (Jvm.Cond.lays "SoundWellsModel" "SoundWellsModel" "undoMany" "I") ∈ TB := List.mem_filter.mpr ⟨List.mem_append_right _ (List.mem_of_getElem? (i := 616) (by decide +kernel)), (by decide +kernel)⟩
theorem tb_617 : (Jvm.Cond.soleField "SoundWellsModel" "undoMany") ∈ TB := List.mem_filter.mpr ⟨List.mem_append_right _ (List.mem_of_getElem? (i := 617) (by decide +kernel)), (by decide +kernel)⟩
theorem tb_618 : (Jvm.Cond.laysFinal "SoundWellsModel" "SoundWellsModel" "blocks" "[I") ∈ TB := List.mem_filter.mpr ⟨List.mem_append_right _ (List.mem_of_getElem? (i := 618) (by decide +kernel)), (by decide +kernel)⟩
theorem tb_619 : (Jvm.Cond.soleField "SoundWellsModel" "blocks") ∈ TB := List.mem_filter.mpr ⟨List.mem_append_right _ (List.mem_of_getElem? (i := 619) (by decide +kernel)), (by decide +kernel)⟩
theorem tb_620 : (Jvm.Cond.laysFinal "SoundWellsModel" "SoundWellsModel" "used" "[I") ∈ TB := List.mem_filter.mpr ⟨List.mem_append_right _ (List.mem_of_getElem? (i := 620) (by decide +kernel)), (by decide +kernel)⟩
theorem tb_621 : (Jvm.Cond.soleField "SoundWellsModel" "used") ∈ TB := List.mem_filter.mpr ⟨List.mem_append_right _ (List.mem_of_getElem? (i := 621) (by decide +kernel)), (by decide +kernel)⟩
theorem tb_622 : (Jvm.Cond.laysFinal "SoundWellsModel" "SoundWellsModel" "longest" "[I") ∈ TB := List.mem_filter.mpr ⟨List.mem_append_right _ (List.mem_of_getElem? (i := 622) (by decide +kernel)), (by decide +kernel)⟩
theorem tb_623 : (Jvm.Cond.soleField "SoundWellsModel" "longest") ∈ TB := List.mem_filter.mpr ⟨List.mem_append_right _ (List.mem_of_getElem? (i := 623) (by decide +kernel)), (by decide +kernel)⟩
theorem tb_624 : (Jvm.Cond.laysFinal "SoundWellsModel" "SoundWellsModel" "boardOf" "[I") ∈ TB := List.mem_filter.mpr ⟨List.mem_append_right _ (List.mem_of_getElem? (i := 624) (by decide +kernel)), (by decide +kernel)⟩
theorem tb_625 : (Jvm.Cond.soleField "SoundWellsModel" "boardOf") ∈ TB := List.mem_filter.mpr ⟨List.mem_append_right _ (List.mem_of_getElem? (i := 625) (by decide +kernel)), (by decide +kernel)⟩
theorem tb_626 : (Jvm.Cond.laysFinal "SoundWellsModel" "SoundWellsModel" "depths" "[I") ∈ TB := List.mem_filter.mpr ⟨List.mem_append_right _ (List.mem_of_getElem? (i := 626) (by decide +kernel)), (by decide +kernel)⟩
theorem tb_627 : (Jvm.Cond.soleField "SoundWellsModel" "depths") ∈ TB := List.mem_filter.mpr ⟨List.mem_append_right _ (List.mem_of_getElem? (i := 627) (by decide +kernel)), (by decide +kernel)⟩
theorem tb_628 : (Jvm.Cond.lays "SoundWellsModel" "SoundWellsModel" "boards" "I") ∈ TB := List.mem_filter.mpr ⟨List.mem_append_right _ (List.mem_of_getElem? (i := 628) (by decide +kernel)), (by decide +kernel)⟩
theorem tb_629 : (Jvm.Cond.soleField "SoundWellsModel" "boards") ∈ TB := List.mem_filter.mpr ⟨List.mem_append_right _ (List.mem_of_getElem? (i := 629) (by decide +kernel)), (by decide +kernel)⟩
theorem tb_630 : (Jvm.Cond.lays "SoundWellsModel" "SoundWellsModel" "cuts" "I") ∈ TB := List.mem_filter.mpr ⟨List.mem_append_right _ (List.mem_of_getElem? (i := 630) (by decide +kernel)), (by decide +kernel)⟩
theorem tb_631 : (Jvm.Cond.soleField "SoundWellsModel" "cuts") ∈ TB := List.mem_filter.mpr ⟨List.mem_append_right _ (List.mem_of_getElem? (i := 631) (by decide +kernel)), (by decide +kernel)⟩
theorem tb_632 : (Jvm.Cond.lays "SoundWellsModel" "SoundWellsModel" "lost" "I") ∈ TB := List.mem_filter.mpr ⟨List.mem_append_right _ (List.mem_of_getElem? (i := 632) (by decide +kernel)), (by decide +kernel)⟩
theorem tb_633 : (Jvm.Cond.soleField "SoundWellsModel" "lost") ∈ TB := List.mem_filter.mpr ⟨List.mem_append_right _ (List.mem_of_getElem? (i := 633) (by decide +kernel)), (by decide +kernel)⟩
theorem tb_634 : (Jvm.Cond.lays "SoundWellsModel" "SoundWellsModel" "whole" "I") ∈ TB := List.mem_filter.mpr ⟨List.mem_append_right _ (List.mem_of_getElem? (i := 634) (by decide +kernel)), (by decide +kernel)⟩
theorem tb_635 : (Jvm.Cond.soleField "SoundWellsModel" "whole") ∈ TB := List.mem_filter.mpr ⟨List.mem_append_right _ (List.mem_of_getElem? (i := 635) (by decide +kernel)), (by decide +kernel)⟩
theorem tb_636 : (Jvm.Cond.superclass "SoundWellsModel" "java/lang/Object") ∈ TB := List.mem_filter.mpr ⟨List.mem_append_right _ (List.mem_of_getElem? (i := 636) (by decide +kernel)), (by decide +kernel)⟩
theorem tb_637 : (Jvm.Cond.methodLink "SoundWellsLaw" (52 : Nat) ({ cls := "SoundWellsModel", name := "squares", desc := "(I)I" } : Jvm.MethodName)) ∈ TB := List.mem_filter.mpr ⟨List.mem_append_right _ (List.mem_of_getElem? (i := 637) (by decide +kernel)), (by decide +kernel)⟩
theorem tb_638 : (Jvm.Cond.instanceMethod ({ cls := "SoundWellsModel", name := "squares", desc := "(I)I" } : Jvm.MethodName)) ∈ TB := List.mem_filter.mpr ⟨List.mem_append_right _ (List.mem_of_getElem? (i := 638) (by decide +kernel)), (by decide +kernel)⟩
theorem tb_639 : (Jvm.Cond.selects "SoundWellsModel" ({ cls := "SoundWellsModel", name := "squares", desc := "(I)I" } : Jvm.MethodName) ({ cls := "SoundWellsModel", name := "squares", desc := "(I)I" } : Jvm.MethodName)) ∈ TB := List.mem_filter.mpr ⟨List.mem_append_right _ (List.mem_of_getElem? (i := 639) (by decide +kernel)), (by decide +kernel)⟩
theorem tb_640 : (Jvm.Cond.code ({ cls := "SoundWellsModel", name := "squares", desc := "(I)I" } : Jvm.MethodName) prog_9_method_7_code (4 : Nat) (Option.some Jvm.ClassFile.FieldType.int)) ∈ TB := List.mem_filter.mpr ⟨List.mem_append_right _ (List.mem_of_getElem? (i := 640) (by decide +kernel)), (by decide +kernel)⟩
theorem tb_641 : (Jvm.Cond.methodLink "SoundWellsModel" (47 : Nat) ({ cls := "SoundWellsModel", name := "isPrime", desc := "(I)Z" } : Jvm.MethodName)) ∈ TB := List.mem_filter.mpr ⟨List.mem_append_right _ (List.mem_of_getElem? (i := 641) (by decide +kernel)), (by decide +kernel)⟩
theorem tb_642 : (Jvm.Cond.static ({ cls := "SoundWellsModel", name := "isPrime", desc := "(I)Z" } : Jvm.MethodName)) ∈ TB := List.mem_filter.mpr ⟨List.mem_append_right _ (List.mem_of_getElem? (i := 642) (by decide +kernel)), (by decide +kernel)⟩
theorem tb_643 : (Jvm.Cond.code ({ cls := "SoundWellsModel", name := "isPrime", desc := "(I)Z" } : Jvm.MethodName) prog_9_method_4_code (3 : Nat) (Option.some Jvm.ClassFile.FieldType.boolean)) ∈ TB := List.mem_filter.mpr ⟨List.mem_append_right _ (List.mem_of_getElem? (i := 643) (by decide +kernel)), (by decide +kernel)⟩
theorem tb_644 : (Jvm.Cond.methodLink "SoundWellsLaw" (56 : Nat) ({ cls := "SoundWellsModel", name := "sign", desc := "(II)I" } : Jvm.MethodName)) ∈ TB := List.mem_filter.mpr ⟨List.mem_append_right _ (List.mem_of_getElem? (i := 644) (by decide +kernel)), (by decide +kernel)⟩
theorem tb_645 : (Jvm.Cond.instanceMethod ({ cls := "SoundWellsModel", name := "sign", desc := "(II)I" } : Jvm.MethodName)) ∈ TB := List.mem_filter.mpr ⟨List.mem_append_right _ (List.mem_of_getElem? (i := 645) (by decide +kernel)), (by decide +kernel)⟩
theorem tb_646 : (Jvm.Cond.selects "SoundWellsModel" ({ cls := "SoundWellsModel", name := "sign", desc := "(II)I" } : Jvm.MethodName) ({ cls := "SoundWellsModel", name := "sign", desc := "(II)I" } : Jvm.MethodName)) ∈ TB := List.mem_filter.mpr ⟨List.mem_append_right _ (List.mem_of_getElem? (i := 646) (by decide +kernel)), (by decide +kernel)⟩
theorem tb_647 : (Jvm.Cond.code ({ cls := "SoundWellsModel", name := "sign", desc := "(II)I" } : Jvm.MethodName) prog_9_method_8_code (3 : Nat) (Option.some Jvm.ClassFile.FieldType.int)) ∈ TB := List.mem_filter.mpr ⟨List.mem_append_right _ (List.mem_of_getElem? (i := 647) (by decide +kernel)), (by decide +kernel)⟩
theorem tb_648 : (Jvm.Cond.constantLong "SoundWellsModel" (51 : Nat) (999 : Int64)) ∈ TB := List.mem_filter.mpr ⟨List.mem_append_right _ (List.mem_of_getElem? (i := 648) (by decide +kernel)), (by decide +kernel)⟩
theorem tb_649 : (Jvm.Cond.methodLink "SoundWellsModel" (43 : Nat) ({ cls := "SoundWellsModel", name := "in", desc := "(JJJ)Z" } : Jvm.MethodName)) ∈ TB := List.mem_filter.mpr ⟨List.mem_append_right _ (List.mem_of_getElem? (i := 649) (by decide +kernel)), (by decide +kernel)⟩
theorem tb_650 : (Jvm.Cond.static ({ cls := "SoundWellsModel", name := "in", desc := "(JJJ)Z" } : Jvm.MethodName)) ∈ TB := List.mem_filter.mpr ⟨List.mem_append_right _ (List.mem_of_getElem? (i := 650) (by decide +kernel)), (by decide +kernel)⟩
theorem tb_651 : (Jvm.Cond.code ({ cls := "SoundWellsModel", name := "in", desc := "(JJJ)Z" } : Jvm.MethodName) prog_9_method_3_code (6 : Nat) (Option.some Jvm.ClassFile.FieldType.boolean)) ∈ TB := List.mem_filter.mpr ⟨List.mem_append_right _ (List.mem_of_getElem? (i := 651) (by decide +kernel)), (by decide +kernel)⟩
theorem tb_652 : (Jvm.Cond.methodLink "SoundWellsModel" (53 : Nat) ({ cls := "SoundWellsModel", name := "signOf", desc := "(II)I" } : Jvm.MethodName)) ∈ TB := List.mem_filter.mpr ⟨List.mem_append_right _ (List.mem_of_getElem? (i := 652) (by decide +kernel)), (by decide +kernel)⟩
theorem tb_653 : (Jvm.Cond.static ({ cls := "SoundWellsModel", name := "signOf", desc := "(II)I" } : Jvm.MethodName)) ∈ TB := List.mem_filter.mpr ⟨List.mem_append_right _ (List.mem_of_getElem? (i := 653) (by decide +kernel)), (by decide +kernel)⟩
theorem tb_654 : (Jvm.Cond.code ({ cls := "SoundWellsModel", name := "signOf", desc := "(II)I" } : Jvm.MethodName) prog_9_method_5_code (4 : Nat) (Option.some Jvm.ClassFile.FieldType.int)) ∈ TB := List.mem_filter.mpr ⟨List.mem_append_right _ (List.mem_of_getElem? (i := 654) (by decide +kernel)), (by decide +kernel)⟩
theorem tb_655 : (Jvm.Cond.methodLink "SoundWellsLaw" (60 : Nat) ({ cls := "SoundWellsModel", name := "root", desc := "(II)I" } : Jvm.MethodName)) ∈ TB := List.mem_filter.mpr ⟨List.mem_append_right _ (List.mem_of_getElem? (i := 655) (by decide +kernel)), (by decide +kernel)⟩
theorem tb_656 : (Jvm.Cond.instanceMethod ({ cls := "SoundWellsModel", name := "root", desc := "(II)I" } : Jvm.MethodName)) ∈ TB := List.mem_filter.mpr ⟨List.mem_append_right _ (List.mem_of_getElem? (i := 656) (by decide +kernel)), (by decide +kernel)⟩
theorem tb_657 : (Jvm.Cond.selects "SoundWellsModel" ({ cls := "SoundWellsModel", name := "root", desc := "(II)I" } : Jvm.MethodName) ({ cls := "SoundWellsModel", name := "root", desc := "(II)I" } : Jvm.MethodName)) ∈ TB := List.mem_filter.mpr ⟨List.mem_append_right _ (List.mem_of_getElem? (i := 657) (by decide +kernel)), (by decide +kernel)⟩
theorem tb_658 : (Jvm.Cond.code ({ cls := "SoundWellsModel", name := "root", desc := "(II)I" } : Jvm.MethodName) prog_9_method_9_code (7 : Nat) (Option.some Jvm.ClassFile.FieldType.int)) ∈ TB := List.mem_filter.mpr ⟨List.mem_append_right _ (List.mem_of_getElem? (i := 658) (by decide +kernel)), (by decide +kernel)⟩
theorem tb_659 : (Jvm.Cond.methodLink "SoundWellsModel" (57 : Nat) ({ cls := "SoundWellsModel", name := "isRoot", desc := "(II)Z" } : Jvm.MethodName)) ∈ TB := List.mem_filter.mpr ⟨List.mem_append_right _ (List.mem_of_getElem? (i := 659) (by decide +kernel)), (by decide +kernel)⟩
theorem tb_660 : (Jvm.Cond.static ({ cls := "SoundWellsModel", name := "isRoot", desc := "(II)Z" } : Jvm.MethodName)) ∈ TB := List.mem_filter.mpr ⟨List.mem_append_right _ (List.mem_of_getElem? (i := 660) (by decide +kernel)), (by decide +kernel)⟩
theorem tb_661 : (Jvm.Cond.code ({ cls := "SoundWellsModel", name := "isRoot", desc := "(II)Z" } : Jvm.MethodName) prog_9_method_6_code (4 : Nat) (Option.some Jvm.ClassFile.FieldType.boolean)) ∈ TB := List.mem_filter.mpr ⟨List.mem_append_right _ (List.mem_of_getElem? (i := 661) (by decide +kernel)), (by decide +kernel)⟩
theorem tb_662 : (Jvm.Cond.constantLong "SoundWellsModel" (41 : Nat) (2 : Int64)) ∈ TB := List.mem_filter.mpr ⟨List.mem_append_right _ (List.mem_of_getElem? (i := 662) (by decide +kernel)), (by decide +kernel)⟩
theorem tb_663 : (Jvm.Cond.methodLink "SoundWellsLaw" (64 : Nat) ({ cls := "SoundWellsModel", name := "law", desc := "(II)I" } : Jvm.MethodName)) ∈ TB := List.mem_filter.mpr ⟨List.mem_append_right _ (List.mem_of_getElem? (i := 663) (by decide +kernel)), (by decide +kernel)⟩
theorem tb_664 : (Jvm.Cond.instanceMethod ({ cls := "SoundWellsModel", name := "law", desc := "(II)I" } : Jvm.MethodName)) ∈ TB := List.mem_filter.mpr ⟨List.mem_append_right _ (List.mem_of_getElem? (i := 664) (by decide +kernel)), (by decide +kernel)⟩
theorem tb_665 : (Jvm.Cond.selects "SoundWellsModel" ({ cls := "SoundWellsModel", name := "law", desc := "(II)I" } : Jvm.MethodName) ({ cls := "SoundWellsModel", name := "law", desc := "(II)I" } : Jvm.MethodName)) ∈ TB := List.mem_filter.mpr ⟨List.mem_append_right _ (List.mem_of_getElem? (i := 665) (by decide +kernel)), (by decide +kernel)⟩
theorem tb_666 : (Jvm.Cond.code ({ cls := "SoundWellsModel", name := "law", desc := "(II)I" } : Jvm.MethodName) prog_9_method_10_code (3 : Nat) (Option.some Jvm.ClassFile.FieldType.int)) ∈ TB := List.mem_filter.mpr ⟨List.mem_append_right _ (List.mem_of_getElem? (i := 666) (by decide +kernel)), (by decide +kernel)⟩
theorem tb_667 : (Jvm.Cond.methodLink "SoundWellsLaw" (17 : Nat) ({ cls := "SoundWellsModel", name := "write", desc := "(I)I" } : Jvm.MethodName)) ∈ TB := List.mem_filter.mpr ⟨List.mem_append_right _ (List.mem_of_getElem? (i := 667) (by decide +kernel)), (by decide +kernel)⟩
theorem tb_668 : (Jvm.Cond.instanceMethod ({ cls := "SoundWellsModel", name := "write", desc := "(I)I" } : Jvm.MethodName)) ∈ TB := List.mem_filter.mpr ⟨List.mem_append_right _ (List.mem_of_getElem? (i := 668) (by decide +kernel)), (by decide +kernel)⟩
theorem tb_669 : (Jvm.Cond.selects "SoundWellsModel" ({ cls := "SoundWellsModel", name := "write", desc := "(I)I" } : Jvm.MethodName) ({ cls := "SoundWellsModel", name := "write", desc := "(I)I" } : Jvm.MethodName)) ∈ TB := List.mem_filter.mpr ⟨List.mem_append_right _ (List.mem_of_getElem? (i := 669) (by decide +kernel)), (by decide +kernel)⟩
theorem tb_670 : (Jvm.Cond.code ({ cls := "SoundWellsModel", name := "write", desc := "(I)I" } : Jvm.MethodName) prog_9_method_11_code (2 : Nat) (Option.some Jvm.ClassFile.FieldType.int)) ∈ TB := List.mem_filter.mpr ⟨List.mem_append_right _ (List.mem_of_getElem? (i := 670) (by decide +kernel)), (by decide +kernel)⟩
theorem tb_671 : (Jvm.Cond.constantLong "SoundWellsModel" (61 : Nat) (32 : Int64)) ∈ TB := List.mem_filter.mpr ⟨List.mem_append_right _ (List.mem_of_getElem? (i := 671) (by decide +kernel)), (by decide +kernel)⟩
theorem tb_672 : (Jvm.Cond.constantLong "SoundWellsModel" (63 : Nat) (126 : Int64)) ∈ TB := List.mem_filter.mpr ⟨List.mem_append_right _ (List.mem_of_getElem? (i := 672) (by decide +kernel)), (by decide +kernel)⟩
theorem tb_673 : (Jvm.Cond.methodLink "SoundWellsLaw" (22 : Nat) ({ cls := "SoundWellsModel", name := "wipe", desc := "()I" } : Jvm.MethodName)) ∈ TB := List.mem_filter.mpr ⟨List.mem_append_right _ (List.mem_of_getElem? (i := 673) (by decide +kernel)), (by decide +kernel)⟩
theorem tb_674 : (Jvm.Cond.instanceMethod ({ cls := "SoundWellsModel", name := "wipe", desc := "()I" } : Jvm.MethodName)) ∈ TB := List.mem_filter.mpr ⟨List.mem_append_right _ (List.mem_of_getElem? (i := 674) (by decide +kernel)), (by decide +kernel)⟩
theorem tb_675 : (Jvm.Cond.selects "SoundWellsModel" ({ cls := "SoundWellsModel", name := "wipe", desc := "()I" } : Jvm.MethodName) ({ cls := "SoundWellsModel", name := "wipe", desc := "()I" } : Jvm.MethodName)) ∈ TB := List.mem_filter.mpr ⟨List.mem_append_right _ (List.mem_of_getElem? (i := 675) (by decide +kernel)), (by decide +kernel)⟩
theorem tb_676 : (Jvm.Cond.code ({ cls := "SoundWellsModel", name := "wipe", desc := "()I" } : Jvm.MethodName) prog_9_method_12_code (2 : Nat) (Option.some Jvm.ClassFile.FieldType.int)) ∈ TB := List.mem_filter.mpr ⟨List.mem_append_right _ (List.mem_of_getElem? (i := 676) (by decide +kernel)), (by decide +kernel)⟩
theorem tb_677 : (Jvm.Cond.methodLink "SoundWellsLaw" (26 : Nat) ({ cls := "SoundWellsModel", name := "fault", desc := "()I" } : Jvm.MethodName)) ∈ TB := List.mem_filter.mpr ⟨List.mem_append_right _ (List.mem_of_getElem? (i := 677) (by decide +kernel)), (by decide +kernel)⟩
theorem tb_678 : (Jvm.Cond.instanceMethod ({ cls := "SoundWellsModel", name := "fault", desc := "()I" } : Jvm.MethodName)) ∈ TB := List.mem_filter.mpr ⟨List.mem_append_right _ (List.mem_of_getElem? (i := 678) (by decide +kernel)), (by decide +kernel)⟩
theorem tb_679 : (Jvm.Cond.selects "SoundWellsModel" ({ cls := "SoundWellsModel", name := "fault", desc := "()I" } : Jvm.MethodName) ({ cls := "SoundWellsModel", name := "fault", desc := "()I" } : Jvm.MethodName)) ∈ TB := List.mem_filter.mpr ⟨List.mem_append_right _ (List.mem_of_getElem? (i := 679) (by decide +kernel)), (by decide +kernel)⟩
theorem tb_680 : (Jvm.Cond.code ({ cls := "SoundWellsModel", name := "fault", desc := "()I" } : Jvm.MethodName) prog_9_method_18_code (2 : Nat) (Option.some Jvm.ClassFile.FieldType.int)) ∈ TB := List.mem_filter.mpr ⟨List.mem_append_right _ (List.mem_of_getElem? (i := 680) (by decide +kernel)), (by decide +kernel)⟩
theorem tb_681 : (Jvm.Cond.methodLink "SoundWellsModel" (93 : Nat) ({ cls := "SoundWellsModel", name := "item", desc := "(I)Z" } : Jvm.MethodName)) ∈ TB := List.mem_filter.mpr ⟨List.mem_append_right _ (List.mem_of_getElem? (i := 681) (by decide +kernel)), (by decide +kernel)⟩
theorem tb_683 : (Jvm.Cond.instanceMethod ({ cls := "SoundWellsModel", name := "item", desc := "(I)Z" } : Jvm.MethodName)) ∈ TB := List.mem_filter.mpr ⟨List.mem_append_right _ (List.mem_of_getElem? (i := 683) (by decide +kernel)), (by decide +kernel)⟩
theorem tb_684 : (Jvm.Cond.code ({ cls := "SoundWellsModel", name := "item", desc := "(I)Z" } : Jvm.MethodName) prog_9_method_17_code (2 : Nat) (Option.some Jvm.ClassFile.FieldType.boolean)) ∈ TB := List.mem_filter.mpr ⟨List.mem_append_right _ (List.mem_of_getElem? (i := 684) (by decide +kernel)), (by decide +kernel)⟩
theorem tb_685 : (Jvm.Cond.methodLink "SoundWellsModel" (90 : Nat) ({ cls := "SoundWellsModel", name := "panelItem", desc := "(I)Z" } : Jvm.MethodName)) ∈ TB := List.mem_filter.mpr ⟨List.mem_append_right _ (List.mem_of_getElem? (i := 685) (by decide +kernel)), (by decide +kernel)⟩
theorem tb_687 : (Jvm.Cond.instanceMethod ({ cls := "SoundWellsModel", name := "panelItem", desc := "(I)Z" } : Jvm.MethodName)) ∈ TB := List.mem_filter.mpr ⟨List.mem_append_right _ (List.mem_of_getElem? (i := 687) (by decide +kernel)), (by decide +kernel)⟩
theorem tb_688 : (Jvm.Cond.code ({ cls := "SoundWellsModel", name := "panelItem", desc := "(I)Z" } : Jvm.MethodName) prog_9_method_16_code (4 : Nat) (Option.some Jvm.ClassFile.FieldType.boolean)) ∈ TB := List.mem_filter.mpr ⟨List.mem_append_right _ (List.mem_of_getElem? (i := 688) (by decide +kernel)), (by decide +kernel)⟩
theorem tb_689 : (Jvm.Cond.methodLink "SoundWellsModel" (82 : Nat) ({ cls := "SoundWellsModel", name := "number", desc := "(IIII)Z" } : Jvm.MethodName)) ∈ TB := List.mem_filter.mpr ⟨List.mem_append_right _ (List.mem_of_getElem? (i := 689) (by decide +kernel)), (by decide +kernel)⟩
theorem tb_691 : (Jvm.Cond.instanceMethod ({ cls := "SoundWellsModel", name := "number", desc := "(IIII)Z" } : Jvm.MethodName)) ∈ TB := List.mem_filter.mpr ⟨List.mem_append_right _ (List.mem_of_getElem? (i := 691) (by decide +kernel)), (by decide +kernel)⟩
theorem tb_692 : (Jvm.Cond.code ({ cls := "SoundWellsModel", name := "number", desc := "(IIII)Z" } : Jvm.MethodName) prog_9_method_14_code (8 : Nat) (Option.some Jvm.ClassFile.FieldType.boolean)) ∈ TB := List.mem_filter.mpr ⟨List.mem_append_right _ (List.mem_of_getElem? (i := 692) (by decide +kernel)), (by decide +kernel)⟩
theorem tb_693 : (Jvm.Cond.methodLink "SoundWellsModel" (72 : Nat) ({ cls := "SoundWellsModel", name := "byteAt", desc := "(I)I" } : Jvm.MethodName)) ∈ TB := List.mem_filter.mpr ⟨List.mem_append_right _ (List.mem_of_getElem? (i := 693) (by decide +kernel)), (by decide +kernel)⟩
theorem tb_695 : (Jvm.Cond.instanceMethod ({ cls := "SoundWellsModel", name := "byteAt", desc := "(I)I" } : Jvm.MethodName)) ∈ TB := List.mem_filter.mpr ⟨List.mem_append_right _ (List.mem_of_getElem? (i := 695) (by decide +kernel)), (by decide +kernel)⟩
theorem tb_696 : (Jvm.Cond.code ({ cls := "SoundWellsModel", name := "byteAt", desc := "(I)I" } : Jvm.MethodName) prog_9_method_13_code (2 : Nat) (Option.some Jvm.ClassFile.FieldType.int)) ∈ TB := List.mem_filter.mpr ⟨List.mem_append_right _ (List.mem_of_getElem? (i := 696) (by decide +kernel)), (by decide +kernel)⟩
theorem tb_697 : (Jvm.Cond.constantLong "SoundWellsModel" (76 : Nat) (48 : Int64)) ∈ TB := List.mem_filter.mpr ⟨List.mem_append_right _ (List.mem_of_getElem? (i := 697) (by decide +kernel)), (by decide +kernel)⟩
theorem tb_698 : (Jvm.Cond.constantLong "SoundWellsModel" (78 : Nat) (57 : Int64)) ∈ TB := List.mem_filter.mpr ⟨List.mem_append_right _ (List.mem_of_getElem? (i := 698) (by decide +kernel)), (by decide +kernel)⟩
theorem tb_699 : (Jvm.Cond.methodLink "SoundWellsModel" (86 : Nat) ({ cls := "SoundWellsModel", name := "mayBe", desc := "(III)Z" } : Jvm.MethodName)) ∈ TB := List.mem_filter.mpr ⟨List.mem_append_right _ (List.mem_of_getElem? (i := 699) (by decide +kernel)), (by decide +kernel)⟩
theorem tb_700 : (Jvm.Cond.static ({ cls := "SoundWellsModel", name := "mayBe", desc := "(III)Z" } : Jvm.MethodName)) ∈ TB := List.mem_filter.mpr ⟨List.mem_append_right _ (List.mem_of_getElem? (i := 700) (by decide +kernel)), (by decide +kernel)⟩
theorem tb_701 : (Jvm.Cond.code ({ cls := "SoundWellsModel", name := "mayBe", desc := "(III)Z" } : Jvm.MethodName) prog_9_method_15_code (3 : Nat) (Option.some Jvm.ClassFile.FieldType.boolean)) ∈ TB := List.mem_filter.mpr ⟨List.mem_append_right _ (List.mem_of_getElem? (i := 701) (by decide +kernel)), (by decide +kernel)⟩
theorem tb_702 : (Jvm.Cond.constantLong "SoundWellsModel" (80 : Nat) (9 : Int64)) ∈ TB := List.mem_filter.mpr ⟨List.mem_append_right _ (List.mem_of_getElem? (i := 702) (by decide +kernel)), (by decide +kernel)⟩
theorem tb_703 : (Jvm.Cond.methodLink "SoundWellsLaw" (30 : Nat) ({ cls := "SoundWellsModel", name := "lay", desc := "()I" } : Jvm.MethodName)) ∈ TB := List.mem_filter.mpr ⟨List.mem_append_right _ (List.mem_of_getElem? (i := 703) (by decide +kernel)), (by decide +kernel)⟩
theorem tb_704 : (Jvm.Cond.instanceMethod ({ cls := "SoundWellsModel", name := "lay", desc := "()I" } : Jvm.MethodName)) ∈ TB := List.mem_filter.mpr ⟨List.mem_append_right _ (List.mem_of_getElem? (i := 704) (by decide +kernel)), (by decide +kernel)⟩
theorem tb_705 : (Jvm.Cond.selects "SoundWellsModel" ({ cls := "SoundWellsModel", name := "lay", desc := "()I" } : Jvm.MethodName) ({ cls := "SoundWellsModel", name := "lay", desc := "()I" } : Jvm.MethodName)) ∈ TB := List.mem_filter.mpr ⟨List.mem_append_right _ (List.mem_of_getElem? (i := 705) (by decide +kernel)), (by decide +kernel)⟩
theorem tb_706 : (Jvm.Cond.code ({ cls := "SoundWellsModel", name := "lay", desc := "()I" } : Jvm.MethodName) prog_9_method_19_code (2 : Nat) (Option.some Jvm.ClassFile.FieldType.int)) ∈ TB := List.mem_filter.mpr ⟨List.mem_append_right _ (List.mem_of_getElem? (i := 706) (by decide +kernel)), (by decide +kernel)⟩
theorem tb_707 : (Jvm.Cond.methodLink "SoundWellsModel" (96 : Nat) ({ cls := "SoundWellsModel", name := "fault", desc := "()I" } : Jvm.MethodName)) ∈ TB := List.mem_filter.mpr ⟨List.mem_append_right _ (List.mem_of_getElem? (i := 707) (by decide +kernel)), (by decide +kernel)⟩
theorem tb_708 : (Jvm.Cond.methodLink "SoundWellsLaw" (48 : Nat) ({ cls := "SoundWellsModel", name := "undo", desc := "()I" } : Jvm.MethodName)) ∈ TB := List.mem_filter.mpr ⟨List.mem_append_right _ (List.mem_of_getElem? (i := 708) (by decide +kernel)), (by decide +kernel)⟩
theorem tb_709 : (Jvm.Cond.instanceMethod ({ cls := "SoundWellsModel", name := "undo", desc := "()I" } : Jvm.MethodName)) ∈ TB := List.mem_filter.mpr ⟨List.mem_append_right _ (List.mem_of_getElem? (i := 709) (by decide +kernel)), (by decide +kernel)⟩
theorem tb_710 : (Jvm.Cond.selects "SoundWellsModel" ({ cls := "SoundWellsModel", name := "undo", desc := "()I" } : Jvm.MethodName) ({ cls := "SoundWellsModel", name := "undo", desc := "()I" } : Jvm.MethodName)) ∈ TB := List.mem_filter.mpr ⟨List.mem_append_right _ (List.mem_of_getElem? (i := 710) (by decide +kernel)), (by decide +kernel)⟩
theorem tb_711 : (Jvm.Cond.code ({ cls := "SoundWellsModel", name := "undo", desc := "()I" } : Jvm.MethodName) prog_9_method_21_code (2 : Nat) (Option.some Jvm.ClassFile.FieldType.int)) ∈ TB := List.mem_filter.mpr ⟨List.mem_append_right _ (List.mem_of_getElem? (i := 711) (by decide +kernel)), (by decide +kernel)⟩
theorem tb_712 : (Jvm.Cond.methodLink "SoundWellsLaw" (35 : Nat) ({ cls := "SoundWellsModel", name := "set", desc := "(III)I" } : Jvm.MethodName)) ∈ TB := List.mem_filter.mpr ⟨List.mem_append_right _ (List.mem_of_getElem? (i := 712) (by decide +kernel)), (by decide +kernel)⟩
theorem tb_713 : (Jvm.Cond.instanceMethod ({ cls := "SoundWellsModel", name := "set", desc := "(III)I" } : Jvm.MethodName)) ∈ TB := List.mem_filter.mpr ⟨List.mem_append_right _ (List.mem_of_getElem? (i := 713) (by decide +kernel)), (by decide +kernel)⟩
theorem tb_714 : (Jvm.Cond.selects "SoundWellsModel" ({ cls := "SoundWellsModel", name := "set", desc := "(III)I" } : Jvm.MethodName) ({ cls := "SoundWellsModel", name := "set", desc := "(III)I" } : Jvm.MethodName)) ∈ TB := List.mem_filter.mpr ⟨List.mem_append_right _ (List.mem_of_getElem? (i := 714) (by decide +kernel)), (by decide +kernel)⟩
theorem tb_715 : (Jvm.Cond.code ({ cls := "SoundWellsModel", name := "set", desc := "(III)I" } : Jvm.MethodName) prog_9_method_24_code (6 : Nat) (Option.some Jvm.ClassFile.FieldType.int)) ∈ TB := List.mem_filter.mpr ⟨List.mem_append_right _ (List.mem_of_getElem? (i := 715) (by decide +kernel)), (by decide +kernel)⟩
theorem tb_716 : (Jvm.Cond.methodLink "SoundWellsModel" (106 : Nat) ({ cls := "SoundWellsModel", name := "isPanel", desc := "(I)Z" } : Jvm.MethodName)) ∈ TB := List.mem_filter.mpr ⟨List.mem_append_right _ (List.mem_of_getElem? (i := 716) (by decide +kernel)), (by decide +kernel)⟩
theorem tb_718 : (Jvm.Cond.instanceMethod ({ cls := "SoundWellsModel", name := "isPanel", desc := "(I)Z" } : Jvm.MethodName)) ∈ TB := List.mem_filter.mpr ⟨List.mem_append_right _ (List.mem_of_getElem? (i := 718) (by decide +kernel)), (by decide +kernel)⟩
theorem tb_719 : (Jvm.Cond.code ({ cls := "SoundWellsModel", name := "isPanel", desc := "(I)Z" } : Jvm.MethodName) prog_9_method_23_code (2 : Nat) (Option.some Jvm.ClassFile.FieldType.boolean)) ∈ TB := List.mem_filter.mpr ⟨List.mem_append_right _ (List.mem_of_getElem? (i := 719) (by decide +kernel)), (by decide +kernel)⟩
theorem tb_720 : (Jvm.Cond.constantLong "SoundWellsModel" (109 : Nat) (40 : Int64)) ∈ TB := List.mem_filter.mpr ⟨List.mem_append_right _ (List.mem_of_getElem? (i := 720) (by decide +kernel)), (by decide +kernel)⟩
theorem tb_721 : (Jvm.Cond.methodLink "SoundWellsModel" (111 : Nat) ({ cls := "SoundWellsModel", name := "becomes", desc := "(II)I" } : Jvm.MethodName)) ∈ TB := List.mem_filter.mpr ⟨List.mem_append_right _ (List.mem_of_getElem? (i := 721) (by decide +kernel)), (by decide +kernel)⟩
theorem tb_723 : (Jvm.Cond.instanceMethod ({ cls := "SoundWellsModel", name := "becomes", desc := "(II)I" } : Jvm.MethodName)) ∈ TB := List.mem_filter.mpr ⟨List.mem_append_right _ (List.mem_of_getElem? (i := 723) (by decide +kernel)), (by decide +kernel)⟩
theorem tb_724 : (Jvm.Cond.code ({ cls := "SoundWellsModel", name := "becomes", desc := "(II)I" } : Jvm.MethodName) prog_9_method_22_code (4 : Nat) (Option.some Jvm.ClassFile.FieldType.int)) ∈ TB := List.mem_filter.mpr ⟨List.mem_append_right _ (List.mem_of_getElem? (i := 724) (by decide +kernel)), (by decide +kernel)⟩
theorem tb_725 : (Jvm.Cond.methodLink "SoundWellsModel" (103 : Nat) ({ cls := "SoundWellsModel", name := "note", desc := "()V" } : Jvm.MethodName)) ∈ TB := List.mem_filter.mpr ⟨List.mem_append_right _ (List.mem_of_getElem? (i := 725) (by decide +kernel)), (by decide +kernel)⟩
theorem tb_727 : (Jvm.Cond.instanceMethod ({ cls := "SoundWellsModel", name := "note", desc := "()V" } : Jvm.MethodName)) ∈ TB := List.mem_filter.mpr ⟨List.mem_append_right _ (List.mem_of_getElem? (i := 727) (by decide +kernel)), (by decide +kernel)⟩
theorem tb_728 : (Jvm.Cond.code ({ cls := "SoundWellsModel", name := "note", desc := "()V" } : Jvm.MethodName) prog_9_method_20_code (2 : Nat) (Option.none : Option Jvm.ClassFile.FieldType)) ∈ TB := List.mem_filter.mpr ⟨List.mem_append_right _ (List.mem_of_getElem? (i := 728) (by decide +kernel)), (by decide +kernel)⟩
theorem tb_729 : (Jvm.Cond.methodLink "SoundWellsLaw" (40 : Nat) ({ cls := "SoundWellsModel", name := "tell", desc := "(II)I" } : Jvm.MethodName)) ∈ TB := List.mem_filter.mpr ⟨List.mem_append_right _ (List.mem_of_getElem? (i := 729) (by decide +kernel)), (by decide +kernel)⟩
theorem tb_730 : (Jvm.Cond.instanceMethod ({ cls := "SoundWellsModel", name := "tell", desc := "(II)I" } : Jvm.MethodName)) ∈ TB := List.mem_filter.mpr ⟨List.mem_append_right _ (List.mem_of_getElem? (i := 730) (by decide +kernel)), (by decide +kernel)⟩
theorem tb_731 : (Jvm.Cond.selects "SoundWellsModel" ({ cls := "SoundWellsModel", name := "tell", desc := "(II)I" } : Jvm.MethodName) ({ cls := "SoundWellsModel", name := "tell", desc := "(II)I" } : Jvm.MethodName)) ∈ TB := List.mem_filter.mpr ⟨List.mem_append_right _ (List.mem_of_getElem? (i := 731) (by decide +kernel)), (by decide +kernel)⟩
theorem tb_732 : (Jvm.Cond.code ({ cls := "SoundWellsModel", name := "tell", desc := "(II)I" } : Jvm.MethodName) prog_9_method_25_code (4 : Nat) (Option.some Jvm.ClassFile.FieldType.int)) ∈ TB := List.mem_filter.mpr ⟨List.mem_append_right _ (List.mem_of_getElem? (i := 732) (by decide +kernel)), (by decide +kernel)⟩
theorem tb_733 : (Jvm.Cond.constantLong "SoundWellsModel" (114 : Nat) (20 : Int64)) ∈ TB := List.mem_filter.mpr ⟨List.mem_append_right _ (List.mem_of_getElem? (i := 733) (by decide +kernel)), (by decide +kernel)⟩
theorem tb_734 : (Jvm.Cond.constantLong "SoundWellsModel" (116 : Nat) (400 : Int64)) ∈ TB := List.mem_filter.mpr ⟨List.mem_append_right _ (List.mem_of_getElem? (i := 734) (by decide +kernel)), (by decide +kernel)⟩
theorem tb_735 : (Jvm.Cond.constantLong "SoundWellsModel" (118 : Nat) (5 : Int64)) ∈ TB := List.mem_filter.mpr ⟨List.mem_append_right _ (List.mem_of_getElem? (i := 735) (by decide +kernel)), (by decide +kernel)⟩
theorem tb_736 : (Jvm.Cond.methodLink "SoundWellsLaw" (44 : Nat) ({ cls := "SoundWellsModel", name := "take", desc := "(I)I" } : Jvm.MethodName)) ∈ TB := List.mem_filter.mpr ⟨List.mem_append_right _ (List.mem_of_getElem? (i := 736) (by decide +kernel)), (by decide +kernel)⟩
theorem tb_737 : (Jvm.Cond.instanceMethod ({ cls := "SoundWellsModel", name := "take", desc := "(I)I" } : Jvm.MethodName)) ∈ TB := List.mem_filter.mpr ⟨List.mem_append_right _ (List.mem_of_getElem? (i := 737) (by decide +kernel)), (by decide +kernel)⟩
theorem tb_738 : (Jvm.Cond.selects "SoundWellsModel" ({ cls := "SoundWellsModel", name := "take", desc := "(I)I" } : Jvm.MethodName) ({ cls := "SoundWellsModel", name := "take", desc := "(I)I" } : Jvm.MethodName)) ∈ TB := List.mem_filter.mpr ⟨List.mem_append_right _ (List.mem_of_getElem? (i := 738) (by decide +kernel)), (by decide +kernel)⟩
theorem tb_739 : (Jvm.Cond.code ({ cls := "SoundWellsModel", name := "take", desc := "(I)I" } : Jvm.MethodName) prog_9_method_26_code (3 : Nat) (Option.some Jvm.ClassFile.FieldType.int)) ∈ TB := List.mem_filter.mpr ⟨List.mem_append_right _ (List.mem_of_getElem? (i := 739) (by decide +kernel)), (by decide +kernel)⟩
theorem tb_740 : (Jvm.Cond.methodLink "SoundWellsLaw" (72 : Nat) ({ cls := "SoundWellsModel", name := "well", desc := "(II)I" } : Jvm.MethodName)) ∈ TB := List.mem_filter.mpr ⟨List.mem_append_right _ (List.mem_of_getElem? (i := 740) (by decide +kernel)), (by decide +kernel)⟩
theorem tb_741 : (Jvm.Cond.instanceMethod ({ cls := "SoundWellsModel", name := "well", desc := "(II)I" } : Jvm.MethodName)) ∈ TB := List.mem_filter.mpr ⟨List.mem_append_right _ (List.mem_of_getElem? (i := 741) (by decide +kernel)), (by decide +kernel)⟩
theorem tb_742 : (Jvm.Cond.selects "SoundWellsModel" ({ cls := "SoundWellsModel", name := "well", desc := "(II)I" } : Jvm.MethodName) ({ cls := "SoundWellsModel", name := "well", desc := "(II)I" } : Jvm.MethodName)) ∈ TB := List.mem_filter.mpr ⟨List.mem_append_right _ (List.mem_of_getElem? (i := 742) (by decide +kernel)), (by decide +kernel)⟩
theorem tb_743 : (Jvm.Cond.code ({ cls := "SoundWellsModel", name := "well", desc := "(II)I" } : Jvm.MethodName) prog_9_method_30_code (3 : Nat) (Option.some Jvm.ClassFile.FieldType.int)) ∈ TB := List.mem_filter.mpr ⟨List.mem_append_right _ (List.mem_of_getElem? (i := 743) (by decide +kernel)), (by decide +kernel)⟩
theorem tb_744 : (Jvm.Cond.methodLink "SoundWellsModel" (126 : Nat) ({ cls := "SoundWellsModel", name := "wellOf", desc := "(II)I" } : Jvm.MethodName)) ∈ TB := List.mem_filter.mpr ⟨List.mem_append_right _ (List.mem_of_getElem? (i := 744) (by decide +kernel)), (by decide +kernel)⟩
theorem tb_746 : (Jvm.Cond.instanceMethod ({ cls := "SoundWellsModel", name := "wellOf", desc := "(II)I" } : Jvm.MethodName)) ∈ TB := List.mem_filter.mpr ⟨List.mem_append_right _ (List.mem_of_getElem? (i := 746) (by decide +kernel)), (by decide +kernel)⟩
theorem tb_747 : (Jvm.Cond.code ({ cls := "SoundWellsModel", name := "wellOf", desc := "(II)I" } : Jvm.MethodName) prog_9_method_29_code (3 : Nat) (Option.some Jvm.ClassFile.FieldType.int)) ∈ TB := List.mem_filter.mpr ⟨List.mem_append_right _ (List.mem_of_getElem? (i := 747) (by decide +kernel)), (by decide +kernel)⟩
theorem tb_748 : (Jvm.Cond.methodLink "SoundWellsModel" (123 : Nat) ({ cls := "SoundWellsModel", name := "depth", desc := "(II)I" } : Jvm.MethodName)) ∈ TB := List.mem_filter.mpr ⟨List.mem_append_right _ (List.mem_of_getElem? (i := 748) (by decide +kernel)), (by decide +kernel)⟩
theorem tb_750 : (Jvm.Cond.instanceMethod ({ cls := "SoundWellsModel", name := "depth", desc := "(II)I" } : Jvm.MethodName)) ∈ TB := List.mem_filter.mpr ⟨List.mem_append_right _ (List.mem_of_getElem? (i := 750) (by decide +kernel)), (by decide +kernel)⟩
theorem tb_751 : (Jvm.Cond.code ({ cls := "SoundWellsModel", name := "depth", desc := "(II)I" } : Jvm.MethodName) prog_9_method_28_code (8 : Nat) (Option.some Jvm.ClassFile.FieldType.int)) ∈ TB := List.mem_filter.mpr ⟨List.mem_append_right _ (List.mem_of_getElem? (i := 751) (by decide +kernel)), (by decide +kernel)⟩
theorem tb_752 : (Jvm.Cond.methodLink "SoundWellsModel" (120 : Nat) ({ cls := "SoundWellsModel", name := "period", desc := "(I)I" } : Jvm.MethodName)) ∈ TB := List.mem_filter.mpr ⟨List.mem_append_right _ (List.mem_of_getElem? (i := 752) (by decide +kernel)), (by decide +kernel)⟩
theorem tb_754 : (Jvm.Cond.instanceMethod ({ cls := "SoundWellsModel", name := "period", desc := "(I)I" } : Jvm.MethodName)) ∈ TB := List.mem_filter.mpr ⟨List.mem_append_right _ (List.mem_of_getElem? (i := 754) (by decide +kernel)), (by decide +kernel)⟩
theorem tb_755 : (Jvm.Cond.code ({ cls := "SoundWellsModel", name := "period", desc := "(I)I" } : Jvm.MethodName) prog_9_method_27_code (2 : Nat) (Option.some Jvm.ClassFile.FieldType.int)) ∈ TB := List.mem_filter.mpr ⟨List.mem_append_right _ (List.mem_of_getElem? (i := 755) (by decide +kernel)), (by decide +kernel)⟩
theorem tb_756 : (Jvm.Cond.methodLink "SoundWellsLaw" (76 : Nat) ({ cls := "SoundWellsModel", name := "counts", desc := "(III)I" } : Jvm.MethodName)) ∈ TB := List.mem_filter.mpr ⟨List.mem_append_right _ (List.mem_of_getElem? (i := 756) (by decide +kernel)), (by decide +kernel)⟩
theorem tb_757 : (Jvm.Cond.instanceMethod ({ cls := "SoundWellsModel", name := "counts", desc := "(III)I" } : Jvm.MethodName)) ∈ TB := List.mem_filter.mpr ⟨List.mem_append_right _ (List.mem_of_getElem? (i := 757) (by decide +kernel)), (by decide +kernel)⟩
theorem tb_758 : (Jvm.Cond.selects "SoundWellsModel" ({ cls := "SoundWellsModel", name := "counts", desc := "(III)I" } : Jvm.MethodName) ({ cls := "SoundWellsModel", name := "counts", desc := "(III)I" } : Jvm.MethodName)) ∈ TB := List.mem_filter.mpr ⟨List.mem_append_right _ (List.mem_of_getElem? (i := 758) (by decide +kernel)), (by decide +kernel)⟩
theorem tb_759 : (Jvm.Cond.code ({ cls := "SoundWellsModel", name := "counts", desc := "(III)I" } : Jvm.MethodName) prog_9_method_32_code (4 : Nat) (Option.some Jvm.ClassFile.FieldType.int)) ∈ TB := List.mem_filter.mpr ⟨List.mem_append_right _ (List.mem_of_getElem? (i := 759) (by decide +kernel)), (by decide +kernel)⟩
theorem tb_760 : (Jvm.Cond.methodLink "SoundWellsModel" (129 : Nat) ({ cls := "SoundWellsModel", name := "countOf", desc := "(III)I" } : Jvm.MethodName)) ∈ TB := List.mem_filter.mpr ⟨List.mem_append_right _ (List.mem_of_getElem? (i := 760) (by decide +kernel)), (by decide +kernel)⟩
theorem tb_762 : (Jvm.Cond.instanceMethod ({ cls := "SoundWellsModel", name := "countOf", desc := "(III)I" } : Jvm.MethodName)) ∈ TB := List.mem_filter.mpr ⟨List.mem_append_right _ (List.mem_of_getElem? (i := 762) (by decide +kernel)), (by decide +kernel)⟩
theorem tb_763 : (Jvm.Cond.code ({ cls := "SoundWellsModel", name := "countOf", desc := "(III)I" } : Jvm.MethodName) prog_9_method_31_code (8 : Nat) (Option.some Jvm.ClassFile.FieldType.int)) ∈ TB := List.mem_filter.mpr ⟨List.mem_append_right _ (List.mem_of_getElem? (i := 763) (by decide +kernel)), (by decide +kernel)⟩
theorem tb_764 : (Jvm.Cond.methodLink "SoundWellsLaw" (68 : Nat) ({ cls := "SoundWellsModel", name := "panel", desc := "(II)I" } : Jvm.MethodName)) ∈ TB := List.mem_filter.mpr ⟨List.mem_append_right _ (List.mem_of_getElem? (i := 764) (by decide +kernel)), (by decide +kernel)⟩
theorem tb_765 : (Jvm.Cond.instanceMethod ({ cls := "SoundWellsModel", name := "panel", desc := "(II)I" } : Jvm.MethodName)) ∈ TB := List.mem_filter.mpr ⟨List.mem_append_right _ (List.mem_of_getElem? (i := 765) (by decide +kernel)), (by decide +kernel)⟩
theorem tb_766 : (Jvm.Cond.selects "SoundWellsModel" ({ cls := "SoundWellsModel", name := "panel", desc := "(II)I" } : Jvm.MethodName) ({ cls := "SoundWellsModel", name := "panel", desc := "(II)I" } : Jvm.MethodName)) ∈ TB := List.mem_filter.mpr ⟨List.mem_append_right _ (List.mem_of_getElem? (i := 766) (by decide +kernel)), (by decide +kernel)⟩
theorem tb_767 : (Jvm.Cond.code ({ cls := "SoundWellsModel", name := "panel", desc := "(II)I" } : Jvm.MethodName) prog_9_method_35_code (3 : Nat) (Option.some Jvm.ClassFile.FieldType.int)) ∈ TB := List.mem_filter.mpr ⟨List.mem_append_right _ (List.mem_of_getElem? (i := 767) (by decide +kernel)), (by decide +kernel)⟩
theorem tb_768 : (Jvm.Cond.constantLong "SoundWellsModel" (133 : Nat) (10 : Int64)) ∈ TB := List.mem_filter.mpr ⟨List.mem_append_right _ (List.mem_of_getElem? (i := 768) (by decide +kernel)), (by decide +kernel)⟩
theorem tb_769 : (Jvm.Cond.methodLink "SoundWellsModel" (135 : Nat) ({ cls := "SoundWellsModel", name := "sumOf", desc := "(II)I" } : Jvm.MethodName)) ∈ TB := List.mem_filter.mpr ⟨List.mem_append_right _ (List.mem_of_getElem? (i := 769) (by decide +kernel)), (by decide +kernel)⟩
theorem tb_771 : (Jvm.Cond.instanceMethod ({ cls := "SoundWellsModel", name := "sumOf", desc := "(II)I" } : Jvm.MethodName)) ∈ TB := List.mem_filter.mpr ⟨List.mem_append_right _ (List.mem_of_getElem? (i := 771) (by decide +kernel)), (by decide +kernel)⟩
theorem tb_772 : (Jvm.Cond.code ({ cls := "SoundWellsModel", name := "sumOf", desc := "(II)I" } : Jvm.MethodName) prog_9_method_34_code (10 : Nat) (Option.some Jvm.ClassFile.FieldType.int)) ∈ TB := List.mem_filter.mpr ⟨List.mem_append_right _ (List.mem_of_getElem? (i := 772) (by decide +kernel)), (by decide +kernel)⟩
theorem tb_773 : (Jvm.Cond.methodLink "SoundWellsModel" (138 : Nat) ({ cls := "SoundWellsModel", name := "even", desc := "(I)I" } : Jvm.MethodName)) ∈ TB := List.mem_filter.mpr ⟨List.mem_append_right _ (List.mem_of_getElem? (i := 773) (by decide +kernel)), (by decide +kernel)⟩
theorem tb_775 : (Jvm.Cond.instanceMethod ({ cls := "SoundWellsModel", name := "even", desc := "(I)I" } : Jvm.MethodName)) ∈ TB := List.mem_filter.mpr ⟨List.mem_append_right _ (List.mem_of_getElem? (i := 775) (by decide +kernel)), (by decide +kernel)⟩
theorem tb_776 : (Jvm.Cond.code ({ cls := "SoundWellsModel", name := "even", desc := "(I)I" } : Jvm.MethodName) prog_9_method_33_code (7 : Nat) (Option.some Jvm.ClassFile.FieldType.int)) ∈ TB := List.mem_filter.mpr ⟨List.mem_append_right _ (List.mem_of_getElem? (i := 776) (by decide +kernel)), (by decide +kernel)⟩
theorem tb_777 : (Jvm.Cond.methodLink "SoundWellsLaw" (80 : Nat) ({ cls := "SoundWellsModel", name := "plane", desc := "(III)I" } : Jvm.MethodName)) ∈ TB := List.mem_filter.mpr ⟨List.mem_append_right _ (List.mem_of_getElem? (i := 777) (by decide +kernel)), (by decide +kernel)⟩
theorem tb_778 : (Jvm.Cond.instanceMethod ({ cls := "SoundWellsModel", name := "plane", desc := "(III)I" } : Jvm.MethodName)) ∈ TB := List.mem_filter.mpr ⟨List.mem_append_right _ (List.mem_of_getElem? (i := 778) (by decide +kernel)), (by decide +kernel)⟩
theorem tb_779 : (Jvm.Cond.selects "SoundWellsModel" ({ cls := "SoundWellsModel", name := "plane", desc := "(III)I" } : Jvm.MethodName) ({ cls := "SoundWellsModel", name := "plane", desc := "(III)I" } : Jvm.MethodName)) ∈ TB := List.mem_filter.mpr ⟨List.mem_append_right _ (List.mem_of_getElem? (i := 779) (by decide +kernel)), (by decide +kernel)⟩
theorem tb_780 : (Jvm.Cond.code ({ cls := "SoundWellsModel", name := "plane", desc := "(III)I" } : Jvm.MethodName) prog_9_method_37_code (4 : Nat) (Option.some Jvm.ClassFile.FieldType.int)) ∈ TB := List.mem_filter.mpr ⟨List.mem_append_right _ (List.mem_of_getElem? (i := 780) (by decide +kernel)), (by decide +kernel)⟩
theorem tb_781 : (Jvm.Cond.methodLink "SoundWellsModel" (141 : Nat) ({ cls := "SoundWellsModel", name := "planeOf", desc := "(III)I" } : Jvm.MethodName)) ∈ TB := List.mem_filter.mpr ⟨List.mem_append_right _ (List.mem_of_getElem? (i := 781) (by decide +kernel)), (by decide +kernel)⟩
theorem tb_783 : (Jvm.Cond.instanceMethod ({ cls := "SoundWellsModel", name := "planeOf", desc := "(III)I" } : Jvm.MethodName)) ∈ TB := List.mem_filter.mpr ⟨List.mem_append_right _ (List.mem_of_getElem? (i := 783) (by decide +kernel)), (by decide +kernel)⟩
theorem tb_784 : (Jvm.Cond.code ({ cls := "SoundWellsModel", name := "planeOf", desc := "(III)I" } : Jvm.MethodName) prog_9_method_36_code (4 : Nat) (Option.some Jvm.ClassFile.FieldType.int)) ∈ TB := List.mem_filter.mpr ⟨List.mem_append_right _ (List.mem_of_getElem? (i := 784) (by decide +kernel)), (by decide +kernel)⟩
theorem tb_785 : (Jvm.Cond.methodLink "SoundWellsLaw" (84 : Nat) ({ cls := "SoundWellsModel", name := "planes", desc := "(II)I" } : Jvm.MethodName)) ∈ TB := List.mem_filter.mpr ⟨List.mem_append_right _ (List.mem_of_getElem? (i := 785) (by decide +kernel)), (by decide +kernel)⟩
theorem tb_786 : (Jvm.Cond.instanceMethod ({ cls := "SoundWellsModel", name := "planes", desc := "(II)I" } : Jvm.MethodName)) ∈ TB := List.mem_filter.mpr ⟨List.mem_append_right _ (List.mem_of_getElem? (i := 786) (by decide +kernel)), (by decide +kernel)⟩
theorem tb_787 : (Jvm.Cond.selects "SoundWellsModel" ({ cls := "SoundWellsModel", name := "planes", desc := "(II)I" } : Jvm.MethodName) ({ cls := "SoundWellsModel", name := "planes", desc := "(II)I" } : Jvm.MethodName)) ∈ TB := List.mem_filter.mpr ⟨List.mem_append_right _ (List.mem_of_getElem? (i := 787) (by decide +kernel)), (by decide +kernel)⟩
theorem tb_788 : (Jvm.Cond.code ({ cls := "SoundWellsModel", name := "planes", desc := "(II)I" } : Jvm.MethodName) prog_9_method_38_code (6 : Nat) (Option.some Jvm.ClassFile.FieldType.int)) ∈ TB := List.mem_filter.mpr ⟨List.mem_append_right _ (List.mem_of_getElem? (i := 788) (by decide +kernel)), (by decide +kernel)⟩
theorem tb_789 : (Jvm.Cond.methodLink "SoundWellsLaw" (88 : Nat) ({ cls := "SoundWellsModel", name := "cut", desc := "(I)I" } : Jvm.MethodName)) ∈ TB := List.mem_filter.mpr ⟨List.mem_append_right _ (List.mem_of_getElem? (i := 789) (by decide +kernel)), (by decide +kernel)⟩
theorem tb_790 : (Jvm.Cond.instanceMethod ({ cls := "SoundWellsModel", name := "cut", desc := "(I)I" } : Jvm.MethodName)) ∈ TB := List.mem_filter.mpr ⟨List.mem_append_right _ (List.mem_of_getElem? (i := 790) (by decide +kernel)), (by decide +kernel)⟩
theorem tb_791 : (Jvm.Cond.selects "SoundWellsModel" ({ cls := "SoundWellsModel", name := "cut", desc := "(I)I" } : Jvm.MethodName) ({ cls := "SoundWellsModel", name := "cut", desc := "(I)I" } : Jvm.MethodName)) ∈ TB := List.mem_filter.mpr ⟨List.mem_append_right _ (List.mem_of_getElem? (i := 791) (by decide +kernel)), (by decide +kernel)⟩
theorem tb_792 : (Jvm.Cond.code ({ cls := "SoundWellsModel", name := "cut", desc := "(I)I" } : Jvm.MethodName) prog_9_method_41_code (2 : Nat) (Option.some Jvm.ClassFile.FieldType.int)) ∈ TB := List.mem_filter.mpr ⟨List.mem_append_right _ (List.mem_of_getElem? (i := 792) (by decide +kernel)), (by decide +kernel)⟩
theorem tb_793 : (Jvm.Cond.constantLong "SoundWellsModel" (159 : Nat) (4 : Int64)) ∈ TB := List.mem_filter.mpr ⟨List.mem_append_right _ (List.mem_of_getElem? (i := 793) (by decide +kernel)), (by decide +kernel)⟩
theorem tb_794 : (Jvm.Cond.methodLink "SoundWellsModel" (161 : Nat) ({ cls := "SoundWellsModel", name := "cutsAll", desc := "()V" } : Jvm.MethodName)) ∈ TB := List.mem_filter.mpr ⟨List.mem_append_right _ (List.mem_of_getElem? (i := 794) (by decide +kernel)), (by decide +kernel)⟩
theorem tb_796 : (Jvm.Cond.instanceMethod ({ cls := "SoundWellsModel", name := "cutsAll", desc := "()V" } : Jvm.MethodName)) ∈ TB := List.mem_filter.mpr ⟨List.mem_append_right _ (List.mem_of_getElem? (i := 796) (by decide +kernel)), (by decide +kernel)⟩
theorem tb_797 : (Jvm.Cond.code ({ cls := "SoundWellsModel", name := "cutsAll", desc := "()V" } : Jvm.MethodName) prog_9_method_40_code (4 : Nat) (Option.none : Option Jvm.ClassFile.FieldType)) ∈ TB := List.mem_filter.mpr ⟨List.mem_append_right _ (List.mem_of_getElem? (i := 797) (by decide +kernel)), (by decide +kernel)⟩
theorem tb_798 : (Jvm.Cond.methodLink "SoundWellsModel" (156 : Nat) ({ cls := "SoundWellsModel", name := "cuts", desc := "(II)V" } : Jvm.MethodName)) ∈ TB := List.mem_filter.mpr ⟨List.mem_append_right _ (List.mem_of_getElem? (i := 798) (by decide +kernel)), (by decide +kernel)⟩
theorem tb_800 : (Jvm.Cond.instanceMethod ({ cls := "SoundWellsModel", name := "cuts", desc := "(II)V" } : Jvm.MethodName)) ∈ TB := List.mem_filter.mpr ⟨List.mem_append_right _ (List.mem_of_getElem? (i := 800) (by decide +kernel)), (by decide +kernel)⟩
theorem tb_801 : (Jvm.Cond.code ({ cls := "SoundWellsModel", name := "cuts", desc := "(II)V" } : Jvm.MethodName) prog_9_method_39_code (4 : Nat) (Option.none : Option Jvm.ClassFile.FieldType)) ∈ TB := List.mem_filter.mpr ⟨List.mem_append_right _ (List.mem_of_getElem? (i := 801) (by decide +kernel)), (by decide +kernel)⟩
theorem tb_802 : (Jvm.Cond.methodLink "SoundWellsLaw" (92 : Nat) ({ cls := "SoundWellsModel", name := "board", desc := "(II)I" } : Jvm.MethodName)) ∈ TB := List.mem_filter.mpr ⟨List.mem_append_right _ (List.mem_of_getElem? (i := 802) (by decide +kernel)), (by decide +kernel)⟩
theorem tb_803 : (Jvm.Cond.instanceMethod ({ cls := "SoundWellsModel", name := "board", desc := "(II)I" } : Jvm.MethodName)) ∈ TB := List.mem_filter.mpr ⟨List.mem_append_right _ (List.mem_of_getElem? (i := 803) (by decide +kernel)), (by decide +kernel)⟩
theorem tb_804 : (Jvm.Cond.selects "SoundWellsModel" ({ cls := "SoundWellsModel", name := "board", desc := "(II)I" } : Jvm.MethodName) ({ cls := "SoundWellsModel", name := "board", desc := "(II)I" } : Jvm.MethodName)) ∈ TB := List.mem_filter.mpr ⟨List.mem_append_right _ (List.mem_of_getElem? (i := 804) (by decide +kernel)), (by decide +kernel)⟩
theorem tb_805 : (Jvm.Cond.code ({ cls := "SoundWellsModel", name := "board", desc := "(II)I" } : Jvm.MethodName) prog_9_method_42_code (3 : Nat) (Option.some Jvm.ClassFile.FieldType.int)) ∈ TB := List.mem_filter.mpr ⟨List.mem_append_right _ (List.mem_of_getElem? (i := 805) (by decide +kernel)), (by decide +kernel)⟩
theorem tb_806 : (Jvm.Cond.methodLink "SoundWellsLaw" (96 : Nat) ({ cls := "SoundWellsModel", name := "where", desc := "(II)I" } : Jvm.MethodName)) ∈ TB := List.mem_filter.mpr ⟨List.mem_append_right _ (List.mem_of_getElem? (i := 806) (by decide +kernel)), (by decide +kernel)⟩
theorem tb_807 : (Jvm.Cond.instanceMethod ({ cls := "SoundWellsModel", name := "where", desc := "(II)I" } : Jvm.MethodName)) ∈ TB := List.mem_filter.mpr ⟨List.mem_append_right _ (List.mem_of_getElem? (i := 807) (by decide +kernel)), (by decide +kernel)⟩
theorem tb_808 : (Jvm.Cond.selects "SoundWellsModel" ({ cls := "SoundWellsModel", name := "where", desc := "(II)I" } : Jvm.MethodName) ({ cls := "SoundWellsModel", name := "where", desc := "(II)I" } : Jvm.MethodName)) ∈ TB := List.mem_filter.mpr ⟨List.mem_append_right _ (List.mem_of_getElem? (i := 808) (by decide +kernel)), (by decide +kernel)⟩
theorem tb_809 : (Jvm.Cond.code ({ cls := "SoundWellsModel", name := "where", desc := "(II)I" } : Jvm.MethodName) prog_9_method_43_code (3 : Nat) (Option.some Jvm.ClassFile.FieldType.int)) ∈ TB := List.mem_filter.mpr ⟨List.mem_append_right _ (List.mem_of_getElem? (i := 809) (by decide +kernel)), (by decide +kernel)⟩
theorem tb_810 : (Jvm.Cond.methodLink "SoundWellsLaw" (100 : Nat) ({ cls := "SoundWellsModel", name := "best", desc := "(II)I" } : Jvm.MethodName)) ∈ TB := List.mem_filter.mpr ⟨List.mem_append_right _ (List.mem_of_getElem? (i := 810) (by decide +kernel)), (by decide +kernel)⟩
theorem tb_811 : (Jvm.Cond.instanceMethod ({ cls := "SoundWellsModel", name := "best", desc := "(II)I" } : Jvm.MethodName)) ∈ TB := List.mem_filter.mpr ⟨List.mem_append_right _ (List.mem_of_getElem? (i := 811) (by decide +kernel)), (by decide +kernel)⟩
theorem tb_812 : (Jvm.Cond.selects "SoundWellsModel" ({ cls := "SoundWellsModel", name := "best", desc := "(II)I" } : Jvm.MethodName) ({ cls := "SoundWellsModel", name := "best", desc := "(II)I" } : Jvm.MethodName)) ∈ TB := List.mem_filter.mpr ⟨List.mem_append_right _ (List.mem_of_getElem? (i := 812) (by decide +kernel)), (by decide +kernel)⟩
theorem tb_813 : (Jvm.Cond.code ({ cls := "SoundWellsModel", name := "best", desc := "(II)I" } : Jvm.MethodName) prog_9_method_44_code (11 : Nat) (Option.some Jvm.ClassFile.FieldType.int)) ∈ TB := List.mem_filter.mpr ⟨List.mem_append_right _ (List.mem_of_getElem? (i := 813) (by decide +kernel)), (by decide +kernel)⟩
theorem tb_814 : (Jvm.Cond.methodLink "SoundWellsLaw" (104 : Nat) ({ cls := "SoundWellsModel", name := "count", desc := "(I)I" } : Jvm.MethodName)) ∈ TB := List.mem_filter.mpr ⟨List.mem_append_right _ (List.mem_of_getElem? (i := 814) (by decide +kernel)), (by decide +kernel)⟩
theorem tb_815 : (Jvm.Cond.instanceMethod ({ cls := "SoundWellsModel", name := "count", desc := "(I)I" } : Jvm.MethodName)) ∈ TB := List.mem_filter.mpr ⟨List.mem_append_right _ (List.mem_of_getElem? (i := 815) (by decide +kernel)), (by decide +kernel)⟩
theorem tb_816 : (Jvm.Cond.selects "SoundWellsModel" ({ cls := "SoundWellsModel", name := "count", desc := "(I)I" } : Jvm.MethodName) ({ cls := "SoundWellsModel", name := "count", desc := "(I)I" } : Jvm.MethodName)) ∈ TB := List.mem_filter.mpr ⟨List.mem_append_right _ (List.mem_of_getElem? (i := 816) (by decide +kernel)), (by decide +kernel)⟩
theorem tb_817 : (Jvm.Cond.code ({ cls := "SoundWellsModel", name := "count", desc := "(I)I" } : Jvm.MethodName) prog_9_method_45_code (4 : Nat) (Option.some Jvm.ClassFile.FieldType.int)) ∈ TB := List.mem_filter.mpr ⟨List.mem_append_right _ (List.mem_of_getElem? (i := 817) (by decide +kernel)), (by decide +kernel)⟩
theorem tbs_0 : Cond.selects "SoundWells$Reader" (⟨"SoundWells$Reader", "readItem", "(I)I"⟩ : MethodName) (⟨"SoundWells$Reader", "readItem", "(I)I"⟩ : MethodName) ∈ TB := List.mem_filter.mpr ⟨List.mem_append_left _ (List.mem_of_getElem? (i := 0) (by decide +kernel)), (by decide +kernel)⟩
theorem tbs_1 : Cond.selects "SoundWells$Reader" (⟨"SoundWells$Reader", "letterAt", "(I)C"⟩ : MethodName) (⟨"SoundWells$Reader", "letterAt", "(I)C"⟩ : MethodName) ∈ TB := List.mem_filter.mpr ⟨List.mem_append_left _ (List.mem_of_getElem? (i := 1) (by decide +kernel)), (by decide +kernel)⟩
theorem tbs_2 : Cond.selects "SoundWells$Reader" (⟨"SoundWells$Reader", "endOfFigures", "(I)I"⟩ : MethodName) (⟨"SoundWells$Reader", "endOfFigures", "(I)I"⟩ : MethodName) ∈ TB := List.mem_filter.mpr ⟨List.mem_append_left _ (List.mem_of_getElem? (i := 2) (by decide +kernel)), (by decide +kernel)⟩
theorem tbs_3 : Cond.selects "SoundWells$Reader" (⟨"SoundWells$Reader", "isFigure", "(I)Z"⟩ : MethodName) (⟨"SoundWells$Reader", "isFigure", "(I)Z"⟩ : MethodName) ∈ TB := List.mem_filter.mpr ⟨List.mem_append_left _ (List.mem_of_getElem? (i := 3) (by decide +kernel)), (by decide +kernel)⟩
theorem tbs_4 : Cond.selects "SoundWells$Reader" (⟨"SoundWells$Reader", "valueOf", "(II)I"⟩ : MethodName) (⟨"SoundWells$Reader", "valueOf", "(II)I"⟩ : MethodName) ∈ TB := List.mem_filter.mpr ⟨List.mem_append_left _ (List.mem_of_getElem? (i := 4) (by decide +kernel)), (by decide +kernel)⟩
theorem tbs_5 : Cond.selects "SoundWells$Reader" (⟨"SoundWells$Reader", "keepItem", "(C)Z"⟩ : MethodName) (⟨"SoundWells$Reader", "keepItem", "(C)Z"⟩ : MethodName) ∈ TB := List.mem_filter.mpr ⟨List.mem_append_left _ (List.mem_of_getElem? (i := 5) (by decide +kernel)), (by decide +kernel)⟩
theorem tbs_6 : Cond.selects "SoundWells$Reader" (⟨"SoundWells$Reader", "keepUnit", "()Z"⟩ : MethodName) (⟨"SoundWells$Reader", "keepUnit", "()Z"⟩ : MethodName) ∈ TB := List.mem_filter.mpr ⟨List.mem_append_left _ (List.mem_of_getElem? (i := 6) (by decide +kernel)), (by decide +kernel)⟩
theorem tbs_7 : Cond.selects "SoundWells$Reader" (⟨"SoundWells$Reader", "keepBoard", "()Z"⟩ : MethodName) (⟨"SoundWells$Reader", "keepBoard", "()Z"⟩ : MethodName) ∈ TB := List.mem_filter.mpr ⟨List.mem_append_left _ (List.mem_of_getElem? (i := 7) (by decide +kernel)), (by decide +kernel)⟩
theorem tbs_8 : Cond.selects "SoundWells" (⟨"SoundWells", "change", "(LSoundWells$Plan;)V"⟩ : MethodName) (⟨"SoundWells", "change", "(LSoundWells$Plan;)V"⟩ : MethodName) ∈ TB := List.mem_filter.mpr ⟨List.mem_append_left _ (List.mem_of_getElem? (i := 8) (by decide +kernel)), (by decide +kernel)⟩
theorem tbs_9 : Cond.selects "SoundWells$Panel" (⟨"SoundWells$Panel", "differenceAt", "(II)I"⟩ : MethodName) (⟨"SoundWells$Panel", "differenceAt", "(II)I"⟩ : MethodName) ∈ TB := List.mem_filter.mpr ⟨List.mem_append_left _ (List.mem_of_getElem? (i := 9) (by decide +kernel)), (by decide +kernel)⟩
theorem tbs_10 : Cond.selects "SoundWells$Saw" (⟨"SoundWells$Saw", "start", "(LSoundWells$Plan;)V"⟩ : MethodName) (⟨"SoundWells$Saw", "start", "(LSoundWells$Plan;)V"⟩ : MethodName) ∈ TB := List.mem_filter.mpr ⟨List.mem_append_left _ (List.mem_of_getElem? (i := 10) (by decide +kernel)), (by decide +kernel)⟩
theorem tbs_11 : Cond.selects "SoundWells$Saw" (⟨"SoundWells$Saw", "gather", "(LSoundWells$Panel;I)V"⟩ : MethodName) (⟨"SoundWells$Saw", "gather", "(LSoundWells$Panel;I)V"⟩ : MethodName) ∈ TB := List.mem_filter.mpr ⟨List.mem_append_left _ (List.mem_of_getElem? (i := 11) (by decide +kernel)), (by decide +kernel)⟩
theorem tbs_12 : Cond.selects "SoundWells$Saw" (⟨"SoundWells$Saw", "cutAlike", "(II)V"⟩ : MethodName) (⟨"SoundWells$Saw", "cutAlike", "(II)V"⟩ : MethodName) ∈ TB := List.mem_filter.mpr ⟨List.mem_append_left _ (List.mem_of_getElem? (i := 12) (by decide +kernel)), (by decide +kernel)⟩
theorem tbs_13 : Cond.selects "SoundWells$Saw" (⟨"SoundWells$Saw", "hasRoom", "(II)Z"⟩ : MethodName) (⟨"SoundWells$Saw", "hasRoom", "(II)Z"⟩ : MethodName) ∈ TB := List.mem_filter.mpr ⟨List.mem_append_left _ (List.mem_of_getElem? (i := 13) (by decide +kernel)), (by decide +kernel)⟩
theorem tbs_14 : Cond.selects "SoundWells$Saw" (⟨"SoundWells$Saw", "cutFrom", "(II)V"⟩ : MethodName) (⟨"SoundWells$Saw", "cutFrom", "(II)V"⟩ : MethodName) ∈ TB := List.mem_filter.mpr ⟨List.mem_append_left _ (List.mem_of_getElem? (i := 14) (by decide +kernel)), (by decide +kernel)⟩
theorem tbs_15 : Cond.selects "SoundWellsModel" (⟨"SoundWellsModel", "tells", "(IIIIII)V"⟩ : MethodName) (⟨"SoundWellsModel", "tells", "(IIIIII)V"⟩ : MethodName) ∈ TB := List.mem_filter.mpr ⟨List.mem_append_left _ (List.mem_of_getElem? (i := 15) (by decide +kernel)), (by decide +kernel)⟩
theorem tbs_16 : Cond.selects "SoundWellsModel" (⟨"SoundWellsModel", "item", "(I)Z"⟩ : MethodName) (⟨"SoundWellsModel", "item", "(I)Z"⟩ : MethodName) ∈ TB := List.mem_filter.mpr ⟨List.mem_append_left _ (List.mem_of_getElem? (i := 16) (by decide +kernel)), (by decide +kernel)⟩
theorem tbs_17 : Cond.selects "SoundWellsModel" (⟨"SoundWellsModel", "panelItem", "(I)Z"⟩ : MethodName) (⟨"SoundWellsModel", "panelItem", "(I)Z"⟩ : MethodName) ∈ TB := List.mem_filter.mpr ⟨List.mem_append_left _ (List.mem_of_getElem? (i := 17) (by decide +kernel)), (by decide +kernel)⟩
theorem tbs_18 : Cond.selects "SoundWellsModel" (⟨"SoundWellsModel", "number", "(IIII)Z"⟩ : MethodName) (⟨"SoundWellsModel", "number", "(IIII)Z"⟩ : MethodName) ∈ TB := List.mem_filter.mpr ⟨List.mem_append_left _ (List.mem_of_getElem? (i := 18) (by decide +kernel)), (by decide +kernel)⟩
theorem tbs_19 : Cond.selects "SoundWellsModel" (⟨"SoundWellsModel", "byteAt", "(I)I"⟩ : MethodName) (⟨"SoundWellsModel", "byteAt", "(I)I"⟩ : MethodName) ∈ TB := List.mem_filter.mpr ⟨List.mem_append_left _ (List.mem_of_getElem? (i := 19) (by decide +kernel)), (by decide +kernel)⟩
theorem tbs_20 : Cond.selects "SoundWellsModel" (⟨"SoundWellsModel", "isPanel", "(I)Z"⟩ : MethodName) (⟨"SoundWellsModel", "isPanel", "(I)Z"⟩ : MethodName) ∈ TB := List.mem_filter.mpr ⟨List.mem_append_left _ (List.mem_of_getElem? (i := 20) (by decide +kernel)), (by decide +kernel)⟩
theorem tbs_21 : Cond.selects "SoundWellsModel" (⟨"SoundWellsModel", "becomes", "(II)I"⟩ : MethodName) (⟨"SoundWellsModel", "becomes", "(II)I"⟩ : MethodName) ∈ TB := List.mem_filter.mpr ⟨List.mem_append_left _ (List.mem_of_getElem? (i := 21) (by decide +kernel)), (by decide +kernel)⟩
theorem tbs_22 : Cond.selects "SoundWellsModel" (⟨"SoundWellsModel", "note", "()V"⟩ : MethodName) (⟨"SoundWellsModel", "note", "()V"⟩ : MethodName) ∈ TB := List.mem_filter.mpr ⟨List.mem_append_left _ (List.mem_of_getElem? (i := 22) (by decide +kernel)), (by decide +kernel)⟩
theorem tbs_23 : Cond.selects "SoundWellsModel" (⟨"SoundWellsModel", "wellOf", "(II)I"⟩ : MethodName) (⟨"SoundWellsModel", "wellOf", "(II)I"⟩ : MethodName) ∈ TB := List.mem_filter.mpr ⟨List.mem_append_left _ (List.mem_of_getElem? (i := 23) (by decide +kernel)), (by decide +kernel)⟩
theorem tbs_24 : Cond.selects "SoundWellsModel" (⟨"SoundWellsModel", "depth", "(II)I"⟩ : MethodName) (⟨"SoundWellsModel", "depth", "(II)I"⟩ : MethodName) ∈ TB := List.mem_filter.mpr ⟨List.mem_append_left _ (List.mem_of_getElem? (i := 24) (by decide +kernel)), (by decide +kernel)⟩
theorem tbs_25 : Cond.selects "SoundWellsModel" (⟨"SoundWellsModel", "period", "(I)I"⟩ : MethodName) (⟨"SoundWellsModel", "period", "(I)I"⟩ : MethodName) ∈ TB := List.mem_filter.mpr ⟨List.mem_append_left _ (List.mem_of_getElem? (i := 25) (by decide +kernel)), (by decide +kernel)⟩
theorem tbs_26 : Cond.selects "SoundWellsModel" (⟨"SoundWellsModel", "countOf", "(III)I"⟩ : MethodName) (⟨"SoundWellsModel", "countOf", "(III)I"⟩ : MethodName) ∈ TB := List.mem_filter.mpr ⟨List.mem_append_left _ (List.mem_of_getElem? (i := 26) (by decide +kernel)), (by decide +kernel)⟩
theorem tbs_27 : Cond.selects "SoundWellsModel" (⟨"SoundWellsModel", "sumOf", "(II)I"⟩ : MethodName) (⟨"SoundWellsModel", "sumOf", "(II)I"⟩ : MethodName) ∈ TB := List.mem_filter.mpr ⟨List.mem_append_left _ (List.mem_of_getElem? (i := 27) (by decide +kernel)), (by decide +kernel)⟩
theorem tbs_28 : Cond.selects "SoundWellsModel" (⟨"SoundWellsModel", "even", "(I)I"⟩ : MethodName) (⟨"SoundWellsModel", "even", "(I)I"⟩ : MethodName) ∈ TB := List.mem_filter.mpr ⟨List.mem_append_left _ (List.mem_of_getElem? (i := 28) (by decide +kernel)), (by decide +kernel)⟩
theorem tbs_29 : Cond.selects "SoundWellsModel" (⟨"SoundWellsModel", "planeOf", "(III)I"⟩ : MethodName) (⟨"SoundWellsModel", "planeOf", "(III)I"⟩ : MethodName) ∈ TB := List.mem_filter.mpr ⟨List.mem_append_left _ (List.mem_of_getElem? (i := 29) (by decide +kernel)), (by decide +kernel)⟩
theorem tbs_30 : Cond.selects "SoundWellsModel" (⟨"SoundWellsModel", "cutsAll", "()V"⟩ : MethodName) (⟨"SoundWellsModel", "cutsAll", "()V"⟩ : MethodName) ∈ TB := List.mem_filter.mpr ⟨List.mem_append_left _ (List.mem_of_getElem? (i := 30) (by decide +kernel)), (by decide +kernel)⟩
theorem tbs_31 : Cond.selects "SoundWellsModel" (⟨"SoundWellsModel", "cuts", "(II)V"⟩ : MethodName) (⟨"SoundWellsModel", "cuts", "(II)V"⟩ : MethodName) ∈ TB := List.mem_filter.mpr ⟨List.mem_append_left _ (List.mem_of_getElem? (i := 31) (by decide +kernel)), (by decide +kernel)⟩
theorem inTB_X0 : ∀ w ∈ wsX00, w ∈ TB := fun _ h => absurd h List.not_mem_nil
theorem inTB_X1 : ∀ w ∈ wsX10, w ∈ TB := List.forall_mem_cons.mpr ⟨tb_157, List.forall_mem_cons.mpr ⟨tb_159, List.forall_mem_cons.mpr ⟨tb_161, List.forall_mem_cons.mpr ⟨tb_163, List.forall_mem_cons.mpr ⟨tb_165, List.forall_mem_cons.mpr ⟨tb_167, List.forall_mem_cons.mpr ⟨tb_169, fun _ h => absurd h List.not_mem_nil⟩⟩⟩⟩⟩⟩⟩
theorem inTB_X2 : ∀ w ∈ wsX20, w ∈ TB := List.forall_mem_cons.mpr ⟨tb_66, List.forall_mem_cons.mpr ⟨tb_68, fun _ h => absurd h List.not_mem_nil⟩⟩
theorem inTB_X3 : ∀ w ∈ wsX30, w ∈ TB := List.forall_mem_cons.mpr ⟨tb_190, List.forall_mem_cons.mpr ⟨tb_192, List.forall_mem_cons.mpr ⟨tb_194, List.forall_mem_cons.mpr ⟨tb_196, fun _ h => absurd h List.not_mem_nil⟩⟩⟩⟩
theorem inTB_X4 : ∀ w ∈ wsX40, w ∈ TB := List.forall_mem_cons.mpr ⟨tb_36, List.forall_mem_cons.mpr ⟨tb_38, List.forall_mem_cons.mpr ⟨tb_40, List.forall_mem_cons.mpr ⟨tb_42, List.forall_mem_cons.mpr ⟨tb_44, List.forall_mem_cons.mpr ⟨tb_46, List.forall_mem_cons.mpr ⟨tb_48, List.forall_mem_cons.mpr ⟨tb_50, fun _ h => absurd h List.not_mem_nil⟩⟩⟩⟩⟩⟩⟩⟩
theorem inTB_X5 : ∀ w ∈ wsX50, w ∈ TB := List.forall_mem_cons.mpr ⟨tb_97, List.forall_mem_cons.mpr ⟨tb_99, List.forall_mem_cons.mpr ⟨tb_101, List.forall_mem_cons.mpr ⟨tb_103, List.forall_mem_cons.mpr ⟨tb_105, List.forall_mem_cons.mpr ⟨tb_107, List.forall_mem_cons.mpr ⟨tb_109, List.forall_mem_cons.mpr ⟨tb_111, List.forall_mem_cons.mpr ⟨tb_113, List.forall_mem_cons.mpr ⟨tb_115, List.forall_mem_cons.mpr ⟨tb_117, List.forall_mem_cons.mpr ⟨tb_119, List.forall_mem_cons.mpr ⟨tb_121, List.forall_mem_cons.mpr ⟨tb_123, fun _ h => absurd h List.not_mem_nil⟩⟩⟩⟩⟩⟩⟩⟩⟩⟩⟩⟩⟩⟩
theorem inTB_X6 : ∀ w ∈ wsX60, w ∈ TB := List.forall_mem_cons.mpr ⟨tb_205, List.forall_mem_cons.mpr ⟨tb_207, List.forall_mem_cons.mpr ⟨tb_209, List.forall_mem_cons.mpr ⟨tb_211, List.forall_mem_cons.mpr ⟨tb_213, List.forall_mem_cons.mpr ⟨tb_215, fun _ h => absurd h List.not_mem_nil⟩⟩⟩⟩⟩⟩
theorem inTB_X7 : ∀ w ∈ wsX70, w ∈ TB := List.forall_mem_cons.mpr ⟨tb_604, List.forall_mem_cons.mpr ⟨tb_606, List.forall_mem_cons.mpr ⟨tb_608, List.forall_mem_cons.mpr ⟨tb_610, List.forall_mem_cons.mpr ⟨tb_612, List.forall_mem_cons.mpr ⟨tb_614, List.forall_mem_cons.mpr ⟨tb_616, List.forall_mem_cons.mpr ⟨tb_618, List.forall_mem_cons.mpr ⟨tb_620, List.forall_mem_cons.mpr ⟨tb_622, List.forall_mem_cons.mpr ⟨tb_624, List.forall_mem_cons.mpr ⟨tb_626, List.forall_mem_cons.mpr ⟨tb_628, List.forall_mem_cons.mpr ⟨tb_630, List.forall_mem_cons.mpr ⟨tb_632, List.forall_mem_cons.mpr ⟨tb_634, fun _ h => absurd h List.not_mem_nil⟩⟩⟩⟩⟩⟩⟩⟩⟩⟩⟩⟩⟩⟩⟩⟩
theorem gTB {c c2 : Cond} (h : c2 ∈ TB) : GoodIn (c :: TB) (c2 :: TB) := fun w hw => (List.mem_cons.mp hw).elim (fun e => by subst e; exact ⟨List.mem_cons_of_mem _ h, good_of_word (List.mem_filter.mp h).2⟩) (fun h2 => ⟨List.mem_cons_of_mem _ h2, good_of_word (List.mem_filter.mp h2).2⟩)
theorem gTB1 {c c2 : Cond} (h : c2 ∈ TB) : c2 ∈ c :: TB ∧ ((c2.onTables && c2.keeps) = true ∨ ∃ ty, c2 = .arrayClass ty) := ⟨List.mem_cons_of_mem _ h, good_of_word (List.mem_filter.mp h).2⟩
theorem gCons {big ws : List Cond} {w : Cond} (h1 : w ∈ big ∧ ((w.onTables && w.keeps) = true ∨ ∃ ty, w = .arrayClass ty)) (h : GoodIn big ws) : GoodIn big (w :: ws) := fun x hx => (List.mem_cons.mp hx).elim (fun e => by subst e; exact h1) (fun h2 => h x h2)
theorem gV {c c2 : Cond} {own C : String} {i : Nat} {y : MethodName} (h1 : Cond.methodLink own i y ∈ TB) (h2 : Cond.instanceMethod y ∈ TB) (h3 : Cond.selects C y y ∈ TB) (h4 : Cond.initialized C ∈ TB) (h5 : c2 ∈ TB) : GoodIn (c :: TB) (wsV own i C y (c2 :: TB)) := gCons (gTB1 h1) (gCons (gTB1 h2) (gCons (gTB1 h3) (gCons (gTB1 h4) (gTB h5))))
theorem gS {c c2 : Cond} {own : String} {i : Nat} {y : MethodName} (h1 : Cond.methodLink own i y ∈ TB) (h2 : Cond.static y ∈ TB) (h4 : Cond.initialized y.cls ∈ TB) (h5 : c2 ∈ TB) : GoodIn (c :: TB) (va_wsS own i y (c2 :: TB)) := gCons (gTB1 h1) (gCons (gTB1 h2) (gCons (gTB1 h4) (gTB h5)))
theorem gTBl {c2 : Cond} (h : c2 ∈ TB) : GoodIn lw_tbl (c2 :: TB) := fun w hw => (List.mem_cons.mp hw).elim (fun e => by subst e; exact ⟨tb_in h, good_of_word (List.mem_filter.mp h).2⟩) (fun h2 => ⟨tb_in h2, good_of_word (List.mem_filter.mp h2).2⟩)
theorem gVl {c2 : Cond} {own C : String} {i : Nat} {y : MethodName} (h1 : Cond.methodLink own i y ∈ TB) (h2 : Cond.instanceMethod y ∈ TB) (h3 : Cond.selects C y y ∈ TB) (h4 : Cond.initialized C ∈ TB) (h5 : c2 ∈ TB) : GoodIn lw_tbl (wsV own i C y (c2 :: TB)) := gCons ⟨tb_in h1, good_of_word (List.mem_filter.mp h1).2⟩ (gCons ⟨tb_in h2, good_of_word (List.mem_filter.mp h2).2⟩ (gCons ⟨tb_in h3, good_of_word (List.mem_filter.mp h3).2⟩ (gCons ⟨tb_in h4, good_of_word (List.mem_filter.mp h4).2⟩ (gTBl h5))))
end
