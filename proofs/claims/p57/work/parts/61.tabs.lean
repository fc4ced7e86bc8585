/-! methods and links, with their places in the tables: by program out of tables_1 -/
/-- the tables' lists by number -/
def tbc (j : Nat) : List Jvm.Cond := match j with
  | 0 => sbM.map (fun y => Jvm.Cond.selects "java/lang/StringBuilder" y y)
  | 1 => tables_1_1
  | 2 => tables_1_2
  | 3 => tables_1_3
  | 4 => tables_1_4
  | 5 => tables_1_5
  | 6 => tables_1_6
  | 11 => k2_sels lw_privs_1
  | 12 => k2_sels lw_privs_2
  | _ => []
def tbg (n : Nat) : Option Jvm.Cond := (tbc (n / 1000))[n % 1000]?
theorem tbc_mem (j : Nat) (w : Jvm.Cond) (h : w ∈ tbc j) : w ∈ lw_tb := by
  unfold tbc at h
  unfold lw_tb lw_tbl lw_privs k2_sels tables_1
  split at h <;> first
    | (simp only [List.mem_append, List.map_append]; unfold k2_sels at h; simp only [h, true_or, or_true]; done)
    | (simp only [List.mem_append, List.map_append]; simp only [h, true_or, or_true]; done)
    | cases h
theorem tbg_mem {n : Nat} {w : Jvm.Cond} (h : tbg n = some w) : w ∈ lw_tb := tbc_mem _ w (List.mem_of_getElem? h)
def mi_L_law : MIT := (⟨"LintelBrothersLaw", "law", "([I)Z"⟩, code, 18, (Option.some Jvm.ClassFile.FieldType.boolean), [], false)
def mi_X8_init : MIT := (⟨"LintelBrothers", "<init>", "()V"⟩, prog_1_method_1_code, 1, (Option.none : Option Jvm.ClassFile.FieldType), [], true)
def mi_L_build : MIT := (⟨"LintelBrothersLaw", "build", "(LLintelBrothers;[I)V"⟩, method_20_code, 5, (Option.none : Option Jvm.ClassFile.FieldType), [], false)
def mi_X8_doorCount : MIT := (⟨"LintelBrothers", "doorCount", "()I"⟩, prog_1_method_6_code, 1, (Option.some Jvm.ClassFile.FieldType.int), [], false)
def mi_X8_constraintCount : MIT := (⟨"LintelBrothers", "constraintCount", "()I"⟩, prog_1_method_16_code, 1, (Option.some Jvm.ClassFile.FieldType.int), [], false)
def mi_X8_hasPeace : MIT := (⟨"LintelBrothers", "hasPeace", "()Z"⟩, prog_1_method_32_code, 1, (Option.some Jvm.ClassFile.FieldType.boolean), [], false)
def mi_X8_lowOf : MIT := (⟨"LintelBrothers", "lowOf", "(I)I"⟩, prog_1_method_7_code, 2, (Option.some Jvm.ClassFile.FieldType.int), [], false)
def mi_X8_highOf : MIT := (⟨"LintelBrothers", "highOf", "(I)I"⟩, prog_1_method_8_code, 2, (Option.some Jvm.ClassFile.FieldType.int), [], false)
def mi_X8_frameLow : MIT := (⟨"LintelBrothers", "frameLow", "(I)I"⟩, prog_1_method_9_code, 2, (Option.some Jvm.ClassFile.FieldType.int), [], false)
def mi_X8_frameHigh : MIT := (⟨"LintelBrothers", "frameHigh", "(I)I"⟩, prog_1_method_10_code, 2, (Option.some Jvm.ClassFile.FieldType.int), [], false)
def mi_X8_widthOf : MIT := (⟨"LintelBrothers", "widthOf", "(I)I"⟩, prog_1_method_11_code, 2, (Option.some Jvm.ClassFile.FieldType.int), [], false)
def mi_X8_isFixed : MIT := (⟨"LintelBrothers", "isFixed", "(I)Z"⟩, prog_1_method_12_code, 2, (Option.some Jvm.ClassFile.FieldType.boolean), [], false)
def mi_X8_constraintAt : MIT := (⟨"LintelBrothers", "constraintAt", "(I)I"⟩, prog_1_method_17_code, 2, (Option.some Jvm.ClassFile.FieldType.int), [], false)
def mi_X8_firstOf : MIT := (⟨"LintelBrothers", "firstOf", "(I)I"⟩, prog_1_method_19_code, 2, (Option.some Jvm.ClassFile.FieldType.int), [], false)
def mi_X8_secondOf : MIT := (⟨"LintelBrothers", "secondOf", "(I)I"⟩, prog_1_method_20_code, 2, (Option.some Jvm.ClassFile.FieldType.int), [], false)
def mi_X8_constraintsOf : MIT := (⟨"LintelBrothers", "constraintsOf", "(I)I"⟩, prog_1_method_13_code, 2, (Option.some Jvm.ClassFile.FieldType.int), [], false)
def mi_L_lowestHeight : MIT := (⟨"LintelBrothersLaw", "lowestHeight", "(LLintelBrothers;I)I"⟩, method_13_code, 3, (Option.some Jvm.ClassFile.FieldType.int), [(0, 5, 6, 27), (0, 5, 11, 40)], false)
def mi_L_lowestHeightByPaths : MIT := (⟨"LintelBrothersLaw", "lowestHeightByPaths", "(LLintelBrothers;I)I"⟩, method_14_code, 3, (Option.some Jvm.ClassFile.FieldType.int), [(0, 5, 6, 27), (0, 5, 11, 40)], false)
def mi_X8_writeDoor : MIT := (⟨"LintelBrothers", "writeDoor", "(I)I"⟩, prog_1_method_44_code, 2, (Option.some Jvm.ClassFile.FieldType.int), [], false)
def mi_J4_init_da8c8 : MIT := (⟨"java/lang/StringBuilder", "<init>", "()V"⟩, prog_28_method_1_code, 1, (Option.none : Option Jvm.ClassFile.FieldType), [], true)
def mi_J4_append_bf812 : MIT := (⟨"java/lang/StringBuilder", "append", "(I)Ljava/lang/StringBuilder;"⟩, prog_28_method_15_code, 2, (Option.some (Jvm.ClassFile.FieldType.object "java/lang/StringBuilder")), [], false)
def mi_J4_append_15ec4 : MIT := (⟨"java/lang/StringBuilder", "append", "(Ljava/lang/String;)Ljava/lang/StringBuilder;"⟩, prog_28_method_7_code, 2, (Option.some (Jvm.ClassFile.FieldType.object "java/lang/StringBuilder")), [], false)
def mi_J4_toString_0e30d : MIT := (⟨"java/lang/StringBuilder", "toString", "()Ljava/lang/String;"⟩, prog_28_method_42_code, 1, (Option.some (Jvm.ClassFile.FieldType.object "java/lang/String")), [], false)
def mi_L_isLine : MIT := (⟨"LintelBrothersLaw", "isLine", "(LLintelBrothers;ILjava/lang/String;)Z"⟩, method_23_code, 4, (Option.some Jvm.ClassFile.FieldType.boolean), [], false)
def mi_X8_peaceHeight : MIT := (⟨"LintelBrothers", "peaceHeight", "(I)I"⟩, prog_1_method_33_code, 2, (Option.some Jvm.ClassFile.FieldType.int), [], false)
def mi_X8_doorByWidth : MIT := (⟨"LintelBrothers", "doorByWidth", "(I)I"⟩, prog_1_method_36_code, 3, (Option.some Jvm.ClassFile.FieldType.int), [], false)
def mi_L_holds : MIT := (⟨"LintelBrothersLaw", "holds", "(LLintelBrothers;III)Z"⟩, method_22_code, 6, (Option.some Jvm.ClassFile.FieldType.boolean), [], false)
def mi_X8_isSafe : MIT := (⟨"LintelBrothers", "isSafe", "(I)Z"⟩, prog_1_method_22_code, 2, (Option.some Jvm.ClassFile.FieldType.boolean), [], false)
def mi_X8_isBroken : MIT := (⟨"LintelBrothers", "isBroken", "(I)Z"⟩, prog_1_method_23_code, 2, (Option.some Jvm.ClassFile.FieldType.boolean), [], false)
def mi_X8_writeConstraint : MIT := (⟨"LintelBrothers", "writeConstraint", "(I)I"⟩, prog_1_method_45_code, 4, (Option.some Jvm.ClassFile.FieldType.int), [], false)
def mi_X8_kindOf : MIT := (⟨"LintelBrothers", "kindOf", "(I)C"⟩, prog_1_method_18_code, 2, (Option.some Jvm.ClassFile.FieldType.char), [], false)
def mi_J4_append_cf468 : MIT := (⟨"java/lang/StringBuilder", "append", "(C)Ljava/lang/StringBuilder;"⟩, prog_28_method_14_code, 2, (Option.some (Jvm.ClassFile.FieldType.object "java/lang/StringBuilder")), [], false)
def mi_X8_gapOf : MIT := (⟨"LintelBrothers", "gapOf", "(I)I"⟩, prog_1_method_21_code, 2, (Option.some Jvm.ClassFile.FieldType.int), [], false)
def mi_X8_constraintByGap : MIT := (⟨"LintelBrothers", "constraintByGap", "(I)I"⟩, prog_1_method_37_code, 3, (Option.some Jvm.ClassFile.FieldType.int), [], false)
def mi_X8_arePossible : MIT := (⟨"LintelBrothers", "arePossible", "(IIII)Z"⟩, prog_1_method_35_code, 5, (Option.some Jvm.ClassFile.FieldType.boolean), [], false)
def mi_L_peaceSum : MIT := (⟨"LintelBrothersLaw", "peaceSum", "(LLintelBrothers;)I"⟩, method_16_code, 2, (Option.some Jvm.ClassFile.FieldType.int), [(0, 4, 5, 40)], false)
def mi_L_peaceHeight : MIT := (⟨"LintelBrothersLaw", "peaceHeight", "(LLintelBrothers;I)I"⟩, method_15_code, 3, (Option.some Jvm.ClassFile.FieldType.int), [(0, 5, 6, 27), (0, 5, 11, 40)], false)
def mi_X8_isSettled : MIT := (⟨"LintelBrothers", "isSettled", "()Z"⟩, prog_1_method_26_code, 1, (Option.some Jvm.ClassFile.FieldType.boolean), [], false)
def mi_L_wouldChange : MIT := (⟨"LintelBrothersLaw", "wouldChange", "(LLintelBrothers;)I"⟩, method_12_code, 2, (Option.some Jvm.ClassFile.FieldType.int), [(0, 4, 5, 40)], false)
def mi_X8_fixedCount : MIT := (⟨"LintelBrothers", "fixedCount", "()I"⟩, prog_1_method_38_code, 3, (Option.some Jvm.ClassFile.FieldType.int), [], false)
def mi_X8_totalWidth : MIT := (⟨"LintelBrothers", "totalWidth", "()I"⟩, prog_1_method_39_code, 1, (Option.some Jvm.ClassFile.FieldType.int), [], false)
def mi_X8_totalFrameWidth : MIT := (⟨"LintelBrothers", "totalFrameWidth", "()I"⟩, prog_1_method_40_code, 1, (Option.some Jvm.ClassFile.FieldType.int), [], false)
def mi_X8_meanWidth : MIT := (⟨"LintelBrothers", "meanWidth", "()D"⟩, prog_1_method_41_code, 1, (Option.some Jvm.ClassFile.FieldType.double), [], false)
def mi_X8_fixedShare : MIT := (⟨"LintelBrothers", "fixedShare", "()F"⟩, prog_1_method_42_code, 1, (Option.some Jvm.ClassFile.FieldType.float), [], false)
def mi_X8_isConsistent : MIT := (⟨"LintelBrothers", "isConsistent", "()Z"⟩, prog_1_method_43_code, 4, (Option.some Jvm.ClassFile.FieldType.boolean), [], false)
def mi_L_doorByWidth : MIT := (⟨"LintelBrothersLaw", "doorByWidth", "(LLintelBrothers;I)I"⟩, method_17_code, 3, (Option.some Jvm.ClassFile.FieldType.int), [(0, 5, 6, 40)], false)
def mi_L_constraintByGap : MIT := (⟨"LintelBrothersLaw", "constraintByGap", "(LLintelBrothers;I)I"⟩, method_18_code, 3, (Option.some Jvm.ClassFile.FieldType.int), [(0, 5, 6, 40)], false)
def mi_L_constraintAt : MIT := (⟨"LintelBrothersLaw", "constraintAt", "(LLintelBrothers;I)I"⟩, method_9_code, 3, (Option.some Jvm.ClassFile.FieldType.int), [(0, 5, 6, 40)], false)
def mi_L_acts : MIT := (⟨"LintelBrothersLaw", "acts", "(LLintelBrothers;[II)V"⟩, method_21_code, 8, (Option.none : Option Jvm.ClassFile.FieldType), [], false)
def mi_X2_init : MIT := (⟨"LintelBrothers$Data", "<init>", "()V"⟩, prog_4_method_1_code, 1, (Option.none : Option Jvm.ClassFile.FieldType), [], true)
def mi_X3_init : MIT := (⟨"LintelBrothers$History", "<init>", "()V"⟩, prog_5_method_1_code, 2, (Option.none : Option Jvm.ClassFile.FieldType), [], true)
def mi_X0_init : MIT := (⟨"LintelBrothers$Bounds", "<init>", "()V"⟩, prog_2_method_1_code, 1, (Option.none : Option Jvm.ClassFile.FieldType), [], true)
def mi_X5_init : MIT := (⟨"LintelBrothers$Narrowing", "<init>", "()V"⟩, prog_7_method_1_code, 1, (Option.none : Option Jvm.ClassFile.FieldType), [], true)
def mi_X4_init : MIT := (⟨"LintelBrothers$LongestPaths", "<init>", "()V"⟩, prog_6_method_1_code, 1, (Option.none : Option Jvm.ClassFile.FieldType), [], true)
def mi_X6_init : MIT := (⟨"LintelBrothers$PeaceSearch", "<init>", "()V"⟩, prog_8_method_1_code, 1, (Option.none : Option Jvm.ClassFile.FieldType), [], true)
def mi_X7_init : MIT := (⟨"LintelBrothers$Script", "<init>", "()V"⟩, prog_9_method_1_code, 1, (Option.none : Option Jvm.ClassFile.FieldType), [], true)
def mi_L_some : MIT := (⟨"LintelBrothersLaw", "some", "([III)I"⟩, method_3_code, 3, (Option.some Jvm.ClassFile.FieldType.int), [], false)
def mi_L_addDoor : MIT := (⟨"LintelBrothersLaw", "addDoor", "(LLintelBrothers;II)I"⟩, method_4_code, 4, (Option.some Jvm.ClassFile.FieldType.int), [(0, 6, 7, 19), (0, 6, 12, 21)], false)
def mi_L_kind : MIT := (⟨"LintelBrothersLaw", "kind", "(I)C"⟩, method_19_code, 1, (Option.some Jvm.ClassFile.FieldType.char), [], false)
def mi_L_addConstraint : MIT := (⟨"LintelBrothersLaw", "addConstraint", "(LLintelBrothers;CIII)I"⟩, method_7_code, 6, (Option.some Jvm.ClassFile.FieldType.int), [(0, 9, 10, 27), (0, 9, 16, 19), (0, 9, 22, 21)], false)
def mi_X6_find : MIT := (⟨"LintelBrothers$PeaceSearch", "find", "(LLintelBrothers$Constraints;LLintelBrothers$Bounds;I)Z"⟩, prog_8_method_2_code, 4, (Option.some Jvm.ClassFile.FieldType.boolean), [], false)
def mi_X8_checkDoor : MIT := (⟨"LintelBrothers", "checkDoor", "(I)V"⟩, prog_1_method_60_code, 2, (Option.none : Option Jvm.ClassFile.FieldType), [], false)
def mi_X0_width : MIT := (⟨"LintelBrothers$Bounds", "width", "(I)I"⟩, prog_2_method_5_code, 2, (Option.some Jvm.ClassFile.FieldType.int), [], false)
def mi_X0_isOneHeight : MIT := (⟨"LintelBrothers$Bounds", "isOneHeight", "(I)Z"⟩, prog_2_method_6_code, 2, (Option.some Jvm.ClassFile.FieldType.boolean), [], false)
def mi_X8_checkedPosition : MIT := (⟨"LintelBrothers", "checkedPosition", "(I)I"⟩, prog_1_method_61_code, 3, (Option.some Jvm.ClassFile.FieldType.int), [], false)
def mi_X1_countWith : MIT := (⟨"LintelBrothers$Constraints", "countWith", "(I)I"⟩, prog_3_method_7_code, 4, (Option.some Jvm.ClassFile.FieldType.int), [], false)
def mi_X8_lowestHeight : MIT := (⟨"LintelBrothers", "lowestHeight", "(I)I"⟩, prog_1_method_28_code, 2, (Option.some Jvm.ClassFile.FieldType.int), [], false)
def mi_X8_lowestHeightByPaths : MIT := (⟨"LintelBrothers", "lowestHeightByPaths", "(I)I"⟩, prog_1_method_29_code, 2, (Option.some Jvm.ClassFile.FieldType.int), [], false)
def mi_J4_setLength_d00df : MIT := (⟨"java/lang/StringBuilder", "setLength", "(I)V"⟩, prog_28_method_89_code, 2, (Option.none : Option Jvm.ClassFile.FieldType), [], false)
def mi_X2_differencesToFrame : MIT := (⟨"LintelBrothers$Data", "differencesToFrame", "(I)I"⟩, prog_4_method_4_code, 2, (Option.some Jvm.ClassFile.FieldType.int), [], false)
def mi_J4_length_8abf5 : MIT := (⟨"java/lang/StringBuilder", "length", "()I"⟩, prog_28_method_93_code, 1, (Option.some Jvm.ClassFile.FieldType.int), [], false)
def mi_J5_init_d00df : MIT := (⟨"java/lang/AbstractStringBuilder", "<init>", "(I)V"⟩, prog_13_method_2_code, 2, (Option.none : Option Jvm.ClassFile.FieldType), [], true)
def mi_J5_append_c97b9 : MIT := (⟨"java/lang/AbstractStringBuilder", "append", "(I)Ljava/lang/AbstractStringBuilder;"⟩, prog_13_method_32_code, 4, (Option.some (Jvm.ClassFile.FieldType.object "java/lang/AbstractStringBuilder")), [], false)
def mi_J5_append_cf1ce : MIT := (⟨"java/lang/AbstractStringBuilder", "append", "(Ljava/lang/String;)Ljava/lang/AbstractStringBuilder;"⟩, prog_13_method_22_code, 3, (Option.some (Jvm.ClassFile.FieldType.object "java/lang/AbstractStringBuilder")), [], false)
def mi_J0_init_81219 : MIT := (⟨"java/lang/String", "<init>", "(Ljava/lang/StringBuilder;)V"⟩, prog_27_method_53_code, 2, (Option.none : Option Jvm.ClassFile.FieldType), [], true)
def mi_J0_length_8abf5 : MIT := (⟨"java/lang/String", "length", "()I"⟩, prog_27_method_54_code, 1, (Option.some Jvm.ClassFile.FieldType.int), [], false)
def mi_X8_outputAt : MIT := (⟨"LintelBrothers", "outputAt", "(I)C"⟩, prog_1_method_46_code, 2, (Option.some Jvm.ClassFile.FieldType.char), [], false)
def mi_J0_charAt_5068e : MIT := (⟨"java/lang/String", "charAt", "(I)C"⟩, prog_27_method_56_code, 2, (Option.some Jvm.ClassFile.FieldType.char), [], false)
def mi_X2_doorAtRank : MIT := (⟨"LintelBrothers$Data", "doorAtRank", "(I)I"⟩, prog_4_method_9_code, 3, (Option.some Jvm.ClassFile.FieldType.int), [], false)
def mi_X2_isAlwaysMet : MIT := (⟨"LintelBrothers$Data", "isAlwaysMet", "(I)Z"⟩, prog_4_method_7_code, 7, (Option.some Jvm.ClassFile.FieldType.boolean), [], false)
def mi_X2_isNeverMet : MIT := (⟨"LintelBrothers$Data", "isNeverMet", "(I)Z"⟩, prog_4_method_8_code, 7, (Option.some Jvm.ClassFile.FieldType.boolean), [], false)
def mi_J5_append_3fe6f : MIT := (⟨"java/lang/AbstractStringBuilder", "append", "(C)Ljava/lang/AbstractStringBuilder;"⟩, prog_13_method_31_code, 2, (Option.some (Jvm.ClassFile.FieldType.object "java/lang/AbstractStringBuilder")), [], false)
def mi_X1_positionAtRank : MIT := (⟨"LintelBrothers$Constraints", "positionAtRank", "(I)I"⟩, prog_3_method_8_code, 3, (Option.some Jvm.ClassFile.FieldType.int), [], false)
def mi_X8_isHeight : MIT := (⟨"LintelBrothers", "isHeight", "(I)Z"⟩, prog_1_method_56_code, 1, (Option.some Jvm.ClassFile.FieldType.boolean), [], false)
def mi_X0_copyFrom : MIT := (⟨"LintelBrothers$Bounds", "copyFrom", "(LLintelBrothers$Bounds;)V"⟩, prog_2_method_2_code, 2, (Option.none : Option Jvm.ClassFile.FieldType), [], false)
def mi_X0_fix : MIT := (⟨"LintelBrothers$Bounds", "fix", "(II)Z"⟩, prog_2_method_4_code, 3, (Option.some Jvm.ClassFile.FieldType.boolean), [], false)
def mi_X8_peaceSum : MIT := (⟨"LintelBrothers", "peaceSum", "()I"⟩, prog_1_method_34_code, 3, (Option.some Jvm.ClassFile.FieldType.int), [], false)
def mi_X8_changesOfTrialPass : MIT := (⟨"LintelBrothers", "changesOfTrialPass", "()I"⟩, prog_1_method_71_code, 1, (Option.some Jvm.ClassFile.FieldType.int), [], false)
def mi_X8_wouldChange : MIT := (⟨"LintelBrothers", "wouldChange", "()I"⟩, prog_1_method_27_code, 2, (Option.some Jvm.ClassFile.FieldType.int), [], false)
def mi_X0_sumOfWidths : MIT := (⟨"LintelBrothers$Bounds", "sumOfWidths", "(I)I"⟩, prog_2_method_8_code, 4, (Option.some Jvm.ClassFile.FieldType.int), [], false)
def mi_X8_settleTrialWithoutApart : MIT := (⟨"LintelBrothers", "settleTrialWithoutApart", "()Z"⟩, prog_1_method_72_code, 1, (Option.some Jvm.ClassFile.FieldType.boolean), [], false)
def mi_X4_climb : MIT := (⟨"LintelBrothers$LongestPaths", "climb", "(LLintelBrothers$Constraints;LLintelBrothers$Bounds;I)Z"⟩, prog_6_method_2_code, 6, (Option.some Jvm.ClassFile.FieldType.boolean), [], false)
def mi_X2_isInOrder : MIT := (⟨"LintelBrothers$Data", "isInOrder", "(I)Z"⟩, prog_4_method_6_code, 2, (Option.some Jvm.ClassFile.FieldType.boolean), [], false)
def mi_L_setFrame : MIT := (⟨"LintelBrothersLaw", "setFrame", "(LLintelBrothers;III)I"⟩, method_5_code, 5, (Option.some Jvm.ClassFile.FieldType.int), [(0, 7, 8, 27), (0, 7, 14, 19)], false)
def mi_L_narrow : MIT := (⟨"LintelBrothersLaw", "narrow", "(LLintelBrothers;III)I"⟩, method_6_code, 5, (Option.some Jvm.ClassFile.FieldType.int), [(0, 7, 8, 27), (0, 7, 14, 19), (0, 7, 20, 21)], false)
def mi_X8_reset : MIT := (⟨"LintelBrothers", "reset", "()I"⟩, prog_1_method_5_code, 2, (Option.some Jvm.ClassFile.FieldType.int), [], false)
def mi_L_removeConstraint : MIT := (⟨"LintelBrothersLaw", "removeConstraint", "(LLintelBrothers;I)I"⟩, method_8_code, 3, (Option.some Jvm.ClassFile.FieldType.int), [(0, 5, 6, 40)], false)
def mi_L_pass : MIT := (⟨"LintelBrothersLaw", "pass", "(LLintelBrothers;)I"⟩, method_10_code, 2, (Option.some Jvm.ClassFile.FieldType.int), [(0, 4, 5, 21)], false)
def mi_L_settle : MIT := (⟨"LintelBrothersLaw", "settle", "(LLintelBrothers;)I"⟩, method_11_code, 2, (Option.some Jvm.ClassFile.FieldType.int), [(0, 4, 5, 21)], false)
def mi_X1_init : MIT := (⟨"LintelBrothers$Constraints", "<init>", "()V"⟩, prog_3_method_1_code, 1, (Option.none : Option Jvm.ClassFile.FieldType), [], true)
def mi_L_cell : MIT := (⟨"LintelBrothersLaw", "cell", "([II)I"⟩, method_2_code, 2, (Option.some Jvm.ClassFile.FieldType.int), [], false)
def mi_X8_addDoor : MIT := (⟨"LintelBrothers", "addDoor", "(II)I"⟩, prog_1_method_2_code, 4, (Option.some Jvm.ClassFile.FieldType.int), [], false)
def mi_X8_addConstraint : MIT := (⟨"LintelBrothers", "addConstraint", "(CIII)I"⟩, prog_1_method_14_code, 6, (Option.some Jvm.ClassFile.FieldType.int), [], false)
def mi_X6_chooseSides : MIT := (⟨"LintelBrothers$PeaceSearch", "chooseSides", "(LLintelBrothers$PeaceSearch;LLintelBrothers$Constraints;LLintelBrothers$Bounds;II)V"⟩, prog_8_method_3_code, 7, (Option.none : Option Jvm.ClassFile.FieldType), [], false)
def mi_X2_hasDoor : MIT := (⟨"LintelBrothers$Data", "hasDoor", "(I)Z"⟩, prog_4_method_3_code, 2, (Option.some Jvm.ClassFile.FieldType.boolean), [], false)
def mi_X1_positionOf : MIT := (⟨"LintelBrothers$Constraints", "positionOf", "(I)I"⟩, prog_3_method_3_code, 3, (Option.some Jvm.ClassFile.FieldType.int), [], false)
def mi_J5_setLength_d00df : MIT := (⟨"java/lang/AbstractStringBuilder", "setLength", "(I)V"⟩, prog_13_method_13_code, 2, (Option.none : Option Jvm.ClassFile.FieldType), [], false)
def mi_J5_length_8abf5 : MIT := (⟨"java/lang/AbstractStringBuilder", "length", "()I"⟩, prog_13_method_6_code, 1, (Option.some Jvm.ClassFile.FieldType.int), [], false)
def mi_J6_stringSize_0f7a4 : MIT := (⟨"java/lang/Integer", "stringSize", "(I)I"⟩, prog_23_method_13_code, 4, (Option.some Jvm.ClassFile.FieldType.int), [], false)
def mi_J5_ensureCapacityInternal_d00df : MIT := (⟨"java/lang/AbstractStringBuilder", "ensureCapacityInternal", "(I)V"⟩, prog_13_method_9_code, 3, (Option.none : Option Jvm.ClassFile.FieldType), [], false)
def mi_J5_isLatin1_aae02 : MIT := (⟨"java/lang/AbstractStringBuilder", "isLatin1", "()Z"⟩, prog_13_method_68_code, 1, (Option.some Jvm.ClassFile.FieldType.boolean), [], false)
def mi_J6_getChars_ba4f3 : MIT := (⟨"java/lang/Integer", "getChars", "(II[B)I"⟩, prog_23_method_12_code, 7, (Option.some Jvm.ClassFile.FieldType.int), [], false)
def mi_J5_putStringAt_47b60 : MIT := (⟨"java/lang/AbstractStringBuilder", "putStringAt", "(ILjava/lang/String;)V"⟩, prog_13_method_73_code, 3, (Option.none : Option Jvm.ClassFile.FieldType), [], false)
def mi_J0_init_db425 : MIT := (⟨"java/lang/String", "<init>", "(Ljava/lang/AbstractStringBuilder;Ljava/lang/Void;)V"⟩, prog_27_method_150_code, 5, (Option.none : Option Jvm.ClassFile.FieldType), [], true)
def mi_J0_coder_7d493 : MIT := (⟨"java/lang/String", "coder", "()B"⟩, prog_27_method_152_code, 1, (Option.some Jvm.ClassFile.FieldType.byte), [], false)
def mi_J4_charAt_5068e : MIT := (⟨"java/lang/StringBuilder", "charAt", "(I)C"⟩, prog_28_method_88_code, 2, (Option.some Jvm.ClassFile.FieldType.char), [], false)
def mi_J0_isLatin1_aae02 : MIT := (⟨"java/lang/String", "isLatin1", "()Z"⟩, prog_27_method_154_code, 1, (Option.some Jvm.ClassFile.FieldType.boolean), [], false)
def mi_J1_charAt_3b067 : MIT := (⟨"java/lang/StringLatin1", "charAt", "([BI)C"⟩, prog_30_method_2_code, 2, (Option.some Jvm.ClassFile.FieldType.char), [], false)
def mi_X2_rankOf : MIT := (⟨"LintelBrothers$Data", "rankOf", "(I)I"⟩, prog_4_method_10_code, 4, (Option.some Jvm.ClassFile.FieldType.int), [], false)
def mi_J1_canEncode_fc78d : MIT := (⟨"java/lang/StringLatin1", "canEncode", "(C)Z"⟩, prog_30_method_3_code, 1, (Option.some Jvm.ClassFile.FieldType.boolean), [], false)
def mi_X1_rankOf : MIT := (⟨"LintelBrothers$Constraints", "rankOf", "(I)I"⟩, prog_3_method_9_code, 4, (Option.some Jvm.ClassFile.FieldType.int), [], false)
def mi_X0_put : MIT := (⟨"LintelBrothers$Bounds", "put", "(III)V"⟩, prog_2_method_3_code, 4, (Option.none : Option Jvm.ClassFile.FieldType), [], false)
def mi_X5_begin : MIT := (⟨"LintelBrothers$Narrowing", "begin", "()V"⟩, prog_7_method_2_code, 1, (Option.none : Option Jvm.ClassFile.FieldType), [], false)
def mi_X5_makePass : MIT := (⟨"LintelBrothers$Narrowing", "makePass", "(LLintelBrothers$Constraints;LLintelBrothers$Bounds;Z)Z"⟩, prog_7_method_4_code, 5, (Option.some Jvm.ClassFile.FieldType.boolean), [], false)
def mi_X5_makePassesToTheEnd : MIT := (⟨"LintelBrothers$Narrowing", "makePassesToTheEnd", "(LLintelBrothers$Constraints;LLintelBrothers$Bounds;Z)Z"⟩, prog_7_method_3_code, 6, (Option.some Jvm.ClassFile.FieldType.boolean), [], false)
def mi_X4_climbOnce : MIT := (⟨"LintelBrothers$LongestPaths", "climbOnce", "(LLintelBrothers$Constraints;)Z"⟩, prog_6_method_3_code, 4, (Option.some Jvm.ClassFile.FieldType.boolean), [], false)
def mi_X0_isEmpty : MIT := (⟨"LintelBrothers$Bounds", "isEmpty", "(I)Z"⟩, prog_2_method_7_code, 2, (Option.some Jvm.ClassFile.FieldType.boolean), [], false)
def mi_X8_setFrame : MIT := (⟨"LintelBrothers", "setFrame", "(III)I"⟩, prog_1_method_3_code, 5, (Option.some Jvm.ClassFile.FieldType.int), [], false)
def mi_X8_narrow : MIT := (⟨"LintelBrothers", "narrow", "(III)I"⟩, prog_1_method_4_code, 5, (Option.some Jvm.ClassFile.FieldType.int), [], false)
def mi_X3_prepare : MIT := (⟨"LintelBrothers$History", "prepare", "(LLintelBrothers$Data;)V"⟩, prog_5_method_2_code, 2, (Option.none : Option Jvm.ClassFile.FieldType), [], false)
def mi_X2_openAll : MIT := (⟨"LintelBrothers$Data", "openAll", "()I"⟩, prog_4_method_5_code, 3, (Option.some Jvm.ClassFile.FieldType.int), [], false)
def mi_X3_keep : MIT := (⟨"LintelBrothers$History", "keep", "()V"⟩, prog_5_method_4_code, 1, (Option.none : Option Jvm.ClassFile.FieldType), [], false)
def mi_X8_removeConstraint : MIT := (⟨"LintelBrothers", "removeConstraint", "(I)I"⟩, prog_1_method_15_code, 4, (Option.some Jvm.ClassFile.FieldType.int), [], false)
def mi_X8_pass : MIT := (⟨"LintelBrothers", "pass", "()I"⟩, prog_1_method_24_code, 2, (Option.some Jvm.ClassFile.FieldType.int), [], false)
def mi_X8_settle : MIT := (⟨"LintelBrothers", "settle", "()I"⟩, prog_1_method_25_code, 2, (Option.some Jvm.ClassFile.FieldType.int), [], false)
def mi_X8_checkRange : MIT := (⟨"LintelBrothers", "checkRange", "(II)V"⟩, prog_1_method_59_code, 2, (Option.none : Option Jvm.ClassFile.FieldType), [], false)
def mi_X8_enterDoor : MIT := (⟨"LintelBrothers", "enterDoor", "(II)I"⟩, prog_1_method_63_code, 4, (Option.some Jvm.ClassFile.FieldType.int), [], false)
def mi_X8_isConstraint : MIT := (⟨"LintelBrothers", "isConstraint", "(CIII)Z"⟩, prog_1_method_58_code, 6, (Option.some Jvm.ClassFile.FieldType.boolean), [], false)
def mi_X8_enterConstraint : MIT := (⟨"LintelBrothers", "enterConstraint", "(CIII)I"⟩, prog_1_method_66_code, 7, (Option.some Jvm.ClassFile.FieldType.int), [], false)
def mi_X6_isBetter : MIT := (⟨"LintelBrothers$PeaceSearch", "isBetter", "(I)Z"⟩, prog_8_method_4_code, 3, (Option.some Jvm.ClassFile.FieldType.boolean), [], false)
def mi_X6_tooNear : MIT := (⟨"LintelBrothers$PeaceSearch", "tooNear", "(LLintelBrothers$Constraints;)I"⟩, prog_8_method_5_code, 4, (Option.some Jvm.ClassFile.FieldType.int), [], false)
def mi_J5_newCapacity_0f7a4 : MIT := (⟨"java/lang/AbstractStringBuilder", "newCapacity", "(I)I"⟩, prog_13_method_10_code, 6, (Option.some Jvm.ClassFile.FieldType.int), [], false)
def mi_J7_copyOf_9075b : MIT := (⟨"java/util/Arrays", "copyOf", "([BI)[B"⟩, prog_37_method_121_code, 3, (Option.some (Jvm.ClassFile.FieldType.array Jvm.ClassFile.FieldType.byte)), [], false)
def mi_J5_inflateIfNeededFor_a7421 : MIT := (⟨"java/lang/AbstractStringBuilder", "inflateIfNeededFor", "(Ljava/lang/String;)V"⟩, prog_13_method_71_code, 2, (Option.none : Option Jvm.ClassFile.FieldType), [], false)
def mi_J0_getBytes_840e7 : MIT := (⟨"java/lang/String", "getBytes", "([BIB)V"⟩, prog_27_method_147_code, 4, (Option.none : Option Jvm.ClassFile.FieldType), [], false)
def mi_J5_getValue_6d5f1 : MIT := (⟨"java/lang/AbstractStringBuilder", "getValue", "()[B"⟩, prog_13_method_64_code, 1, (Option.some (Jvm.ClassFile.FieldType.array Jvm.ClassFile.FieldType.byte)), [], false)
def mi_J7_copyOfRange_39247 : MIT := (⟨"java/util/Arrays", "copyOfRange", "([BII)[B"⟩, prog_37_method_132_code, 3, (Option.some (Jvm.ClassFile.FieldType.array Jvm.ClassFile.FieldType.byte)), [], false)
def mi_J5_charAt_5068e : MIT := (⟨"java/lang/AbstractStringBuilder", "charAt", "(I)C"⟩, prog_13_method_14_code, 5, (Option.some Jvm.ClassFile.FieldType.char), [], false)
def mi_J0_checkIndex_df160 : MIT := (⟨"java/lang/String", "checkIndex", "(II)V"⟩, prog_27_method_155_code, 2, (Option.none : Option Jvm.ClassFile.FieldType), [], false)
def mi_X2_isAhead : MIT := (⟨"LintelBrothers$Data", "isAhead", "(II)Z"⟩, prog_4_method_11_code, 5, (Option.some Jvm.ClassFile.FieldType.boolean), [], false)
def mi_X5_takeSteps : MIT := (⟨"LintelBrothers$Narrowing", "takeSteps", "(LLintelBrothers$Constraints;ILLintelBrothers$Bounds;)V"⟩, prog_7_method_5_code, 7, (Option.none : Option Jvm.ClassFile.FieldType), [], false)
def mi_X4_climbAlong : MIT := (⟨"LintelBrothers$LongestPaths", "climbAlong", "(LLintelBrothers$Constraints;I)Z"⟩, prog_6_method_4_code, 7, (Option.some Jvm.ClassFile.FieldType.boolean), [], false)
def mi_X8_changeFrame : MIT := (⟨"LintelBrothers", "changeFrame", "(III)I"⟩, prog_1_method_64_code, 4, (Option.some Jvm.ClassFile.FieldType.int), [], false)
def mi_X8_narrowDoor : MIT := (⟨"LintelBrothers", "narrowDoor", "(III)I"⟩, prog_1_method_65_code, 8, (Option.some Jvm.ClassFile.FieldType.int), [], false)
def mi_X2_copyFrom : MIT := (⟨"LintelBrothers$Data", "copyFrom", "(LLintelBrothers$Data;)V"⟩, prog_4_method_2_code, 2, (Option.none : Option Jvm.ClassFile.FieldType), [], false)
def mi_X8_takeConstraintAway : MIT := (⟨"LintelBrothers", "takeConstraintAway", "(I)I"⟩, prog_1_method_67_code, 2, (Option.some Jvm.ClassFile.FieldType.int), [], false)
def mi_X8_passOnce : MIT := (⟨"LintelBrothers", "passOnce", "()I"⟩, prog_1_method_68_code, 1, (Option.some Jvm.ClassFile.FieldType.int), [], false)
def mi_X8_passUntilSettled : MIT := (⟨"LintelBrothers", "passUntilSettled", "()I"⟩, prog_1_method_69_code, 1, (Option.some Jvm.ClassFile.FieldType.int), [], false)
def mi_X8_isRange : MIT := (⟨"LintelBrothers", "isRange", "(II)Z"⟩, prog_1_method_57_code, 2, (Option.some Jvm.ClassFile.FieldType.boolean), [], false)
def mi_X8_reject : MIT := (⟨"LintelBrothers", "reject", "(II)I"⟩, prog_1_method_62_code, 3, (Option.some Jvm.ClassFile.FieldType.int), [], false)
def mi_X1_positionOfSame : MIT := (⟨"LintelBrothers$Constraints", "positionOfSame", "(CIII)I"⟩, prog_3_method_4_code, 6, (Option.some Jvm.ClassFile.FieldType.int), [], false)
def mi_X1_append : MIT := (⟨"LintelBrothers$Constraints", "append", "(CIII)I"⟩, prog_3_method_5_code, 6, (Option.some Jvm.ClassFile.FieldType.int), [], false)
def mi_J8_newLength_cabcc : MIT := (⟨"jdk/internal/util/ArraysSupport", "newLength", "(III)I"⟩, prog_39_method_27_code, 4, (Option.some Jvm.ClassFile.FieldType.int), [], false)
def mi_J7_copyOfRangeByte_39247 : MIT := (⟨"java/util/Arrays", "copyOfRangeByte", "([BII)[B"⟩, prog_37_method_133_code, 5, (Option.some (Jvm.ClassFile.FieldType.array Jvm.ClassFile.FieldType.byte)), [], false)
def mi_J3_checkIndex_8e157 : MIT := (⟨"jdk/internal/util/Preconditions", "checkIndex", "(IILjava/util/function/BiFunction;)I"⟩, prog_40_method_11_code, 3, (Option.some Jvm.ClassFile.FieldType.int), [], false)
def mi_X5_keepOff : MIT := (⟨"LintelBrothers$Narrowing", "keepOff", "(LLintelBrothers$Bounds;III)V"⟩, prog_7_method_8_code, 7, (Option.none : Option Jvm.ClassFile.FieldType), [], false)
def mi_X5_raiseLow : MIT := (⟨"LintelBrothers$Narrowing", "raiseLow", "(LLintelBrothers$Bounds;II)V"⟩, prog_7_method_6_code, 4, (Option.none : Option Jvm.ClassFile.FieldType), [], false)
def mi_X5_sinkHigh : MIT := (⟨"LintelBrothers$Narrowing", "sinkHigh", "(LLintelBrothers$Bounds;II)V"⟩, prog_7_method_7_code, 4, (Option.none : Option Jvm.ClassFile.FieldType), [], false)
def mi_X4_raise : MIT := (⟨"LintelBrothers$LongestPaths", "raise", "(II)Z"⟩, prog_6_method_5_code, 3, (Option.some Jvm.ClassFile.FieldType.boolean), [], false)
def mi_X1_copyFrom : MIT := (⟨"LintelBrothers$Constraints", "copyFrom", "(LLintelBrothers$Constraints;)V"⟩, prog_3_method_2_code, 2, (Option.none : Option Jvm.ClassFile.FieldType), [], false)
def mi_X1_takeOut : MIT := (⟨"LintelBrothers$Constraints", "takeOut", "(I)V"⟩, prog_3_method_6_code, 3, (Option.none : Option Jvm.ClassFile.FieldType), [], false)
def mi_X8_takeOverTrial : MIT := (⟨"LintelBrothers", "takeOverTrial", "()V"⟩, prog_1_method_70_code, 1, (Option.none : Option Jvm.ClassFile.FieldType), [], false)
def mi_J7_checkLength_df160 : MIT := (⟨"java/util/Arrays", "checkLength", "(II)V"⟩, prog_37_method_131_code, 2, (Option.none : Option Jvm.ClassFile.FieldType), [], false)
def mi (k : Nat) : MIT := (cond (Nat.blt k 86) (cond (Nat.blt k 43) (cond (Nat.blt k 21) (cond (Nat.blt k 10) (cond (Nat.blt k 5) (cond (Nat.blt k 2) (cond (Nat.blt k 1) mi_L_law mi_X8_init) (cond (Nat.blt k 3) mi_L_build (cond (Nat.blt k 4) mi_X8_doorCount mi_X8_constraintCount))) (cond (Nat.blt k 7) (cond (Nat.blt k 6) mi_X8_hasPeace mi_X8_lowOf) (cond (Nat.blt k 8) mi_X8_highOf (cond (Nat.blt k 9) mi_X8_frameLow mi_X8_frameHigh)))) (cond (Nat.blt k 15) (cond (Nat.blt k 12) (cond (Nat.blt k 11) mi_X8_widthOf mi_X8_isFixed) (cond (Nat.blt k 13) mi_X8_constraintAt (cond (Nat.blt k 14) mi_X8_firstOf mi_X8_secondOf))) (cond (Nat.blt k 18) (cond (Nat.blt k 16) mi_X8_constraintsOf (cond (Nat.blt k 17) mi_L_lowestHeight mi_L_lowestHeightByPaths)) (cond (Nat.blt k 19) mi_X8_writeDoor (cond (Nat.blt k 20) mi_J4_init_da8c8 mi_J4_append_bf812))))) (cond (Nat.blt k 32) (cond (Nat.blt k 26) (cond (Nat.blt k 23) (cond (Nat.blt k 22) mi_J4_append_15ec4 mi_J4_toString_0e30d) (cond (Nat.blt k 24) mi_L_isLine (cond (Nat.blt k 25) mi_X8_peaceHeight mi_X8_doorByWidth))) (cond (Nat.blt k 29) (cond (Nat.blt k 27) mi_L_holds (cond (Nat.blt k 28) mi_X8_isSafe mi_X8_isBroken)) (cond (Nat.blt k 30) mi_X8_writeConstraint (cond (Nat.blt k 31) mi_X8_kindOf mi_J4_append_cf468)))) (cond (Nat.blt k 37) (cond (Nat.blt k 34) (cond (Nat.blt k 33) mi_X8_gapOf mi_X8_constraintByGap) (cond (Nat.blt k 35) mi_X8_arePossible (cond (Nat.blt k 36) mi_L_peaceSum mi_L_peaceHeight))) (cond (Nat.blt k 40) (cond (Nat.blt k 38) mi_X8_isSettled (cond (Nat.blt k 39) mi_L_wouldChange mi_X8_fixedCount)) (cond (Nat.blt k 41) mi_X8_totalWidth (cond (Nat.blt k 42) mi_X8_totalFrameWidth mi_X8_meanWidth)))))) (cond (Nat.blt k 64) (cond (Nat.blt k 53) (cond (Nat.blt k 48) (cond (Nat.blt k 45) (cond (Nat.blt k 44) mi_X8_fixedShare mi_X8_isConsistent) (cond (Nat.blt k 46) mi_L_doorByWidth (cond (Nat.blt k 47) mi_L_constraintByGap mi_L_constraintAt))) (cond (Nat.blt k 50) (cond (Nat.blt k 49) mi_L_acts mi_X2_init) (cond (Nat.blt k 51) mi_X3_init (cond (Nat.blt k 52) mi_X0_init mi_X5_init)))) (cond (Nat.blt k 58) (cond (Nat.blt k 55) (cond (Nat.blt k 54) mi_X4_init mi_X6_init) (cond (Nat.blt k 56) mi_X7_init (cond (Nat.blt k 57) mi_L_some mi_L_addDoor))) (cond (Nat.blt k 61) (cond (Nat.blt k 59) mi_L_kind (cond (Nat.blt k 60) mi_L_addConstraint mi_X6_find)) (cond (Nat.blt k 62) mi_X8_checkDoor (cond (Nat.blt k 63) mi_X0_width mi_X0_isOneHeight))))) (cond (Nat.blt k 75) (cond (Nat.blt k 69) (cond (Nat.blt k 66) (cond (Nat.blt k 65) mi_X8_checkedPosition mi_X1_countWith) (cond (Nat.blt k 67) mi_X8_lowestHeight (cond (Nat.blt k 68) mi_X8_lowestHeightByPaths mi_J4_setLength_d00df))) (cond (Nat.blt k 72) (cond (Nat.blt k 70) mi_X2_differencesToFrame (cond (Nat.blt k 71) mi_J4_length_8abf5 mi_J5_init_d00df)) (cond (Nat.blt k 73) mi_J5_append_c97b9 (cond (Nat.blt k 74) mi_J5_append_cf1ce mi_J0_init_81219)))) (cond (Nat.blt k 80) (cond (Nat.blt k 77) (cond (Nat.blt k 76) mi_J0_length_8abf5 mi_X8_outputAt) (cond (Nat.blt k 78) mi_J0_charAt_5068e (cond (Nat.blt k 79) mi_X2_doorAtRank mi_X2_isAlwaysMet))) (cond (Nat.blt k 83) (cond (Nat.blt k 81) mi_X2_isNeverMet (cond (Nat.blt k 82) mi_J5_append_3fe6f mi_X1_positionAtRank)) (cond (Nat.blt k 84) mi_X8_isHeight (cond (Nat.blt k 85) mi_X0_copyFrom mi_X0_fix))))))) (cond (Nat.blt k 129) (cond (Nat.blt k 107) (cond (Nat.blt k 96) (cond (Nat.blt k 91) (cond (Nat.blt k 88) (cond (Nat.blt k 87) mi_X8_peaceSum mi_X8_changesOfTrialPass) (cond (Nat.blt k 89) mi_X8_wouldChange (cond (Nat.blt k 90) mi_X0_sumOfWidths mi_X8_settleTrialWithoutApart))) (cond (Nat.blt k 93) (cond (Nat.blt k 92) mi_X4_climb mi_X2_isInOrder) (cond (Nat.blt k 94) mi_L_setFrame (cond (Nat.blt k 95) mi_L_narrow mi_X8_reset)))) (cond (Nat.blt k 101) (cond (Nat.blt k 98) (cond (Nat.blt k 97) mi_L_removeConstraint mi_L_pass) (cond (Nat.blt k 99) mi_L_settle (cond (Nat.blt k 100) mi_X1_init mi_L_cell))) (cond (Nat.blt k 104) (cond (Nat.blt k 102) mi_X8_addDoor (cond (Nat.blt k 103) mi_X8_addConstraint mi_X6_chooseSides)) (cond (Nat.blt k 105) mi_X2_hasDoor (cond (Nat.blt k 106) mi_X1_positionOf mi_J5_setLength_d00df))))) (cond (Nat.blt k 118) (cond (Nat.blt k 112) (cond (Nat.blt k 109) (cond (Nat.blt k 108) mi_J5_length_8abf5 mi_J6_stringSize_0f7a4) (cond (Nat.blt k 110) mi_J5_ensureCapacityInternal_d00df (cond (Nat.blt k 111) mi_J5_isLatin1_aae02 mi_J6_getChars_ba4f3))) (cond (Nat.blt k 115) (cond (Nat.blt k 113) mi_J5_putStringAt_47b60 (cond (Nat.blt k 114) mi_J0_init_db425 mi_J0_coder_7d493)) (cond (Nat.blt k 116) mi_J4_charAt_5068e (cond (Nat.blt k 117) mi_J0_isLatin1_aae02 mi_J1_charAt_3b067)))) (cond (Nat.blt k 123) (cond (Nat.blt k 120) (cond (Nat.blt k 119) mi_X2_rankOf mi_J1_canEncode_fc78d) (cond (Nat.blt k 121) mi_X1_rankOf (cond (Nat.blt k 122) mi_X0_put mi_X5_begin))) (cond (Nat.blt k 126) (cond (Nat.blt k 124) mi_X5_makePass (cond (Nat.blt k 125) mi_X5_makePassesToTheEnd mi_X4_climbOnce)) (cond (Nat.blt k 127) mi_X0_isEmpty (cond (Nat.blt k 128) mi_X8_setFrame mi_X8_narrow)))))) (cond (Nat.blt k 151) (cond (Nat.blt k 140) (cond (Nat.blt k 134) (cond (Nat.blt k 131) (cond (Nat.blt k 130) mi_X3_prepare mi_X2_openAll) (cond (Nat.blt k 132) mi_X3_keep (cond (Nat.blt k 133) mi_X8_removeConstraint mi_X8_pass))) (cond (Nat.blt k 137) (cond (Nat.blt k 135) mi_X8_settle (cond (Nat.blt k 136) mi_X8_checkRange mi_X8_enterDoor)) (cond (Nat.blt k 138) mi_X8_isConstraint (cond (Nat.blt k 139) mi_X8_enterConstraint mi_X6_isBetter)))) (cond (Nat.blt k 145) (cond (Nat.blt k 142) (cond (Nat.blt k 141) mi_X6_tooNear mi_J5_newCapacity_0f7a4) (cond (Nat.blt k 143) mi_J7_copyOf_9075b (cond (Nat.blt k 144) mi_J5_inflateIfNeededFor_a7421 mi_J0_getBytes_840e7))) (cond (Nat.blt k 148) (cond (Nat.blt k 146) mi_J5_getValue_6d5f1 (cond (Nat.blt k 147) mi_J7_copyOfRange_39247 mi_J5_charAt_5068e)) (cond (Nat.blt k 149) mi_J0_checkIndex_df160 (cond (Nat.blt k 150) mi_X2_isAhead mi_X5_takeSteps))))) (cond (Nat.blt k 162) (cond (Nat.blt k 156) (cond (Nat.blt k 153) (cond (Nat.blt k 152) mi_X4_climbAlong mi_X8_changeFrame) (cond (Nat.blt k 154) mi_X8_narrowDoor (cond (Nat.blt k 155) mi_X2_copyFrom mi_X8_takeConstraintAway))) (cond (Nat.blt k 159) (cond (Nat.blt k 157) mi_X8_passOnce (cond (Nat.blt k 158) mi_X8_passUntilSettled mi_X8_isRange)) (cond (Nat.blt k 160) mi_X8_reject (cond (Nat.blt k 161) mi_X1_positionOfSame mi_X1_append)))) (cond (Nat.blt k 167) (cond (Nat.blt k 164) (cond (Nat.blt k 163) mi_J8_newLength_cabcc mi_J7_copyOfRangeByte_39247) (cond (Nat.blt k 165) mi_J3_checkIndex_8e157 (cond (Nat.blt k 166) mi_X5_keepOff mi_X5_raiseLow))) (cond (Nat.blt k 170) (cond (Nat.blt k 168) mi_X5_sinkHigh (cond (Nat.blt k 169) mi_X4_raise mi_X1_copyFrom)) (cond (Nat.blt k 171) mi_X1_takeOut (cond (Nat.blt k 172) mi_X8_takeOverTrial mi_J7_checkLength_df160))))))))
/-- a method's class, by number -/
def mo (k : Nat) : Nat := (cond (Nat.blt k 86) (cond (Nat.blt k 43) (cond (Nat.blt k 21) (cond (Nat.blt k 10) (cond (Nat.blt k 5) (cond (Nat.blt k 2) (cond (Nat.blt k 1) 12 8) (cond (Nat.blt k 3) 12 (cond (Nat.blt k 4) 8 8))) (cond (Nat.blt k 7) (cond (Nat.blt k 6) 8 8) (cond (Nat.blt k 8) 8 (cond (Nat.blt k 9) 8 8)))) (cond (Nat.blt k 15) (cond (Nat.blt k 12) (cond (Nat.blt k 11) 8 8) (cond (Nat.blt k 13) 8 (cond (Nat.blt k 14) 8 8))) (cond (Nat.blt k 18) (cond (Nat.blt k 16) 8 (cond (Nat.blt k 17) 12 12)) (cond (Nat.blt k 19) 8 (cond (Nat.blt k 20) 10 10))))) (cond (Nat.blt k 32) (cond (Nat.blt k 26) (cond (Nat.blt k 23) (cond (Nat.blt k 22) 10 10) (cond (Nat.blt k 24) 12 (cond (Nat.blt k 25) 8 8))) (cond (Nat.blt k 29) (cond (Nat.blt k 27) 12 (cond (Nat.blt k 28) 8 8)) (cond (Nat.blt k 30) 8 (cond (Nat.blt k 31) 8 10)))) (cond (Nat.blt k 37) (cond (Nat.blt k 34) (cond (Nat.blt k 33) 8 8) (cond (Nat.blt k 35) 8 (cond (Nat.blt k 36) 12 12))) (cond (Nat.blt k 40) (cond (Nat.blt k 38) 8 (cond (Nat.blt k 39) 12 8)) (cond (Nat.blt k 41) 8 (cond (Nat.blt k 42) 8 8)))))) (cond (Nat.blt k 64) (cond (Nat.blt k 53) (cond (Nat.blt k 48) (cond (Nat.blt k 45) (cond (Nat.blt k 44) 8 8) (cond (Nat.blt k 46) 12 (cond (Nat.blt k 47) 12 12))) (cond (Nat.blt k 50) (cond (Nat.blt k 49) 12 2) (cond (Nat.blt k 51) 3 (cond (Nat.blt k 52) 0 5)))) (cond (Nat.blt k 58) (cond (Nat.blt k 55) (cond (Nat.blt k 54) 4 6) (cond (Nat.blt k 56) 7 (cond (Nat.blt k 57) 12 12))) (cond (Nat.blt k 61) (cond (Nat.blt k 59) 12 (cond (Nat.blt k 60) 12 6)) (cond (Nat.blt k 62) 8 (cond (Nat.blt k 63) 0 0))))) (cond (Nat.blt k 75) (cond (Nat.blt k 69) (cond (Nat.blt k 66) (cond (Nat.blt k 65) 8 1) (cond (Nat.blt k 67) 8 (cond (Nat.blt k 68) 8 10))) (cond (Nat.blt k 72) (cond (Nat.blt k 70) 2 (cond (Nat.blt k 71) 10 13)) (cond (Nat.blt k 73) 13 (cond (Nat.blt k 74) 13 9)))) (cond (Nat.blt k 80) (cond (Nat.blt k 77) (cond (Nat.blt k 76) 9 8) (cond (Nat.blt k 78) 9 (cond (Nat.blt k 79) 2 2))) (cond (Nat.blt k 83) (cond (Nat.blt k 81) 2 (cond (Nat.blt k 82) 13 1)) (cond (Nat.blt k 84) 8 (cond (Nat.blt k 85) 0 0))))))) (cond (Nat.blt k 129) (cond (Nat.blt k 107) (cond (Nat.blt k 96) (cond (Nat.blt k 91) (cond (Nat.blt k 88) (cond (Nat.blt k 87) 8 8) (cond (Nat.blt k 89) 8 (cond (Nat.blt k 90) 0 8))) (cond (Nat.blt k 93) (cond (Nat.blt k 92) 4 2) (cond (Nat.blt k 94) 12 (cond (Nat.blt k 95) 12 8)))) (cond (Nat.blt k 101) (cond (Nat.blt k 98) (cond (Nat.blt k 97) 12 12) (cond (Nat.blt k 99) 12 (cond (Nat.blt k 100) 1 12))) (cond (Nat.blt k 104) (cond (Nat.blt k 102) 8 (cond (Nat.blt k 103) 8 6)) (cond (Nat.blt k 105) 2 (cond (Nat.blt k 106) 1 13))))) (cond (Nat.blt k 118) (cond (Nat.blt k 112) (cond (Nat.blt k 109) (cond (Nat.blt k 108) 13 14) (cond (Nat.blt k 110) 13 (cond (Nat.blt k 111) 13 14))) (cond (Nat.blt k 115) (cond (Nat.blt k 113) 13 (cond (Nat.blt k 114) 9 9)) (cond (Nat.blt k 116) 10 (cond (Nat.blt k 117) 9 15)))) (cond (Nat.blt k 123) (cond (Nat.blt k 120) (cond (Nat.blt k 119) 2 15) (cond (Nat.blt k 121) 1 (cond (Nat.blt k 122) 0 5))) (cond (Nat.blt k 126) (cond (Nat.blt k 124) 5 (cond (Nat.blt k 125) 5 4)) (cond (Nat.blt k 127) 0 (cond (Nat.blt k 128) 8 8)))))) (cond (Nat.blt k 151) (cond (Nat.blt k 140) (cond (Nat.blt k 134) (cond (Nat.blt k 131) (cond (Nat.blt k 130) 3 2) (cond (Nat.blt k 132) 3 (cond (Nat.blt k 133) 8 8))) (cond (Nat.blt k 137) (cond (Nat.blt k 135) 8 (cond (Nat.blt k 136) 8 8)) (cond (Nat.blt k 138) 8 (cond (Nat.blt k 139) 8 6)))) (cond (Nat.blt k 145) (cond (Nat.blt k 142) (cond (Nat.blt k 141) 6 13) (cond (Nat.blt k 143) 17 (cond (Nat.blt k 144) 13 9))) (cond (Nat.blt k 148) (cond (Nat.blt k 146) 13 (cond (Nat.blt k 147) 17 13)) (cond (Nat.blt k 149) 9 (cond (Nat.blt k 150) 2 5))))) (cond (Nat.blt k 162) (cond (Nat.blt k 156) (cond (Nat.blt k 153) (cond (Nat.blt k 152) 4 8) (cond (Nat.blt k 154) 8 (cond (Nat.blt k 155) 2 8))) (cond (Nat.blt k 159) (cond (Nat.blt k 157) 8 (cond (Nat.blt k 158) 8 8)) (cond (Nat.blt k 160) 8 (cond (Nat.blt k 161) 1 1)))) (cond (Nat.blt k 167) (cond (Nat.blt k 164) (cond (Nat.blt k 163) 18 17) (cond (Nat.blt k 165) 19 (cond (Nat.blt k 166) 5 5))) (cond (Nat.blt k 170) (cond (Nat.blt k 168) 5 (cond (Nat.blt k 169) 4 1)) (cond (Nat.blt k 171) 1 (cond (Nat.blt k 172) 8 17))))))))
def mpT : List (Nat × Nat × Nat) := [(1, 1036, 1001), (2, 5123, 1000), (3, 2087, 1001), (4, 2210, 1001), (5, 3078, 1001), (6, 2091, 1001), (7, 2174, 1001), (8, 2178, 1001), (9, 2182, 1001), (10, 2186, 1001), (11, 2194, 1001), (12, 2214, 1001), (13, 3007, 1001), (14, 3011, 1001), (15, 2202, 1001), (16, 5088, 1000), (17, 5099, 1000), (18, 4006, 1001), (19, 1227, 1010), (20, 4143, 1010), (21, 4025, 1010), (22, 4168, 1010), (23, 6064, 1000), (24, 3118, 1001), (25, 3154, 1001), (26, 6060, 1000), (27, 3019, 1001), (28, 3027, 1001), (29, 5073, 1001), (30, 2234, 1001), (31, 5044, 1010), (32, 3015, 1001), (33, 3172, 1001), (34, 3123, 1001), (35, 5110, 1000), (36, 5107, 1000), (37, 3035, 1001), (38, 5080, 1000), (39, 3184, 1001), (40, 3188, 1001), (41, 3197, 1001), (42, 3201, 1001), (43, 3222, 1001), (44, 3227, 1001), (45, 5117, 1000), (46, 5120, 1000), (47, 5076, 1000), (48, 5218, 1000), (49, 1044, 1002), (50, 1152, 1005), (51, 1050, 1003), (52, 1173, 1006), (53, 1192, 1007), (54, 1208, 1008), (55, 2020, 1013), (56, 5126, 1000), (57, 5132, 1000), (58, 5191, 1000), (59, 5194, 1000), (60, 3082, 1008), (61, 2095, 1001), (62, 2190, 1003), (63, 2198, 1003), (64, 2238, 1001), (65, 2206, 1004), (66, 5095, 1001), (67, 5103, 1001), (68, 4010, 1010), (69, 5068, 1002), (70, 4188, 1010), (71, 1230, 1009), (72, 4146, 1009), (73, 4028, 1009), (74, 4173, 1011), (75, 4100, 1011), (76, 6069, 1001), (77, 6084, 1011), (78, 3158, 1002), (79, 3023, 1002), (80, 3031, 1002), (81, 5047, 1009), (82, 3176, 1004), (83, 3126, 1001), (84, 3043, 1003), (85, 3146, 1003), (86, 5114, 1001), (87, 3039, 1001), (88, 5084, 1001), (89, 3192, 1003), (90, 3231, 1001), (91, 3089, 1007), (92, 4001, 1002), (93, 5223, 1000), (94, 5239, 1000), (95, 6014, 1001), (96, 6017, 1000), (97, 6032, 1000), (98, 6048, 1000), (99, 1072, 1004), (100, 5129, 1000), (101, 5138, 1001), (102, 5198, 1001), (103, 3085, 1008), (104, 2099, 1002), (105, 3002, 1004), (106, 4013, 1009), (107, 4190, 1009), (108, 4149, 1030), (109, 4036, 1009), (110, 4070, 1009), (111, 4152, 1030), (112, 4109, 1009), (113, 4176, 1011), (114, 4104, 1011), (115, 6074, 1010), (116, 6088, 1011), (117, 6091, 1028), (118, 3162, 1002), (119, 5050, 1028), (120, 3180, 1004), (121, 3150, 1003), (122, 3050, 1006), (123, 3054, 1006), (124, 3235, 1006), (125, 3094, 1007), (126, 3074, 1003), (127, 5227, 1001), (128, 6003, 1001), (129, 5148, 1005), (130, 5235, 1002), (131, 5187, 1005), (132, 6021, 1001), (133, 6036, 1001), (134, 6052, 1001), (135, 5141, 1001), (136, 5162, 1001), (137, 5201, 1001), (138, 5206, 1001), (139, 3106, 1008), (140, 3110, 1008), (141, 4040, 1009), (142, 4054, 1026), (143, 4113, 1009), (144, 4137, 1011), (145, 4182, 1009), (146, 4194, 1026), (147, 6077, 1009), (148, 5059, 1011), (149, 3166, 1002), (150, 3058, 1006), (151, 3098, 1007), (152, 5231, 1001), (153, 6007, 1001), (154, 5152, 1002), (155, 6025, 1001), (156, 6040, 1001), (157, 6056, 1001), (158, 5144, 1001), (159, 5166, 1001), (160, 5210, 1004), (161, 5214, 1004), (162, 4043, 1025), (163, 4197, 1026), (164, 5062, 1027), (165, 3062, 1006), (166, 3066, 1006), (167, 3070, 1006), (168, 3102, 1007), (169, 5157, 1004), (170, 6029, 1004), (171, 6044, 1001), (172, 4200, 1026)]
def tS (own : Nat) : List (Nat × Nat × Nat × Nat × Nat) := match own with
  | 6 => [(26, 103, 5, 3083, 3084)]
  | 8 => [(72, 135, 2, 5139, 5140), (144, 137, 4, 5199, 5200), (239, 83, 1, 3124, 3125), (366, 158, 2, 5142, 5143)]
  | 9 => [(54, 146, 3, 4192, 4193), (495, 117, 2, 6089, 6090), (1059, 164, 3, 5060, 5061)]
  | 12 => [(7, 100, 2, 5127, 5128), (73, 56, 3, 5124, 5125), (77, 57, 3, 5130, 5131), (80, 58, 1, 5189, 5190), (84, 59, 5, 5192, 5193), (87, 48, 3, 5216, 5217), (105, 93, 4, 5221, 5222), (108, 94, 4, 5237, 5238), (113, 96, 2, 6015, 6016), (116, 97, 1, 6030, 6031), (119, 98, 1, 6046, 6047), (142, 2, 2, 5121, 5122), (178, 16, 2, 5086, 5087), (180, 17, 2, 5097, 5098), (209, 23, 3, 6062, 6063), (213, 26, 4, 6058, 6059), (237, 35, 1, 5108, 5109), (239, 36, 2, 5105, 5106), (244, 38, 1, 5078, 5079), (266, 45, 2, 5115, 5116), (268, 46, 2, 5118, 5119), (270, 47, 2, 5074, 5075)]
  | 13 => [(108, 142, 2, 4052, 4053), (114, 162, 3, 4041, 4042), (144, 148, 2, 6079, 5058), (191, 119, 1, 5048, 5049), (245, 108, 1, 4147, 4148), (248, 111, 3, 4150, 4151)]
  | 15 => [(9, 148, 2, 6092, 5058)]
  | 17 => [(339, 163, 3, 4195, 4196), (343, 172, 2, 4198, 4199)]
  | _ => []
def tV (own : Nat) : List (Nat × Nat × Nat × Nat × Nat × Nat × Nat) := match own with
  | 0 => [(24, 121, 4, 0, 3147, 3148, 3149), (28, 62, 2, 0, 3193, 2188, 2189)]
  | 1 => [(41, 120, 2, 1, 3177, 3179, 11015)]
  | 2 => [(32, 84, 2, 0, 5153, 3041, 3042), (36, 169, 2, 1, 5154, 5155, 5156), (52, 69, 2, 2, 5236, 5066, 5067), (56, 126, 2, 0, 4002, 3072, 3073), (73, 118, 2, 2, 3159, 3161, 11013), (76, 149, 3, 2, 3163, 3165, 11014), (80, 62, 2, 0, 3167, 2188, 2189), (83, 65, 2, 1, 3168, 2204, 2205)]
  | 3 => [(22, 154, 2, 2, 5149, 5150, 5151)]
  | 4 => [(29, 125, 2, 4, 3091, 3093, 11008), (42, 151, 3, 4, 3095, 3097, 11009), (59, 168, 3, 4, 3099, 3101, 11010)]
  | 5 => [(21, 123, 4, 5, 3236, 3052, 3053), (34, 150, 4, 5, 3055, 3057, 11004), (42, 126, 2, 0, 3071, 3072, 3073), (57, 165, 5, 5, 3059, 3061, 11005), (64, 166, 4, 5, 3063, 3065, 11006), (71, 167, 4, 5, 3067, 3069, 11007)]
  | 6 => [(30, 91, 4, 4, 3086, 3087, 3088), (34, 139, 2, 6, 3103, 3105, 11011), (38, 140, 2, 6, 3107, 3109, 11012)]
  | 8 => [(76, 129, 2, 3, 5145, 5146, 5147), (80, 136, 3, 8, 5159, 5161, 12001), (91, 131, 1, 3, 5184, 5185, 5186), (94, 61, 2, 8, 2092, 2094, 11000), (98, 152, 4, 8, 5228, 5230, 12004), (102, 153, 4, 8, 6004, 6006, 12005), (107, 130, 1, 2, 5232, 5233, 5234), (127, 62, 2, 0, 2187, 2188, 2189), (131, 63, 2, 0, 2195, 2196, 2197), (139, 65, 2, 1, 2203, 2204, 2205), (153, 138, 5, 8, 5203, 5205, 12003), (159, 64, 2, 8, 2235, 2237, 11002), (162, 155, 2, 8, 6022, 6024, 12006), (189, 79, 2, 2, 3020, 3021, 3022), (192, 80, 2, 2, 3028, 3029, 3030), (195, 156, 1, 8, 6037, 6039, 12007), (200, 157, 1, 8, 6053, 6055, 12009), (205, 87, 1, 8, 3036, 3038, 11003), (210, 90, 1, 8, 3228, 3230, 12000), (216, 91, 4, 4, 3237, 3087, 3088), (231, 60, 4, 6, 3079, 3080, 3081), (244, 84, 2, 0, 3040, 3041, 3042), (248, 85, 3, 0, 3143, 3144, 3145), (252, 78, 2, 2, 3155, 3156, 3157), (255, 82, 2, 1, 3173, 3174, 3175), (258, 89, 2, 0, 3189, 3190, 3191), (266, 40, 1, 8, 3218, 3186, 3187), (269, 39, 1, 8, 3223, 3182, 3183), (272, 92, 2, 2, 3238, 3239, 4000), (275, 68, 2, 10, 4007, 4008, 4009), (278, 20, 2, 10, 5040, 4141, 4142), (282, 31, 2, 10, 5041, 5042, 5043), (287, 21, 2, 10, 5064, 4023, 4024), (290, 69, 2, 2, 5065, 5066, 5067), (293, 70, 1, 10, 5069, 4187, 6120), (301, 115, 2, 10, 6071, 6072, 6073), (338, 159, 3, 8, 5163, 5165, 12002), (369, 104, 2, 2, 2096, 2097, 2098), (374, 105, 2, 1, 2239, 3000, 3001), (379, 121, 4, 0, 5167, 3148, 3149), (391, 160, 5, 1, 5207, 5208, 5209), (394, 161, 5, 1, 5211, 5212, 5213), (396, 170, 2, 1, 6026, 6027, 6028), (399, 122, 1, 5, 3047, 3048, 3049), (402, 123, 4, 5, 3051, 3052, 3053), (409, 171, 1, 8, 6041, 6043, 12008), (413, 124, 4, 5, 3232, 3233, 3234)]
  | 9 => [(335, 114, 1, 11, 4101, 4102, 4103), (492, 116, 1, 11, 6085, 6086, 6087), (552, 145, 1, 10, 4178, 4179, 4181), (1047, 110, 1, 10, 4191, 4067, 4069)]
  | 12 => [(13, 101, 3, 8, 5135, 5136, 5137), (23, 127, 4, 8, 5224, 5225, 5226), (29, 128, 4, 8, 6000, 6001, 6002), (32, 102, 5, 8, 5195, 5196, 5197), (36, 132, 2, 8, 6018, 6019, 6020), (42, 12, 2, 8, 2211, 2212, 2213), (45, 133, 1, 8, 6033, 6034, 6035), (49, 134, 1, 8, 6049, 6050, 6051), (52, 88, 1, 8, 5081, 5082, 5083), (55, 66, 2, 8, 5092, 5093, 5094), (58, 67, 2, 8, 5100, 5101, 5102), (61, 24, 2, 8, 3115, 3116, 3117), (64, 86, 1, 8, 5111, 5112, 5113), (67, 25, 2, 8, 3151, 3152, 3153), (70, 33, 2, 8, 3169, 3170, 3171), (91, 3, 1, 8, 2084, 2085, 2086), (94, 4, 1, 8, 2207, 2208, 2209), (110, 95, 1, 8, 6011, 6012, 6013), (121, 30, 2, 8, 2231, 2232, 2233), (124, 32, 2, 8, 3012, 3013, 3014), (130, 75, 1, 11, 6065, 4098, 4099), (135, 76, 2, 8, 6066, 6067, 6068), (138, 77, 2, 11, 6081, 6082, 6083), (146, 5, 1, 8, 3075, 3076, 3077), (150, 6, 2, 8, 2088, 2089, 2090), (153, 7, 2, 8, 2171, 2172, 2173), (156, 8, 2, 8, 2175, 2176, 2177), (159, 9, 2, 8, 2179, 2180, 2181), (162, 10, 2, 8, 2183, 2184, 2185), (165, 11, 2, 8, 2191, 2192, 2193), (169, 13, 2, 8, 3004, 3005, 3006), (172, 14, 2, 8, 3008, 3009, 3010), (175, 15, 2, 8, 2199, 2200, 2201), (182, 18, 2, 8, 4003, 4004, 4005), (188, 20, 2, 10, 6100, 4141, 4142), (194, 21, 2, 10, 6098, 4023, 4024), (201, 22, 1, 10, 6101, 4166, 4167), (217, 27, 2, 8, 3016, 3017, 3018), (220, 28, 2, 8, 3024, 3025, 3026), (223, 29, 2, 8, 5070, 5071, 5072), (228, 31, 2, 10, 6099, 5042, 5043), (233, 34, 5, 8, 3120, 3121, 3122), (241, 37, 1, 8, 3032, 3033, 3034), (246, 39, 1, 8, 3181, 3182, 3183), (249, 40, 1, 8, 3185, 3186, 3187), (252, 41, 1, 8, 3194, 3195, 3196), (255, 42, 1, 8, 3198, 3199, 3200), (259, 43, 1, 8, 3219, 3220, 3221), (263, 44, 1, 8, 3224, 3225, 3226)]
  | 13 => [(32, 75, 1, 11, 4097, 4098, 4099), (40, 114, 1, 11, 4114, 4102, 4103), (83, 110, 1, 10, 4066, 4067, 4069), (100, 109, 2, 10, 4033, 4035, 0), (104, 141, 2, 10, 4037, 4039, 1), (208, 112, 3, 10, 4106, 4108, 2), (397, 143, 2, 10, 4110, 4112, 3), (399, 144, 4, 11, 4134, 4135, 4136)]
  | 17 => [(50, 21, 2, 10, 4206, 4023, 4024), (54, 20, 2, 10, 4204, 4141, 4142), (61, 22, 1, 10, 4207, 4166, 4167)]
  | _ => []
def tI (own : Nat) : List (Nat × Nat × Nat × Nat × Nat) := match own with
  | 7 => [(11, 19, 1, 2023, 1226)]
  | 8 => [(18, 50, 1, 1150, 1151), (56, 19, 1, 1225, 1226)]
  | 9 => [(489, 113, 3, 4174, 4175)]
  | 10 => [(1, 71, 2, 1228, 1229), (137, 74, 2, 4171, 4172)]
  | 12 => [(141, 1, 1, 1034, 1035), (187, 19, 1, 6097, 1226)]
  | 17 => [(47, 19, 1, 4203, 1226)]
  | _ => []
def tN (own : Nat) : List (Nat × Nat × Nat × Nat × Nat) := match own with
  | 2 => [(11, 51, 1, 1048, 1049), (23, 99, 1, 1070, 1071)]
  | 3 => [(17, 49, 1, 1156, 1043)]
  | 6 => [(17, 53, 1, 1211, 1191)]
  | 8 => [(11, 49, 1, 1042, 1043), (28, 51, 1, 1168, 1049), (35, 52, 1, 1171, 1172), (42, 53, 1, 1190, 1191), (49, 54, 1, 1206, 1207), (63, 55, 1, 2018, 2019)]
  | _ => []
def tU (own : Nat) : List (Nat × Nat × Nat × Nat × Nat × Nat × Nat × Nat) := match own with
  | 10 => [(29, 73, 2, 10, 4026, 4027, 6111, 2014), (50, 81, 2, 10, 5045, 5046, 6119, 2014), (53, 72, 2, 10, 4144, 4145, 6118, 2014), (329, 147, 2, 10, 6075, 6076, 6121, 2014), (333, 106, 2, 10, 4011, 4012, 6110, 2014), (343, 107, 1, 10, 4189, 4184, 4185, 2014)]
  | _ => []
def tO (own : Nat) : List (Nat × Nat) := match own with
  | 0 => [(3, 1051)]
  | 1 => [(3, 1073)]
  | 2 => [(3, 1045)]
  | 3 => [(3, 1153)]
  | 4 => [(3, 1193)]
  | 5 => [(3, 1174)]
  | 6 => [(3, 1209)]
  | 7 => [(3, 2021)]
  | 8 => [(3, 1037)]
  | 9 => [(1, 4177)]
  | 13 => [(3, 1231)]
  | _ => []
def tC (own : Nat) : List (Nat × Nat) := match own with
  | 0 => [(18, 3044)]
  | 1 => [(35, 5158)]
  | 4 => [(23, 3090)]
  | 6 => [(45, 3114)]
  | 9 => [(212, 4138)]
  | 17 => [(150, 4065)]
  | _ => []
def tM3 (own : Nat) : List (Nat × Nat) := match own with
  | 8 => [(383, 6008)]
  | 12 => [(102, 5220)]
  | 18 => [(194, 4044)]
  | _ => []
def tM4 (own : Nat) : List (Nat × Nat) := match own with
  | 3 => [(29, 5188)]
  | 8 => [(388, 6009)]
  | 12 => [(97, 5219)]
  | 13 => [(138, 6078)]
  | 17 => [(304, 4062)]
  | _ => []
def tM5 (own : Nat) : List (Nat × Nat) := match own with
  | 6 => [(66, 3111)]
  | 12 => [(127, 6061)]
  | _ => []
def tF (own : Nat) : List (Nat × Nat × Nat × Nat) := match own with
  | 0 => [(9, 0, 0, 1052), (15, 0, 1, 1057)]
  | 1 => [(9, 1, 2, 1080), (15, 1, 3, 1083), (19, 1, 4, 1089), (22, 1, 5, 1095), (25, 1, 6, 1101), (28, 1, 0, 1074), (32, 1, 1, 1079)]
  | 2 => [(12, 2, 1, 1125), (18, 2, 2, 1127), (24, 2, 3, 1129), (28, 2, 0, 1123), (39, 2, 4, 1131), (42, 2, 5, 1133), (45, 0, 0, 1054), (49, 0, 1, 1059), (60, 1, 4, 1093), (63, 1, 5, 1099), (66, 1, 6, 1105), (69, 1, 3, 1087)]
  | 3 => [(13, 3, 2, 1159), (18, 3, 1, 1158), (26, 3, 0, 1157)]
  | 4 => [(9, 4, 0, 1194), (15, 4, 1, 1197), (18, 0, 0, 1053), (33, 0, 1, 1058), (36, 1, 0, 1075), (46, 1, 4, 1090), (49, 1, 5, 1096), (52, 1, 6, 1102), (55, 1, 3, 1085)]
  | 5 => [(9, 5, 0, 1175), (15, 5, 1, 1177), (18, 5, 2, 1179), (25, 1, 0, 1076), (30, 1, 3, 1084), (38, 1, 4, 1091), (48, 1, 5, 1097), (51, 1, 2, 1081), (54, 1, 6, 1103), (61, 0, 0, 1055), (68, 0, 1, 1060)]
  | 6 => [(9, 6, 0, 1212), (18, 6, 2, 1215), (22, 6, 1, 1214), (42, 4, 0, 1195), (51, 4, 1, 1198), (54, 1, 0, 1077), (60, 1, 4, 1092), (63, 1, 5, 1098), (72, 1, 3, 1086), (76, 1, 6, 1104)]
  | 7 => [(12, 7, 0, 2026), (18, 7, 3, 2027), (22, 7, 4, 2028), (28, 7, 5, 2029)]
  | 8 => [(12, 8, 0, 2043), (19, 8, 1, 2044), (23, 8, 2, 2045), (29, 8, 4, 2046), (36, 8, 5, 2047), (43, 8, 6, 2048), (50, 8, 7, 2049), (57, 8, 8, 2050), (64, 8, 9, 2051), (68, 8, 10, 2052), (111, 2, 0, 1124), (114, 2, 2, 1128), (117, 0, 0, 1056), (121, 0, 1, 1061), (124, 2, 1, 1126), (135, 2, 3, 1130), (165, 1, 0, 1078), (173, 1, 2, 1082), (176, 1, 3, 1088), (180, 1, 4, 1094), (183, 1, 5, 1100), (186, 1, 6, 1106), (222, 4, 0, 1196), (225, 2, 4, 1132), (228, 2, 5, 1134), (236, 6, 0, 1213), (332, 8, 11, 2053), (347, 8, 12, 2054), (406, 5, 2, 1180), (412, 5, 1, 1178), (416, 5, 0, 1176)]
  | 9 => [(9, 11, 0, 4222), (15, 11, 1, 4223), (1048, 10, 2, 2004)]
  | 13 => [(15, 10, 0, 2001), (22, 10, 1, 2002), (73, 10, 2, 2003), (79, 10, 3, 2005)]
  | _ => []
def tW (own : Nat) : List (Nat × Nat × Nat × Nat × Nat × Nat) := match own with
  | 2 => [(9, 0, 2, 1046, 1047, 1003), (21, 1, 7, 1068, 1069, 1004)]
  | 3 => [(11, 2, 6, 1154, 1041, 1002)]
  | 6 => [(15, 4, 2, 1210, 1189, 1007)]
  | 7 => [(9, 10, 4, 2022, 1224, 1010)]
  | 8 => [(9, 2, 6, 1040, 1041, 1002), (16, 3, 3, 1148, 1149, 1005), (26, 0, 2, 1167, 1047, 1003), (33, 5, 3, 1169, 1170, 1006), (40, 4, 2, 1188, 1189, 1007), (47, 6, 3, 1204, 1205, 1008), (54, 10, 4, 1223, 1224, 1010), (61, 7, 6, 2016, 2017, 1013)]
  | 10 => [(18, 11, 4, 4169, 4170, 1011)]
  | 12 => [(14, 8, 14, 1032, 1033, 1001), (185, 10, 4, 6096, 1224, 1010)]
  | 17 => [(45, 10, 4, 4202, 1224, 1010)]
  | _ => []
def tA (own : Nat) : List (Nat × Nat) := match own with
  | 3 => [(11, 1154)]
  | _ => []
def tMA (own : Nat) : List (Nat × Nat) := match own with
  | 7 => [(26, 2024)]
  | _ => []
def tKI (own : Nat) : List (Nat × Int32 × Nat) := match own with
  | 13 => [(39, 2147483647, 4051)]
  | 18 => [(200, 2147483639, 4047)]
  | _ => []
def tKL (own : Nat) : List (Nat × Int × Nat) := match own with
  | _ => []
def tGS (own : Nat) : List (Nat × Nat × Nat) := match own with
  | 9 => [(38, 0, 4105), (1053, 3, 4083)]
  | 13 => [(18, 0, 1232)]
  | 14 => [(83, 2, 4153), (87, 1, 4155)]
  | _ => []
set_option maxRecDepth 100000
def Pm (q : MIT) : Prop := mword q ∈ lw_tb ∨ q.1.name = "law"
theorem mw_L_law : Pm mi_L_law := Or.inr rfl
theorem mw_X8_init : Pm mi_X8_init := Or.inl (tbg_mem (n := 1036) rfl)
theorem mw_L_build : Pm mi_L_build := Or.inl (tbg_mem (n := 5123) rfl)
theorem mw_X8_doorCount : Pm mi_X8_doorCount := Or.inl (tbg_mem (n := 2087) rfl)
theorem mw_X8_constraintCount : Pm mi_X8_constraintCount := Or.inl (tbg_mem (n := 2210) rfl)
theorem mw_X8_hasPeace : Pm mi_X8_hasPeace := Or.inl (tbg_mem (n := 3078) rfl)
theorem mw_X8_lowOf : Pm mi_X8_lowOf := Or.inl (tbg_mem (n := 2091) rfl)
theorem mw_X8_highOf : Pm mi_X8_highOf := Or.inl (tbg_mem (n := 2174) rfl)
theorem mw_X8_frameLow : Pm mi_X8_frameLow := Or.inl (tbg_mem (n := 2178) rfl)
theorem mw_X8_frameHigh : Pm mi_X8_frameHigh := Or.inl (tbg_mem (n := 2182) rfl)
theorem mw_X8_widthOf : Pm mi_X8_widthOf := Or.inl (tbg_mem (n := 2186) rfl)
theorem mw_X8_isFixed : Pm mi_X8_isFixed := Or.inl (tbg_mem (n := 2194) rfl)
theorem mw_X8_constraintAt : Pm mi_X8_constraintAt := Or.inl (tbg_mem (n := 2214) rfl)
theorem mw_X8_firstOf : Pm mi_X8_firstOf := Or.inl (tbg_mem (n := 3007) rfl)
theorem mw_X8_secondOf : Pm mi_X8_secondOf := Or.inl (tbg_mem (n := 3011) rfl)
theorem mw_X8_constraintsOf : Pm mi_X8_constraintsOf := Or.inl (tbg_mem (n := 2202) rfl)
theorem mw_L_lowestHeight : Pm mi_L_lowestHeight := Or.inl (tbg_mem (n := 5088) rfl)
theorem mw_L_lowestHeightByPaths : Pm mi_L_lowestHeightByPaths := Or.inl (tbg_mem (n := 5099) rfl)
theorem mw_X8_writeDoor : Pm mi_X8_writeDoor := Or.inl (tbg_mem (n := 4006) rfl)
theorem mw_J4_init_da8c8 : Pm mi_J4_init_da8c8 := Or.inl (tbg_mem (n := 1227) rfl)
theorem mw_J4_append_bf812 : Pm mi_J4_append_bf812 := Or.inl (tbg_mem (n := 4143) rfl)
theorem mw_J4_append_15ec4 : Pm mi_J4_append_15ec4 := Or.inl (tbg_mem (n := 4025) rfl)
theorem mw_J4_toString_0e30d : Pm mi_J4_toString_0e30d := Or.inl (tbg_mem (n := 4168) rfl)
theorem mw_L_isLine : Pm mi_L_isLine := Or.inl (tbg_mem (n := 6064) rfl)
theorem mw_X8_peaceHeight : Pm mi_X8_peaceHeight := Or.inl (tbg_mem (n := 3118) rfl)
theorem mw_X8_doorByWidth : Pm mi_X8_doorByWidth := Or.inl (tbg_mem (n := 3154) rfl)
theorem mw_L_holds : Pm mi_L_holds := Or.inl (tbg_mem (n := 6060) rfl)
theorem mw_X8_isSafe : Pm mi_X8_isSafe := Or.inl (tbg_mem (n := 3019) rfl)
theorem mw_X8_isBroken : Pm mi_X8_isBroken := Or.inl (tbg_mem (n := 3027) rfl)
theorem mw_X8_writeConstraint : Pm mi_X8_writeConstraint := Or.inl (tbg_mem (n := 5073) rfl)
theorem mw_X8_kindOf : Pm mi_X8_kindOf := Or.inl (tbg_mem (n := 2234) rfl)
theorem mw_J4_append_cf468 : Pm mi_J4_append_cf468 := Or.inl (tbg_mem (n := 5044) rfl)
theorem mw_X8_gapOf : Pm mi_X8_gapOf := Or.inl (tbg_mem (n := 3015) rfl)
theorem mw_X8_constraintByGap : Pm mi_X8_constraintByGap := Or.inl (tbg_mem (n := 3172) rfl)
theorem mw_X8_arePossible : Pm mi_X8_arePossible := Or.inl (tbg_mem (n := 3123) rfl)
theorem mw_L_peaceSum : Pm mi_L_peaceSum := Or.inl (tbg_mem (n := 5110) rfl)
theorem mw_L_peaceHeight : Pm mi_L_peaceHeight := Or.inl (tbg_mem (n := 5107) rfl)
theorem mw_X8_isSettled : Pm mi_X8_isSettled := Or.inl (tbg_mem (n := 3035) rfl)
theorem mw_L_wouldChange : Pm mi_L_wouldChange := Or.inl (tbg_mem (n := 5080) rfl)
theorem mw_X8_fixedCount : Pm mi_X8_fixedCount := Or.inl (tbg_mem (n := 3184) rfl)
theorem mw_X8_totalWidth : Pm mi_X8_totalWidth := Or.inl (tbg_mem (n := 3188) rfl)
theorem mw_X8_totalFrameWidth : Pm mi_X8_totalFrameWidth := Or.inl (tbg_mem (n := 3197) rfl)
theorem mw_X8_meanWidth : Pm mi_X8_meanWidth := Or.inl (tbg_mem (n := 3201) rfl)
theorem mw_X8_fixedShare : Pm mi_X8_fixedShare := Or.inl (tbg_mem (n := 3222) rfl)
theorem mw_X8_isConsistent : Pm mi_X8_isConsistent := Or.inl (tbg_mem (n := 3227) rfl)
theorem mw_L_doorByWidth : Pm mi_L_doorByWidth := Or.inl (tbg_mem (n := 5117) rfl)
theorem mw_L_constraintByGap : Pm mi_L_constraintByGap := Or.inl (tbg_mem (n := 5120) rfl)
theorem mw_L_constraintAt : Pm mi_L_constraintAt := Or.inl (tbg_mem (n := 5076) rfl)
theorem mw_L_acts : Pm mi_L_acts := Or.inl (tbg_mem (n := 5218) rfl)
theorem mw_X2_init : Pm mi_X2_init := Or.inl (tbg_mem (n := 1044) rfl)
theorem mw_X3_init : Pm mi_X3_init := Or.inl (tbg_mem (n := 1152) rfl)
theorem mw_X0_init : Pm mi_X0_init := Or.inl (tbg_mem (n := 1050) rfl)
theorem mw_X5_init : Pm mi_X5_init := Or.inl (tbg_mem (n := 1173) rfl)
theorem mw_X4_init : Pm mi_X4_init := Or.inl (tbg_mem (n := 1192) rfl)
theorem mw_X6_init : Pm mi_X6_init := Or.inl (tbg_mem (n := 1208) rfl)
theorem mw_X7_init : Pm mi_X7_init := Or.inl (tbg_mem (n := 2020) rfl)
theorem mw_L_some : Pm mi_L_some := Or.inl (tbg_mem (n := 5126) rfl)
theorem mw_L_addDoor : Pm mi_L_addDoor := Or.inl (tbg_mem (n := 5132) rfl)
theorem mw_L_kind : Pm mi_L_kind := Or.inl (tbg_mem (n := 5191) rfl)
theorem mw_L_addConstraint : Pm mi_L_addConstraint := Or.inl (tbg_mem (n := 5194) rfl)
theorem mw_X6_find : Pm mi_X6_find := Or.inl (tbg_mem (n := 3082) rfl)
theorem mw_X8_checkDoor : Pm mi_X8_checkDoor := Or.inl (tbg_mem (n := 2095) rfl)
theorem mw_X0_width : Pm mi_X0_width := Or.inl (tbg_mem (n := 2190) rfl)
theorem mw_X0_isOneHeight : Pm mi_X0_isOneHeight := Or.inl (tbg_mem (n := 2198) rfl)
theorem mw_X8_checkedPosition : Pm mi_X8_checkedPosition := Or.inl (tbg_mem (n := 2238) rfl)
theorem mw_X1_countWith : Pm mi_X1_countWith := Or.inl (tbg_mem (n := 2206) rfl)
theorem mw_X8_lowestHeight : Pm mi_X8_lowestHeight := Or.inl (tbg_mem (n := 5095) rfl)
theorem mw_X8_lowestHeightByPaths : Pm mi_X8_lowestHeightByPaths := Or.inl (tbg_mem (n := 5103) rfl)
theorem mw_J4_setLength_d00df : Pm mi_J4_setLength_d00df := Or.inl (tbg_mem (n := 4010) rfl)
theorem mw_X2_differencesToFrame : Pm mi_X2_differencesToFrame := Or.inl (tbg_mem (n := 5068) rfl)
theorem mw_J4_length_8abf5 : Pm mi_J4_length_8abf5 := Or.inl (tbg_mem (n := 4188) rfl)
theorem mw_J5_init_d00df : Pm mi_J5_init_d00df := Or.inl (tbg_mem (n := 1230) rfl)
theorem mw_J5_append_c97b9 : Pm mi_J5_append_c97b9 := Or.inl (tbg_mem (n := 4146) rfl)
theorem mw_J5_append_cf1ce : Pm mi_J5_append_cf1ce := Or.inl (tbg_mem (n := 4028) rfl)
theorem mw_J0_init_81219 : Pm mi_J0_init_81219 := Or.inl (tbg_mem (n := 4173) rfl)
theorem mw_J0_length_8abf5 : Pm mi_J0_length_8abf5 := Or.inl (tbg_mem (n := 4100) rfl)
theorem mw_X8_outputAt : Pm mi_X8_outputAt := Or.inl (tbg_mem (n := 6069) rfl)
theorem mw_J0_charAt_5068e : Pm mi_J0_charAt_5068e := Or.inl (tbg_mem (n := 6084) rfl)
theorem mw_X2_doorAtRank : Pm mi_X2_doorAtRank := Or.inl (tbg_mem (n := 3158) rfl)
theorem mw_X2_isAlwaysMet : Pm mi_X2_isAlwaysMet := Or.inl (tbg_mem (n := 3023) rfl)
theorem mw_X2_isNeverMet : Pm mi_X2_isNeverMet := Or.inl (tbg_mem (n := 3031) rfl)
theorem mw_J5_append_3fe6f : Pm mi_J5_append_3fe6f := Or.inl (tbg_mem (n := 5047) rfl)
theorem mw_X1_positionAtRank : Pm mi_X1_positionAtRank := Or.inl (tbg_mem (n := 3176) rfl)
theorem mw_X8_isHeight : Pm mi_X8_isHeight := Or.inl (tbg_mem (n := 3126) rfl)
theorem mw_X0_copyFrom : Pm mi_X0_copyFrom := Or.inl (tbg_mem (n := 3043) rfl)
theorem mw_X0_fix : Pm mi_X0_fix := Or.inl (tbg_mem (n := 3146) rfl)
theorem mw_X8_peaceSum : Pm mi_X8_peaceSum := Or.inl (tbg_mem (n := 5114) rfl)
theorem mw_X8_changesOfTrialPass : Pm mi_X8_changesOfTrialPass := Or.inl (tbg_mem (n := 3039) rfl)
theorem mw_X8_wouldChange : Pm mi_X8_wouldChange := Or.inl (tbg_mem (n := 5084) rfl)
theorem mw_X0_sumOfWidths : Pm mi_X0_sumOfWidths := Or.inl (tbg_mem (n := 3192) rfl)
theorem mw_X8_settleTrialWithoutApart : Pm mi_X8_settleTrialWithoutApart := Or.inl (tbg_mem (n := 3231) rfl)
theorem mw_X4_climb : Pm mi_X4_climb := Or.inl (tbg_mem (n := 3089) rfl)
theorem mw_X2_isInOrder : Pm mi_X2_isInOrder := Or.inl (tbg_mem (n := 4001) rfl)
theorem mw_L_setFrame : Pm mi_L_setFrame := Or.inl (tbg_mem (n := 5223) rfl)
theorem mw_L_narrow : Pm mi_L_narrow := Or.inl (tbg_mem (n := 5239) rfl)
theorem mw_X8_reset : Pm mi_X8_reset := Or.inl (tbg_mem (n := 6014) rfl)
theorem mw_L_removeConstraint : Pm mi_L_removeConstraint := Or.inl (tbg_mem (n := 6017) rfl)
theorem mw_L_pass : Pm mi_L_pass := Or.inl (tbg_mem (n := 6032) rfl)
theorem mw_L_settle : Pm mi_L_settle := Or.inl (tbg_mem (n := 6048) rfl)
theorem mw_X1_init : Pm mi_X1_init := Or.inl (tbg_mem (n := 1072) rfl)
theorem mw_L_cell : Pm mi_L_cell := Or.inl (tbg_mem (n := 5129) rfl)
theorem mw_X8_addDoor : Pm mi_X8_addDoor := Or.inl (tbg_mem (n := 5138) rfl)
theorem mw_X8_addConstraint : Pm mi_X8_addConstraint := Or.inl (tbg_mem (n := 5198) rfl)
theorem mw_X6_chooseSides : Pm mi_X6_chooseSides := Or.inl (tbg_mem (n := 3085) rfl)
theorem mw_X2_hasDoor : Pm mi_X2_hasDoor := Or.inl (tbg_mem (n := 2099) rfl)
theorem mw_X1_positionOf : Pm mi_X1_positionOf := Or.inl (tbg_mem (n := 3002) rfl)
theorem mw_J5_setLength_d00df : Pm mi_J5_setLength_d00df := Or.inl (tbg_mem (n := 4013) rfl)
theorem mw_J5_length_8abf5 : Pm mi_J5_length_8abf5 := Or.inl (tbg_mem (n := 4190) rfl)
theorem mw_J6_stringSize_0f7a4 : Pm mi_J6_stringSize_0f7a4 := Or.inl (tbg_mem (n := 4149) rfl)
theorem mw_J5_ensureCapacityInternal_d00df : Pm mi_J5_ensureCapacityInternal_d00df := Or.inl (tbg_mem (n := 4036) rfl)
theorem mw_J5_isLatin1_aae02 : Pm mi_J5_isLatin1_aae02 := Or.inl (tbg_mem (n := 4070) rfl)
theorem mw_J6_getChars_ba4f3 : Pm mi_J6_getChars_ba4f3 := Or.inl (tbg_mem (n := 4152) rfl)
theorem mw_J5_putStringAt_47b60 : Pm mi_J5_putStringAt_47b60 := Or.inl (tbg_mem (n := 4109) rfl)
theorem mw_J0_init_db425 : Pm mi_J0_init_db425 := Or.inl (tbg_mem (n := 4176) rfl)
theorem mw_J0_coder_7d493 : Pm mi_J0_coder_7d493 := Or.inl (tbg_mem (n := 4104) rfl)
theorem mw_J4_charAt_5068e : Pm mi_J4_charAt_5068e := Or.inl (tbg_mem (n := 6074) rfl)
theorem mw_J0_isLatin1_aae02 : Pm mi_J0_isLatin1_aae02 := Or.inl (tbg_mem (n := 6088) rfl)
theorem mw_J1_charAt_3b067 : Pm mi_J1_charAt_3b067 := Or.inl (tbg_mem (n := 6091) rfl)
theorem mw_X2_rankOf : Pm mi_X2_rankOf := Or.inl (tbg_mem (n := 3162) rfl)
theorem mw_J1_canEncode_fc78d : Pm mi_J1_canEncode_fc78d := Or.inl (tbg_mem (n := 5050) rfl)
theorem mw_X1_rankOf : Pm mi_X1_rankOf := Or.inl (tbg_mem (n := 3180) rfl)
theorem mw_X0_put : Pm mi_X0_put := Or.inl (tbg_mem (n := 3150) rfl)
theorem mw_X5_begin : Pm mi_X5_begin := Or.inl (tbg_mem (n := 3050) rfl)
theorem mw_X5_makePass : Pm mi_X5_makePass := Or.inl (tbg_mem (n := 3054) rfl)
theorem mw_X5_makePassesToTheEnd : Pm mi_X5_makePassesToTheEnd := Or.inl (tbg_mem (n := 3235) rfl)
theorem mw_X4_climbOnce : Pm mi_X4_climbOnce := Or.inl (tbg_mem (n := 3094) rfl)
theorem mw_X0_isEmpty : Pm mi_X0_isEmpty := Or.inl (tbg_mem (n := 3074) rfl)
theorem mw_X8_setFrame : Pm mi_X8_setFrame := Or.inl (tbg_mem (n := 5227) rfl)
theorem mw_X8_narrow : Pm mi_X8_narrow := Or.inl (tbg_mem (n := 6003) rfl)
theorem mw_X3_prepare : Pm mi_X3_prepare := Or.inl (tbg_mem (n := 5148) rfl)
theorem mw_X2_openAll : Pm mi_X2_openAll := Or.inl (tbg_mem (n := 5235) rfl)
theorem mw_X3_keep : Pm mi_X3_keep := Or.inl (tbg_mem (n := 5187) rfl)
theorem mw_X8_removeConstraint : Pm mi_X8_removeConstraint := Or.inl (tbg_mem (n := 6021) rfl)
theorem mw_X8_pass : Pm mi_X8_pass := Or.inl (tbg_mem (n := 6036) rfl)
theorem mw_X8_settle : Pm mi_X8_settle := Or.inl (tbg_mem (n := 6052) rfl)
theorem mw_X8_checkRange : Pm mi_X8_checkRange := Or.inl (tbg_mem (n := 5141) rfl)
theorem mw_X8_enterDoor : Pm mi_X8_enterDoor := Or.inl (tbg_mem (n := 5162) rfl)
theorem mw_X8_isConstraint : Pm mi_X8_isConstraint := Or.inl (tbg_mem (n := 5201) rfl)
theorem mw_X8_enterConstraint : Pm mi_X8_enterConstraint := Or.inl (tbg_mem (n := 5206) rfl)
theorem mw_X6_isBetter : Pm mi_X6_isBetter := Or.inl (tbg_mem (n := 3106) rfl)
theorem mw_X6_tooNear : Pm mi_X6_tooNear := Or.inl (tbg_mem (n := 3110) rfl)
theorem mw_J5_newCapacity_0f7a4 : Pm mi_J5_newCapacity_0f7a4 := Or.inl (tbg_mem (n := 4040) rfl)
theorem mw_J7_copyOf_9075b : Pm mi_J7_copyOf_9075b := Or.inl (tbg_mem (n := 4054) rfl)
theorem mw_J5_inflateIfNeededFor_a7421 : Pm mi_J5_inflateIfNeededFor_a7421 := Or.inl (tbg_mem (n := 4113) rfl)
theorem mw_J0_getBytes_840e7 : Pm mi_J0_getBytes_840e7 := Or.inl (tbg_mem (n := 4137) rfl)
theorem mw_J5_getValue_6d5f1 : Pm mi_J5_getValue_6d5f1 := Or.inl (tbg_mem (n := 4182) rfl)
theorem mw_J7_copyOfRange_39247 : Pm mi_J7_copyOfRange_39247 := Or.inl (tbg_mem (n := 4194) rfl)
theorem mw_J5_charAt_5068e : Pm mi_J5_charAt_5068e := Or.inl (tbg_mem (n := 6077) rfl)
theorem mw_J0_checkIndex_df160 : Pm mi_J0_checkIndex_df160 := Or.inl (tbg_mem (n := 5059) rfl)
theorem mw_X2_isAhead : Pm mi_X2_isAhead := Or.inl (tbg_mem (n := 3166) rfl)
theorem mw_X5_takeSteps : Pm mi_X5_takeSteps := Or.inl (tbg_mem (n := 3058) rfl)
theorem mw_X4_climbAlong : Pm mi_X4_climbAlong := Or.inl (tbg_mem (n := 3098) rfl)
theorem mw_X8_changeFrame : Pm mi_X8_changeFrame := Or.inl (tbg_mem (n := 5231) rfl)
theorem mw_X8_narrowDoor : Pm mi_X8_narrowDoor := Or.inl (tbg_mem (n := 6007) rfl)
theorem mw_X2_copyFrom : Pm mi_X2_copyFrom := Or.inl (tbg_mem (n := 5152) rfl)
theorem mw_X8_takeConstraintAway : Pm mi_X8_takeConstraintAway := Or.inl (tbg_mem (n := 6025) rfl)
theorem mw_X8_passOnce : Pm mi_X8_passOnce := Or.inl (tbg_mem (n := 6040) rfl)
theorem mw_X8_passUntilSettled : Pm mi_X8_passUntilSettled := Or.inl (tbg_mem (n := 6056) rfl)
theorem mw_X8_isRange : Pm mi_X8_isRange := Or.inl (tbg_mem (n := 5144) rfl)
theorem mw_X8_reject : Pm mi_X8_reject := Or.inl (tbg_mem (n := 5166) rfl)
theorem mw_X1_positionOfSame : Pm mi_X1_positionOfSame := Or.inl (tbg_mem (n := 5210) rfl)
theorem mw_X1_append : Pm mi_X1_append := Or.inl (tbg_mem (n := 5214) rfl)
theorem mw_J8_newLength_cabcc : Pm mi_J8_newLength_cabcc := Or.inl (tbg_mem (n := 4043) rfl)
theorem mw_J7_copyOfRangeByte_39247 : Pm mi_J7_copyOfRangeByte_39247 := Or.inl (tbg_mem (n := 4197) rfl)
theorem mw_J3_checkIndex_8e157 : Pm mi_J3_checkIndex_8e157 := Or.inl (tbg_mem (n := 5062) rfl)
theorem mw_X5_keepOff : Pm mi_X5_keepOff := Or.inl (tbg_mem (n := 3062) rfl)
theorem mw_X5_raiseLow : Pm mi_X5_raiseLow := Or.inl (tbg_mem (n := 3066) rfl)
theorem mw_X5_sinkHigh : Pm mi_X5_sinkHigh := Or.inl (tbg_mem (n := 3070) rfl)
theorem mw_X4_raise : Pm mi_X4_raise := Or.inl (tbg_mem (n := 3102) rfl)
theorem mw_X1_copyFrom : Pm mi_X1_copyFrom := Or.inl (tbg_mem (n := 5157) rfl)
theorem mw_X1_takeOut : Pm mi_X1_takeOut := Or.inl (tbg_mem (n := 6029) rfl)
theorem mw_X8_takeOverTrial : Pm mi_X8_takeOverTrial := Or.inl (tbg_mem (n := 6044) rfl)
theorem mw_J7_checkLength_df160 : Pm mi_J7_checkLength_df160 := Or.inl (tbg_mem (n := 4200) rfl)
theorem Pm_c {b : Bool} {x y : MIT} (hx : Pm x) (hy : Pm y) : Pm (cond b x y) := by cases b <;> assumption
theorem mi_P (k : Nat) : Pm (mi k) := (Pm_c (Pm_c (Pm_c (Pm_c (Pm_c (Pm_c (Pm_c mw_L_law mw_X8_init) (Pm_c mw_L_build (Pm_c mw_X8_doorCount mw_X8_constraintCount))) (Pm_c (Pm_c mw_X8_hasPeace mw_X8_lowOf) (Pm_c mw_X8_highOf (Pm_c mw_X8_frameLow mw_X8_frameHigh)))) (Pm_c (Pm_c (Pm_c mw_X8_widthOf mw_X8_isFixed) (Pm_c mw_X8_constraintAt (Pm_c mw_X8_firstOf mw_X8_secondOf))) (Pm_c (Pm_c mw_X8_constraintsOf (Pm_c mw_L_lowestHeight mw_L_lowestHeightByPaths)) (Pm_c mw_X8_writeDoor (Pm_c mw_J4_init_da8c8 mw_J4_append_bf812))))) (Pm_c (Pm_c (Pm_c (Pm_c mw_J4_append_15ec4 mw_J4_toString_0e30d) (Pm_c mw_L_isLine (Pm_c mw_X8_peaceHeight mw_X8_doorByWidth))) (Pm_c (Pm_c mw_L_holds (Pm_c mw_X8_isSafe mw_X8_isBroken)) (Pm_c mw_X8_writeConstraint (Pm_c mw_X8_kindOf mw_J4_append_cf468)))) (Pm_c (Pm_c (Pm_c mw_X8_gapOf mw_X8_constraintByGap) (Pm_c mw_X8_arePossible (Pm_c mw_L_peaceSum mw_L_peaceHeight))) (Pm_c (Pm_c mw_X8_isSettled (Pm_c mw_L_wouldChange mw_X8_fixedCount)) (Pm_c mw_X8_totalWidth (Pm_c mw_X8_totalFrameWidth mw_X8_meanWidth)))))) (Pm_c (Pm_c (Pm_c (Pm_c (Pm_c mw_X8_fixedShare mw_X8_isConsistent) (Pm_c mw_L_doorByWidth (Pm_c mw_L_constraintByGap mw_L_constraintAt))) (Pm_c (Pm_c mw_L_acts mw_X2_init) (Pm_c mw_X3_init (Pm_c mw_X0_init mw_X5_init)))) (Pm_c (Pm_c (Pm_c mw_X4_init mw_X6_init) (Pm_c mw_X7_init (Pm_c mw_L_some mw_L_addDoor))) (Pm_c (Pm_c mw_L_kind (Pm_c mw_L_addConstraint mw_X6_find)) (Pm_c mw_X8_checkDoor (Pm_c mw_X0_width mw_X0_isOneHeight))))) (Pm_c (Pm_c (Pm_c (Pm_c mw_X8_checkedPosition mw_X1_countWith) (Pm_c mw_X8_lowestHeight (Pm_c mw_X8_lowestHeightByPaths mw_J4_setLength_d00df))) (Pm_c (Pm_c mw_X2_differencesToFrame (Pm_c mw_J4_length_8abf5 mw_J5_init_d00df)) (Pm_c mw_J5_append_c97b9 (Pm_c mw_J5_append_cf1ce mw_J0_init_81219)))) (Pm_c (Pm_c (Pm_c mw_J0_length_8abf5 mw_X8_outputAt) (Pm_c mw_J0_charAt_5068e (Pm_c mw_X2_doorAtRank mw_X2_isAlwaysMet))) (Pm_c (Pm_c mw_X2_isNeverMet (Pm_c mw_J5_append_3fe6f mw_X1_positionAtRank)) (Pm_c mw_X8_isHeight (Pm_c mw_X0_copyFrom mw_X0_fix))))))) (Pm_c (Pm_c (Pm_c (Pm_c (Pm_c (Pm_c mw_X8_peaceSum mw_X8_changesOfTrialPass) (Pm_c mw_X8_wouldChange (Pm_c mw_X0_sumOfWidths mw_X8_settleTrialWithoutApart))) (Pm_c (Pm_c mw_X4_climb mw_X2_isInOrder) (Pm_c mw_L_setFrame (Pm_c mw_L_narrow mw_X8_reset)))) (Pm_c (Pm_c (Pm_c mw_L_removeConstraint mw_L_pass) (Pm_c mw_L_settle (Pm_c mw_X1_init mw_L_cell))) (Pm_c (Pm_c mw_X8_addDoor (Pm_c mw_X8_addConstraint mw_X6_chooseSides)) (Pm_c mw_X2_hasDoor (Pm_c mw_X1_positionOf mw_J5_setLength_d00df))))) (Pm_c (Pm_c (Pm_c (Pm_c mw_J5_length_8abf5 mw_J6_stringSize_0f7a4) (Pm_c mw_J5_ensureCapacityInternal_d00df (Pm_c mw_J5_isLatin1_aae02 mw_J6_getChars_ba4f3))) (Pm_c (Pm_c mw_J5_putStringAt_47b60 (Pm_c mw_J0_init_db425 mw_J0_coder_7d493)) (Pm_c mw_J4_charAt_5068e (Pm_c mw_J0_isLatin1_aae02 mw_J1_charAt_3b067)))) (Pm_c (Pm_c (Pm_c mw_X2_rankOf mw_J1_canEncode_fc78d) (Pm_c mw_X1_rankOf (Pm_c mw_X0_put mw_X5_begin))) (Pm_c (Pm_c mw_X5_makePass (Pm_c mw_X5_makePassesToTheEnd mw_X4_climbOnce)) (Pm_c mw_X0_isEmpty (Pm_c mw_X8_setFrame mw_X8_narrow)))))) (Pm_c (Pm_c (Pm_c (Pm_c (Pm_c mw_X3_prepare mw_X2_openAll) (Pm_c mw_X3_keep (Pm_c mw_X8_removeConstraint mw_X8_pass))) (Pm_c (Pm_c mw_X8_settle (Pm_c mw_X8_checkRange mw_X8_enterDoor)) (Pm_c mw_X8_isConstraint (Pm_c mw_X8_enterConstraint mw_X6_isBetter)))) (Pm_c (Pm_c (Pm_c mw_X6_tooNear mw_J5_newCapacity_0f7a4) (Pm_c mw_J7_copyOf_9075b (Pm_c mw_J5_inflateIfNeededFor_a7421 mw_J0_getBytes_840e7))) (Pm_c (Pm_c mw_J5_getValue_6d5f1 (Pm_c mw_J7_copyOfRange_39247 mw_J5_charAt_5068e)) (Pm_c mw_J0_checkIndex_df160 (Pm_c mw_X2_isAhead mw_X5_takeSteps))))) (Pm_c (Pm_c (Pm_c (Pm_c mw_X4_climbAlong mw_X8_changeFrame) (Pm_c mw_X8_narrowDoor (Pm_c mw_X2_copyFrom mw_X8_takeConstraintAway))) (Pm_c (Pm_c mw_X8_passOnce (Pm_c mw_X8_passUntilSettled mw_X8_isRange)) (Pm_c mw_X8_reject (Pm_c mw_X1_positionOfSame mw_X1_append)))) (Pm_c (Pm_c (Pm_c mw_J8_newLength_cabcc mw_J7_copyOfRangeByte_39247) (Pm_c mw_J3_checkIndex_8e157 (Pm_c mw_X5_keepOff mw_X5_raiseLow))) (Pm_c (Pm_c mw_X5_sinkHigh (Pm_c mw_X4_raise mw_X1_copyFrom)) (Pm_c mw_X1_takeOut (Pm_c mw_X8_takeOverTrial mw_J7_checkLength_df160))))))))
set_option maxRecDepth 100000
theorem mp_ok : ∀ r ∈ mpT, tbg (r.2.2) = some (Jvm.Cond.initialized (mi r.1).1.cls) ∧ ((mi r.1).1.cls ≠ "java/lang/invoke/MethodHandle" ∧ (mi r.1).1.cls ≠ "java/lang/invoke/VarHandle") ∧ plainName (mi r.1).1.cls = true ∧ (mi r.1).2.2.1 ≤ 40 := by decide +kernel
theorem mp_all : ∀ k, k < 173 → 0 < k → (mpT.map (fun r => r.1)).contains k = true := by decide +kernel
theorem tS_ok_0 : ∀ r ∈ tS 0, 0 < r.2.1 ∧ r.2.1 < 173 ∧ tbg (r.2.2.2.1) = some (Jvm.Cond.methodLink (cnm 0) r.1 (mi r.2.1).1) ∧ tbg (r.2.2.2.2) = some (Jvm.Cond.static (mi r.2.1).1) ∧ (parseMethodDescriptor (mi r.2.1).1.desc).map (fun d => d.parameters.length) = some r.2.2.1 := by decide +kernel
theorem tS_ok_1 : ∀ r ∈ tS 1, 0 < r.2.1 ∧ r.2.1 < 173 ∧ tbg (r.2.2.2.1) = some (Jvm.Cond.methodLink (cnm 1) r.1 (mi r.2.1).1) ∧ tbg (r.2.2.2.2) = some (Jvm.Cond.static (mi r.2.1).1) ∧ (parseMethodDescriptor (mi r.2.1).1.desc).map (fun d => d.parameters.length) = some r.2.2.1 := by decide +kernel
theorem tS_ok_2 : ∀ r ∈ tS 2, 0 < r.2.1 ∧ r.2.1 < 173 ∧ tbg (r.2.2.2.1) = some (Jvm.Cond.methodLink (cnm 2) r.1 (mi r.2.1).1) ∧ tbg (r.2.2.2.2) = some (Jvm.Cond.static (mi r.2.1).1) ∧ (parseMethodDescriptor (mi r.2.1).1.desc).map (fun d => d.parameters.length) = some r.2.2.1 := by decide +kernel
theorem tS_ok_3 : ∀ r ∈ tS 3, 0 < r.2.1 ∧ r.2.1 < 173 ∧ tbg (r.2.2.2.1) = some (Jvm.Cond.methodLink (cnm 3) r.1 (mi r.2.1).1) ∧ tbg (r.2.2.2.2) = some (Jvm.Cond.static (mi r.2.1).1) ∧ (parseMethodDescriptor (mi r.2.1).1.desc).map (fun d => d.parameters.length) = some r.2.2.1 := by decide +kernel
theorem tS_ok_4 : ∀ r ∈ tS 4, 0 < r.2.1 ∧ r.2.1 < 173 ∧ tbg (r.2.2.2.1) = some (Jvm.Cond.methodLink (cnm 4) r.1 (mi r.2.1).1) ∧ tbg (r.2.2.2.2) = some (Jvm.Cond.static (mi r.2.1).1) ∧ (parseMethodDescriptor (mi r.2.1).1.desc).map (fun d => d.parameters.length) = some r.2.2.1 := by decide +kernel
theorem tS_ok_5 : ∀ r ∈ tS 5, 0 < r.2.1 ∧ r.2.1 < 173 ∧ tbg (r.2.2.2.1) = some (Jvm.Cond.methodLink (cnm 5) r.1 (mi r.2.1).1) ∧ tbg (r.2.2.2.2) = some (Jvm.Cond.static (mi r.2.1).1) ∧ (parseMethodDescriptor (mi r.2.1).1.desc).map (fun d => d.parameters.length) = some r.2.2.1 := by decide +kernel
theorem tS_ok_6 : ∀ r ∈ tS 6, 0 < r.2.1 ∧ r.2.1 < 173 ∧ tbg (r.2.2.2.1) = some (Jvm.Cond.methodLink (cnm 6) r.1 (mi r.2.1).1) ∧ tbg (r.2.2.2.2) = some (Jvm.Cond.static (mi r.2.1).1) ∧ (parseMethodDescriptor (mi r.2.1).1.desc).map (fun d => d.parameters.length) = some r.2.2.1 := by decide +kernel
theorem tS_ok_7 : ∀ r ∈ tS 7, 0 < r.2.1 ∧ r.2.1 < 173 ∧ tbg (r.2.2.2.1) = some (Jvm.Cond.methodLink (cnm 7) r.1 (mi r.2.1).1) ∧ tbg (r.2.2.2.2) = some (Jvm.Cond.static (mi r.2.1).1) ∧ (parseMethodDescriptor (mi r.2.1).1.desc).map (fun d => d.parameters.length) = some r.2.2.1 := by decide +kernel
theorem tS_ok_8 : ∀ r ∈ tS 8, 0 < r.2.1 ∧ r.2.1 < 173 ∧ tbg (r.2.2.2.1) = some (Jvm.Cond.methodLink (cnm 8) r.1 (mi r.2.1).1) ∧ tbg (r.2.2.2.2) = some (Jvm.Cond.static (mi r.2.1).1) ∧ (parseMethodDescriptor (mi r.2.1).1.desc).map (fun d => d.parameters.length) = some r.2.2.1 := by decide +kernel
theorem tS_ok_9 : ∀ r ∈ tS 9, 0 < r.2.1 ∧ r.2.1 < 173 ∧ tbg (r.2.2.2.1) = some (Jvm.Cond.methodLink (cnm 9) r.1 (mi r.2.1).1) ∧ tbg (r.2.2.2.2) = some (Jvm.Cond.static (mi r.2.1).1) ∧ (parseMethodDescriptor (mi r.2.1).1.desc).map (fun d => d.parameters.length) = some r.2.2.1 := by decide +kernel
theorem tS_ok_10 : ∀ r ∈ tS 10, 0 < r.2.1 ∧ r.2.1 < 173 ∧ tbg (r.2.2.2.1) = some (Jvm.Cond.methodLink (cnm 10) r.1 (mi r.2.1).1) ∧ tbg (r.2.2.2.2) = some (Jvm.Cond.static (mi r.2.1).1) ∧ (parseMethodDescriptor (mi r.2.1).1.desc).map (fun d => d.parameters.length) = some r.2.2.1 := by decide +kernel
theorem tS_ok_11 : ∀ r ∈ tS 11, 0 < r.2.1 ∧ r.2.1 < 173 ∧ tbg (r.2.2.2.1) = some (Jvm.Cond.methodLink (cnm 11) r.1 (mi r.2.1).1) ∧ tbg (r.2.2.2.2) = some (Jvm.Cond.static (mi r.2.1).1) ∧ (parseMethodDescriptor (mi r.2.1).1.desc).map (fun d => d.parameters.length) = some r.2.2.1 := by decide +kernel
theorem tS_ok_12 : ∀ r ∈ tS 12, 0 < r.2.1 ∧ r.2.1 < 173 ∧ tbg (r.2.2.2.1) = some (Jvm.Cond.methodLink (cnm 12) r.1 (mi r.2.1).1) ∧ tbg (r.2.2.2.2) = some (Jvm.Cond.static (mi r.2.1).1) ∧ (parseMethodDescriptor (mi r.2.1).1.desc).map (fun d => d.parameters.length) = some r.2.2.1 := by decide +kernel
theorem tS_ok_13 : ∀ r ∈ tS 13, 0 < r.2.1 ∧ r.2.1 < 173 ∧ tbg (r.2.2.2.1) = some (Jvm.Cond.methodLink (cnm 13) r.1 (mi r.2.1).1) ∧ tbg (r.2.2.2.2) = some (Jvm.Cond.static (mi r.2.1).1) ∧ (parseMethodDescriptor (mi r.2.1).1.desc).map (fun d => d.parameters.length) = some r.2.2.1 := by decide +kernel
theorem tS_ok_14 : ∀ r ∈ tS 14, 0 < r.2.1 ∧ r.2.1 < 173 ∧ tbg (r.2.2.2.1) = some (Jvm.Cond.methodLink (cnm 14) r.1 (mi r.2.1).1) ∧ tbg (r.2.2.2.2) = some (Jvm.Cond.static (mi r.2.1).1) ∧ (parseMethodDescriptor (mi r.2.1).1.desc).map (fun d => d.parameters.length) = some r.2.2.1 := by decide +kernel
theorem tS_ok_15 : ∀ r ∈ tS 15, 0 < r.2.1 ∧ r.2.1 < 173 ∧ tbg (r.2.2.2.1) = some (Jvm.Cond.methodLink (cnm 15) r.1 (mi r.2.1).1) ∧ tbg (r.2.2.2.2) = some (Jvm.Cond.static (mi r.2.1).1) ∧ (parseMethodDescriptor (mi r.2.1).1.desc).map (fun d => d.parameters.length) = some r.2.2.1 := by decide +kernel
theorem tS_ok_16 : ∀ r ∈ tS 16, 0 < r.2.1 ∧ r.2.1 < 173 ∧ tbg (r.2.2.2.1) = some (Jvm.Cond.methodLink (cnm 16) r.1 (mi r.2.1).1) ∧ tbg (r.2.2.2.2) = some (Jvm.Cond.static (mi r.2.1).1) ∧ (parseMethodDescriptor (mi r.2.1).1.desc).map (fun d => d.parameters.length) = some r.2.2.1 := by decide +kernel
theorem tS_ok_17 : ∀ r ∈ tS 17, 0 < r.2.1 ∧ r.2.1 < 173 ∧ tbg (r.2.2.2.1) = some (Jvm.Cond.methodLink (cnm 17) r.1 (mi r.2.1).1) ∧ tbg (r.2.2.2.2) = some (Jvm.Cond.static (mi r.2.1).1) ∧ (parseMethodDescriptor (mi r.2.1).1.desc).map (fun d => d.parameters.length) = some r.2.2.1 := by decide +kernel
theorem tS_ok_18 : ∀ r ∈ tS 18, 0 < r.2.1 ∧ r.2.1 < 173 ∧ tbg (r.2.2.2.1) = some (Jvm.Cond.methodLink (cnm 18) r.1 (mi r.2.1).1) ∧ tbg (r.2.2.2.2) = some (Jvm.Cond.static (mi r.2.1).1) ∧ (parseMethodDescriptor (mi r.2.1).1.desc).map (fun d => d.parameters.length) = some r.2.2.1 := by decide +kernel
theorem tS_ok_19 : ∀ r ∈ tS 19, 0 < r.2.1 ∧ r.2.1 < 173 ∧ tbg (r.2.2.2.1) = some (Jvm.Cond.methodLink (cnm 19) r.1 (mi r.2.1).1) ∧ tbg (r.2.2.2.2) = some (Jvm.Cond.static (mi r.2.1).1) ∧ (parseMethodDescriptor (mi r.2.1).1.desc).map (fun d => d.parameters.length) = some r.2.2.1 := by decide +kernel
theorem tS_ok : ∀ own, own < 20 → ∀ r ∈ tS own, 0 < r.2.1 ∧ r.2.1 < 173 ∧ tbg (r.2.2.2.1) = some (Jvm.Cond.methodLink (cnm own) r.1 (mi r.2.1).1) ∧ tbg (r.2.2.2.2) = some (Jvm.Cond.static (mi r.2.1).1) ∧ (parseMethodDescriptor (mi r.2.1).1.desc).map (fun d => d.parameters.length) = some r.2.2.1 := by
  intro own h
  match own, h with
  | 0, _ => exact tS_ok_0
  | 1, _ => exact tS_ok_1
  | 2, _ => exact tS_ok_2
  | 3, _ => exact tS_ok_3
  | 4, _ => exact tS_ok_4
  | 5, _ => exact tS_ok_5
  | 6, _ => exact tS_ok_6
  | 7, _ => exact tS_ok_7
  | 8, _ => exact tS_ok_8
  | 9, _ => exact tS_ok_9
  | 10, _ => exact tS_ok_10
  | 11, _ => exact tS_ok_11
  | 12, _ => exact tS_ok_12
  | 13, _ => exact tS_ok_13
  | 14, _ => exact tS_ok_14
  | 15, _ => exact tS_ok_15
  | 16, _ => exact tS_ok_16
  | 17, _ => exact tS_ok_17
  | 18, _ => exact tS_ok_18
  | 19, _ => exact tS_ok_19
  | n + 20, h => exact absurd h (by omega)
theorem tV_ok_0 : ∀ r ∈ tV 0, 0 < r.2.1 ∧ r.2.1 < 173 ∧ (mi r.2.1).2.2.2.2.1 = [] ∧ tbg (r.2.2.2.2.1) = some (Jvm.Cond.methodLink (cnm 0) r.1 (mi r.2.1).1) ∧ tbg (r.2.2.2.2.2.1) = some (Jvm.Cond.instanceMethod (mi r.2.1).1) ∧ tbg (r.2.2.2.2.2.2) = some (Jvm.Cond.selects ((wcl.map (fun q => q.1)).getD r.2.2.2.1 "") (mi r.2.1).1 (mi r.2.1).1) ∧ r.2.2.2.1 < 12 ∧ (parseMethodDescriptor (mi r.2.1).1.desc).map (fun d => d.parameters.length + 1) = some r.2.2.1 := by decide +kernel
theorem tV_ok_1 : ∀ r ∈ tV 1, 0 < r.2.1 ∧ r.2.1 < 173 ∧ (mi r.2.1).2.2.2.2.1 = [] ∧ tbg (r.2.2.2.2.1) = some (Jvm.Cond.methodLink (cnm 1) r.1 (mi r.2.1).1) ∧ tbg (r.2.2.2.2.2.1) = some (Jvm.Cond.instanceMethod (mi r.2.1).1) ∧ tbg (r.2.2.2.2.2.2) = some (Jvm.Cond.selects ((wcl.map (fun q => q.1)).getD r.2.2.2.1 "") (mi r.2.1).1 (mi r.2.1).1) ∧ r.2.2.2.1 < 12 ∧ (parseMethodDescriptor (mi r.2.1).1.desc).map (fun d => d.parameters.length + 1) = some r.2.2.1 := by decide +kernel
theorem tV_ok_2 : ∀ r ∈ tV 2, 0 < r.2.1 ∧ r.2.1 < 173 ∧ (mi r.2.1).2.2.2.2.1 = [] ∧ tbg (r.2.2.2.2.1) = some (Jvm.Cond.methodLink (cnm 2) r.1 (mi r.2.1).1) ∧ tbg (r.2.2.2.2.2.1) = some (Jvm.Cond.instanceMethod (mi r.2.1).1) ∧ tbg (r.2.2.2.2.2.2) = some (Jvm.Cond.selects ((wcl.map (fun q => q.1)).getD r.2.2.2.1 "") (mi r.2.1).1 (mi r.2.1).1) ∧ r.2.2.2.1 < 12 ∧ (parseMethodDescriptor (mi r.2.1).1.desc).map (fun d => d.parameters.length + 1) = some r.2.2.1 := by decide +kernel
theorem tV_ok_3 : ∀ r ∈ tV 3, 0 < r.2.1 ∧ r.2.1 < 173 ∧ (mi r.2.1).2.2.2.2.1 = [] ∧ tbg (r.2.2.2.2.1) = some (Jvm.Cond.methodLink (cnm 3) r.1 (mi r.2.1).1) ∧ tbg (r.2.2.2.2.2.1) = some (Jvm.Cond.instanceMethod (mi r.2.1).1) ∧ tbg (r.2.2.2.2.2.2) = some (Jvm.Cond.selects ((wcl.map (fun q => q.1)).getD r.2.2.2.1 "") (mi r.2.1).1 (mi r.2.1).1) ∧ r.2.2.2.1 < 12 ∧ (parseMethodDescriptor (mi r.2.1).1.desc).map (fun d => d.parameters.length + 1) = some r.2.2.1 := by decide +kernel
theorem tV_ok_4 : ∀ r ∈ tV 4, 0 < r.2.1 ∧ r.2.1 < 173 ∧ (mi r.2.1).2.2.2.2.1 = [] ∧ tbg (r.2.2.2.2.1) = some (Jvm.Cond.methodLink (cnm 4) r.1 (mi r.2.1).1) ∧ tbg (r.2.2.2.2.2.1) = some (Jvm.Cond.instanceMethod (mi r.2.1).1) ∧ tbg (r.2.2.2.2.2.2) = some (Jvm.Cond.selects ((wcl.map (fun q => q.1)).getD r.2.2.2.1 "") (mi r.2.1).1 (mi r.2.1).1) ∧ r.2.2.2.1 < 12 ∧ (parseMethodDescriptor (mi r.2.1).1.desc).map (fun d => d.parameters.length + 1) = some r.2.2.1 := by decide +kernel
theorem tV_ok_5 : ∀ r ∈ tV 5, 0 < r.2.1 ∧ r.2.1 < 173 ∧ (mi r.2.1).2.2.2.2.1 = [] ∧ tbg (r.2.2.2.2.1) = some (Jvm.Cond.methodLink (cnm 5) r.1 (mi r.2.1).1) ∧ tbg (r.2.2.2.2.2.1) = some (Jvm.Cond.instanceMethod (mi r.2.1).1) ∧ tbg (r.2.2.2.2.2.2) = some (Jvm.Cond.selects ((wcl.map (fun q => q.1)).getD r.2.2.2.1 "") (mi r.2.1).1 (mi r.2.1).1) ∧ r.2.2.2.1 < 12 ∧ (parseMethodDescriptor (mi r.2.1).1.desc).map (fun d => d.parameters.length + 1) = some r.2.2.1 := by decide +kernel
theorem tV_ok_6 : ∀ r ∈ tV 6, 0 < r.2.1 ∧ r.2.1 < 173 ∧ (mi r.2.1).2.2.2.2.1 = [] ∧ tbg (r.2.2.2.2.1) = some (Jvm.Cond.methodLink (cnm 6) r.1 (mi r.2.1).1) ∧ tbg (r.2.2.2.2.2.1) = some (Jvm.Cond.instanceMethod (mi r.2.1).1) ∧ tbg (r.2.2.2.2.2.2) = some (Jvm.Cond.selects ((wcl.map (fun q => q.1)).getD r.2.2.2.1 "") (mi r.2.1).1 (mi r.2.1).1) ∧ r.2.2.2.1 < 12 ∧ (parseMethodDescriptor (mi r.2.1).1.desc).map (fun d => d.parameters.length + 1) = some r.2.2.1 := by decide +kernel
theorem tV_ok_7 : ∀ r ∈ tV 7, 0 < r.2.1 ∧ r.2.1 < 173 ∧ (mi r.2.1).2.2.2.2.1 = [] ∧ tbg (r.2.2.2.2.1) = some (Jvm.Cond.methodLink (cnm 7) r.1 (mi r.2.1).1) ∧ tbg (r.2.2.2.2.2.1) = some (Jvm.Cond.instanceMethod (mi r.2.1).1) ∧ tbg (r.2.2.2.2.2.2) = some (Jvm.Cond.selects ((wcl.map (fun q => q.1)).getD r.2.2.2.1 "") (mi r.2.1).1 (mi r.2.1).1) ∧ r.2.2.2.1 < 12 ∧ (parseMethodDescriptor (mi r.2.1).1.desc).map (fun d => d.parameters.length + 1) = some r.2.2.1 := by decide +kernel
theorem tV_ok_8 : ∀ r ∈ tV 8, 0 < r.2.1 ∧ r.2.1 < 173 ∧ (mi r.2.1).2.2.2.2.1 = [] ∧ tbg (r.2.2.2.2.1) = some (Jvm.Cond.methodLink (cnm 8) r.1 (mi r.2.1).1) ∧ tbg (r.2.2.2.2.2.1) = some (Jvm.Cond.instanceMethod (mi r.2.1).1) ∧ tbg (r.2.2.2.2.2.2) = some (Jvm.Cond.selects ((wcl.map (fun q => q.1)).getD r.2.2.2.1 "") (mi r.2.1).1 (mi r.2.1).1) ∧ r.2.2.2.1 < 12 ∧ (parseMethodDescriptor (mi r.2.1).1.desc).map (fun d => d.parameters.length + 1) = some r.2.2.1 := by decide +kernel
theorem tV_ok_9 : ∀ r ∈ tV 9, 0 < r.2.1 ∧ r.2.1 < 173 ∧ (mi r.2.1).2.2.2.2.1 = [] ∧ tbg (r.2.2.2.2.1) = some (Jvm.Cond.methodLink (cnm 9) r.1 (mi r.2.1).1) ∧ tbg (r.2.2.2.2.2.1) = some (Jvm.Cond.instanceMethod (mi r.2.1).1) ∧ tbg (r.2.2.2.2.2.2) = some (Jvm.Cond.selects ((wcl.map (fun q => q.1)).getD r.2.2.2.1 "") (mi r.2.1).1 (mi r.2.1).1) ∧ r.2.2.2.1 < 12 ∧ (parseMethodDescriptor (mi r.2.1).1.desc).map (fun d => d.parameters.length + 1) = some r.2.2.1 := by decide +kernel
theorem tV_ok_10 : ∀ r ∈ tV 10, 0 < r.2.1 ∧ r.2.1 < 173 ∧ (mi r.2.1).2.2.2.2.1 = [] ∧ tbg (r.2.2.2.2.1) = some (Jvm.Cond.methodLink (cnm 10) r.1 (mi r.2.1).1) ∧ tbg (r.2.2.2.2.2.1) = some (Jvm.Cond.instanceMethod (mi r.2.1).1) ∧ tbg (r.2.2.2.2.2.2) = some (Jvm.Cond.selects ((wcl.map (fun q => q.1)).getD r.2.2.2.1 "") (mi r.2.1).1 (mi r.2.1).1) ∧ r.2.2.2.1 < 12 ∧ (parseMethodDescriptor (mi r.2.1).1.desc).map (fun d => d.parameters.length + 1) = some r.2.2.1 := by decide +kernel
theorem tV_ok_11 : ∀ r ∈ tV 11, 0 < r.2.1 ∧ r.2.1 < 173 ∧ (mi r.2.1).2.2.2.2.1 = [] ∧ tbg (r.2.2.2.2.1) = some (Jvm.Cond.methodLink (cnm 11) r.1 (mi r.2.1).1) ∧ tbg (r.2.2.2.2.2.1) = some (Jvm.Cond.instanceMethod (mi r.2.1).1) ∧ tbg (r.2.2.2.2.2.2) = some (Jvm.Cond.selects ((wcl.map (fun q => q.1)).getD r.2.2.2.1 "") (mi r.2.1).1 (mi r.2.1).1) ∧ r.2.2.2.1 < 12 ∧ (parseMethodDescriptor (mi r.2.1).1.desc).map (fun d => d.parameters.length + 1) = some r.2.2.1 := by decide +kernel
theorem tV_ok_12 : ∀ r ∈ tV 12, 0 < r.2.1 ∧ r.2.1 < 173 ∧ (mi r.2.1).2.2.2.2.1 = [] ∧ tbg (r.2.2.2.2.1) = some (Jvm.Cond.methodLink (cnm 12) r.1 (mi r.2.1).1) ∧ tbg (r.2.2.2.2.2.1) = some (Jvm.Cond.instanceMethod (mi r.2.1).1) ∧ tbg (r.2.2.2.2.2.2) = some (Jvm.Cond.selects ((wcl.map (fun q => q.1)).getD r.2.2.2.1 "") (mi r.2.1).1 (mi r.2.1).1) ∧ r.2.2.2.1 < 12 ∧ (parseMethodDescriptor (mi r.2.1).1.desc).map (fun d => d.parameters.length + 1) = some r.2.2.1 := by decide +kernel
theorem tV_ok_13 : ∀ r ∈ tV 13, 0 < r.2.1 ∧ r.2.1 < 173 ∧ (mi r.2.1).2.2.2.2.1 = [] ∧ tbg (r.2.2.2.2.1) = some (Jvm.Cond.methodLink (cnm 13) r.1 (mi r.2.1).1) ∧ tbg (r.2.2.2.2.2.1) = some (Jvm.Cond.instanceMethod (mi r.2.1).1) ∧ tbg (r.2.2.2.2.2.2) = some (Jvm.Cond.selects ((wcl.map (fun q => q.1)).getD r.2.2.2.1 "") (mi r.2.1).1 (mi r.2.1).1) ∧ r.2.2.2.1 < 12 ∧ (parseMethodDescriptor (mi r.2.1).1.desc).map (fun d => d.parameters.length + 1) = some r.2.2.1 := by decide +kernel
theorem tV_ok_14 : ∀ r ∈ tV 14, 0 < r.2.1 ∧ r.2.1 < 173 ∧ (mi r.2.1).2.2.2.2.1 = [] ∧ tbg (r.2.2.2.2.1) = some (Jvm.Cond.methodLink (cnm 14) r.1 (mi r.2.1).1) ∧ tbg (r.2.2.2.2.2.1) = some (Jvm.Cond.instanceMethod (mi r.2.1).1) ∧ tbg (r.2.2.2.2.2.2) = some (Jvm.Cond.selects ((wcl.map (fun q => q.1)).getD r.2.2.2.1 "") (mi r.2.1).1 (mi r.2.1).1) ∧ r.2.2.2.1 < 12 ∧ (parseMethodDescriptor (mi r.2.1).1.desc).map (fun d => d.parameters.length + 1) = some r.2.2.1 := by decide +kernel
theorem tV_ok_15 : ∀ r ∈ tV 15, 0 < r.2.1 ∧ r.2.1 < 173 ∧ (mi r.2.1).2.2.2.2.1 = [] ∧ tbg (r.2.2.2.2.1) = some (Jvm.Cond.methodLink (cnm 15) r.1 (mi r.2.1).1) ∧ tbg (r.2.2.2.2.2.1) = some (Jvm.Cond.instanceMethod (mi r.2.1).1) ∧ tbg (r.2.2.2.2.2.2) = some (Jvm.Cond.selects ((wcl.map (fun q => q.1)).getD r.2.2.2.1 "") (mi r.2.1).1 (mi r.2.1).1) ∧ r.2.2.2.1 < 12 ∧ (parseMethodDescriptor (mi r.2.1).1.desc).map (fun d => d.parameters.length + 1) = some r.2.2.1 := by decide +kernel
theorem tV_ok_16 : ∀ r ∈ tV 16, 0 < r.2.1 ∧ r.2.1 < 173 ∧ (mi r.2.1).2.2.2.2.1 = [] ∧ tbg (r.2.2.2.2.1) = some (Jvm.Cond.methodLink (cnm 16) r.1 (mi r.2.1).1) ∧ tbg (r.2.2.2.2.2.1) = some (Jvm.Cond.instanceMethod (mi r.2.1).1) ∧ tbg (r.2.2.2.2.2.2) = some (Jvm.Cond.selects ((wcl.map (fun q => q.1)).getD r.2.2.2.1 "") (mi r.2.1).1 (mi r.2.1).1) ∧ r.2.2.2.1 < 12 ∧ (parseMethodDescriptor (mi r.2.1).1.desc).map (fun d => d.parameters.length + 1) = some r.2.2.1 := by decide +kernel
theorem tV_ok_17 : ∀ r ∈ tV 17, 0 < r.2.1 ∧ r.2.1 < 173 ∧ (mi r.2.1).2.2.2.2.1 = [] ∧ tbg (r.2.2.2.2.1) = some (Jvm.Cond.methodLink (cnm 17) r.1 (mi r.2.1).1) ∧ tbg (r.2.2.2.2.2.1) = some (Jvm.Cond.instanceMethod (mi r.2.1).1) ∧ tbg (r.2.2.2.2.2.2) = some (Jvm.Cond.selects ((wcl.map (fun q => q.1)).getD r.2.2.2.1 "") (mi r.2.1).1 (mi r.2.1).1) ∧ r.2.2.2.1 < 12 ∧ (parseMethodDescriptor (mi r.2.1).1.desc).map (fun d => d.parameters.length + 1) = some r.2.2.1 := by decide +kernel
theorem tV_ok_18 : ∀ r ∈ tV 18, 0 < r.2.1 ∧ r.2.1 < 173 ∧ (mi r.2.1).2.2.2.2.1 = [] ∧ tbg (r.2.2.2.2.1) = some (Jvm.Cond.methodLink (cnm 18) r.1 (mi r.2.1).1) ∧ tbg (r.2.2.2.2.2.1) = some (Jvm.Cond.instanceMethod (mi r.2.1).1) ∧ tbg (r.2.2.2.2.2.2) = some (Jvm.Cond.selects ((wcl.map (fun q => q.1)).getD r.2.2.2.1 "") (mi r.2.1).1 (mi r.2.1).1) ∧ r.2.2.2.1 < 12 ∧ (parseMethodDescriptor (mi r.2.1).1.desc).map (fun d => d.parameters.length + 1) = some r.2.2.1 := by decide +kernel
theorem tV_ok_19 : ∀ r ∈ tV 19, 0 < r.2.1 ∧ r.2.1 < 173 ∧ (mi r.2.1).2.2.2.2.1 = [] ∧ tbg (r.2.2.2.2.1) = some (Jvm.Cond.methodLink (cnm 19) r.1 (mi r.2.1).1) ∧ tbg (r.2.2.2.2.2.1) = some (Jvm.Cond.instanceMethod (mi r.2.1).1) ∧ tbg (r.2.2.2.2.2.2) = some (Jvm.Cond.selects ((wcl.map (fun q => q.1)).getD r.2.2.2.1 "") (mi r.2.1).1 (mi r.2.1).1) ∧ r.2.2.2.1 < 12 ∧ (parseMethodDescriptor (mi r.2.1).1.desc).map (fun d => d.parameters.length + 1) = some r.2.2.1 := by decide +kernel
theorem tV_ok : ∀ own, own < 20 → ∀ r ∈ tV own, 0 < r.2.1 ∧ r.2.1 < 173 ∧ (mi r.2.1).2.2.2.2.1 = [] ∧ tbg (r.2.2.2.2.1) = some (Jvm.Cond.methodLink (cnm own) r.1 (mi r.2.1).1) ∧ tbg (r.2.2.2.2.2.1) = some (Jvm.Cond.instanceMethod (mi r.2.1).1) ∧ tbg (r.2.2.2.2.2.2) = some (Jvm.Cond.selects ((wcl.map (fun q => q.1)).getD r.2.2.2.1 "") (mi r.2.1).1 (mi r.2.1).1) ∧ r.2.2.2.1 < 12 ∧ (parseMethodDescriptor (mi r.2.1).1.desc).map (fun d => d.parameters.length + 1) = some r.2.2.1 := by
  intro own h
  match own, h with
  | 0, _ => exact tV_ok_0
  | 1, _ => exact tV_ok_1
  | 2, _ => exact tV_ok_2
  | 3, _ => exact tV_ok_3
  | 4, _ => exact tV_ok_4
  | 5, _ => exact tV_ok_5
  | 6, _ => exact tV_ok_6
  | 7, _ => exact tV_ok_7
  | 8, _ => exact tV_ok_8
  | 9, _ => exact tV_ok_9
  | 10, _ => exact tV_ok_10
  | 11, _ => exact tV_ok_11
  | 12, _ => exact tV_ok_12
  | 13, _ => exact tV_ok_13
  | 14, _ => exact tV_ok_14
  | 15, _ => exact tV_ok_15
  | 16, _ => exact tV_ok_16
  | 17, _ => exact tV_ok_17
  | 18, _ => exact tV_ok_18
  | 19, _ => exact tV_ok_19
  | n + 20, h => exact absurd h (by omega)
def tVU : Nat × Nat × Nat × Nat × Nat × Nat := (9, 549, 70, 1, 10, 107)
theorem tVU_ok : (mi 70).2.2.2.2.1 = [] ∧ tbg 4183 = some (Jvm.Cond.methodLink (cnm 9) 549 (mi 107).1) ∧ tbg 4185 = some (Jvm.Cond.sameMethod (mi 107).1.cls (mi 107).1.cls (mi 107).1.name (mi 107).1.desc) ∧ tbg 4187 = some (Jvm.Cond.instanceMethod (mi 70).1) ∧ tbg 4184 = some (Jvm.Cond.instanceMethod (mi 107).1) ∧ tbg 4186 = some (Jvm.Cond.selects "java/lang/StringBuilder" (mi 107).1 (mi 70).1) := by decide +kernel
theorem tI_ok : ∀ own, own < 20 → ∀ r ∈ tI own, 0 < r.2.1 ∧ r.2.1 < 173 ∧ (mi r.2.1).2.2.2.2.1 = [] ∧ (mi r.2.1).2.2.2.1 = none ∧ (mi r.2.1).1.name = "<init>" ∧ tbg (r.2.2.2.1) = some (Jvm.Cond.methodLink (cnm own) r.1 (mi r.2.1).1) ∧ tbg (r.2.2.2.2) = some (Jvm.Cond.instanceMethod (mi r.2.1).1) ∧ (parseMethodDescriptor (mi r.2.1).1.desc).map (fun d => d.parameters.length + 1) = some r.2.2.1 := by decide +kernel
theorem tN_ok : ∀ own, own < 20 → ∀ r ∈ tN own, 0 < r.2.1 ∧ r.2.1 < 173 ∧ (mi r.2.1).2.2.2.2.1 = [] ∧ (mi r.2.1).2.2.2.1 = none ∧ (mi r.2.1).1.name = "<init>" ∧ tbg (r.2.2.2.1) = some (Jvm.Cond.methodLinkNest (cnm own) r.1 (mi r.2.1).1 "LintelBrothers") ∧ tbg (r.2.2.2.2) = some (Jvm.Cond.instanceMethod (mi r.2.1).1) ∧ (parseMethodDescriptor (mi r.2.1).1.desc).map (fun d => d.parameters.length + 1) = some r.2.2.1 := by decide +kernel
theorem tU_ok : ∀ own, own < 20 → ∀ r ∈ tU own, 0 < r.2.1 ∧ r.2.1 < 173 ∧ (mi r.2.1).2.2.2.2.1 = [] ∧ (mi r.2.1).1.name ≠ "<init>" ∧ tbg (r.2.2.2.2.1) = some (Jvm.Cond.methodLink (cnm own) r.1 (mi r.2.1).1) ∧ tbg (r.2.2.2.2.2.1) = some (Jvm.Cond.instanceMethod (mi r.2.1).1) ∧ tbg (r.2.2.2.2.2.2.1) = some (Jvm.Cond.sameMethod (mi r.2.1).1.cls (mi r.2.1).1.cls (mi r.2.1).1.name (mi r.2.1).1.desc) ∧ tbg (r.2.2.2.2.2.2.2) = some (Jvm.Cond.superclass (cnm own) (mi r.2.1).1.cls) ∧ r.2.2.2.1 < 12 ∧ (parseMethodDescriptor (mi r.2.1).1.desc).map (fun d => d.parameters.length + 1) = some r.2.2.1 := by decide +kernel
theorem tO_ok : ∀ own, own < 20 → ∀ r ∈ tO own, tbg (r.2) = some (Jvm.Cond.methodLink (cnm own) r.1 Lib.objectInit) := by decide +kernel
theorem tO_w : tbg (1038) = some (Jvm.Cond.instanceMethod Lib.objectInit) ∧ tbg (1039) = some (Jvm.Cond.code Lib.objectInit ⟨#[0xb1]⟩ 1 none) := by decide +kernel
theorem tC_ok : ∀ own, own < 20 → ∀ r ∈ tC own, tbg (r.2) = some (Jvm.Cond.methodLink (cnm own) r.1 arraycopyName) := by decide +kernel
theorem tC_w : tbg (3046) = some (Jvm.Cond.native arraycopyName) ∧ tbg (3045) = some (Jvm.Cond.static arraycopyName) ∧ tbg (1018) = some (Jvm.Cond.initialized "java/lang/System") := by decide +kernel
theorem tM3_ok : ∀ own, own < 20 → ∀ r ∈ tM3 own, tbg (r.2) = some (Jvm.Cond.methodLink (cnm own) r.1 Lib.Math.max.name) := by decide +kernel
theorem tM3_w : tbg (4045) = some (Jvm.Cond.static Lib.Math.max.name) ∧ tbg (1020) = some (Jvm.Cond.initialized "java/lang/Math") ∧ tbg (4046) = some (Jvm.Cond.code Lib.Math.max.name Lib.Math.max.code 2 (some .int)) := by decide +kernel
theorem tM4_ok : ∀ own, own < 20 → ∀ r ∈ tM4 own, tbg (r.2) = some (Jvm.Cond.methodLink (cnm own) r.1 Lib.Math.min.name) := by decide +kernel
theorem tM4_w : tbg (4063) = some (Jvm.Cond.static Lib.Math.min.name) ∧ tbg (1020) = some (Jvm.Cond.initialized "java/lang/Math") ∧ tbg (4064) = some (Jvm.Cond.code Lib.Math.min.name Lib.Math.min.code 2 (some .int)) := by decide +kernel
theorem tM5_ok : ∀ own, own < 20 → ∀ r ∈ tM5 own, tbg (r.2) = some (Jvm.Cond.methodLink (cnm own) r.1 Lib.Math.abs.name) := by decide +kernel
theorem tM5_w : tbg (3112) = some (Jvm.Cond.static Lib.Math.abs.name) ∧ tbg (1020) = some (Jvm.Cond.initialized "java/lang/Math") ∧ tbg (3113) = some (Jvm.Cond.code Lib.Math.abs.name Lib.Math.abs.code 1 (some .int)) := by decide +kernel
theorem tF_ok_0 : ∀ r ∈ tF 0, ∃ q ∈ wcl[r.2.1]?, r.2.2.1 < q.2.2 ∧ tbg (r.2.2.2) = some (Jvm.Cond.fieldLink (cnm 0) r.1 (q.2.1 r.2.2.1).1 (q.2.1 r.2.2.1).2.1 (q.2.1 r.2.2.1).2.2.1) := by decide +kernel
theorem tF_ok_1 : ∀ r ∈ tF 1, ∃ q ∈ wcl[r.2.1]?, r.2.2.1 < q.2.2 ∧ tbg (r.2.2.2) = some (Jvm.Cond.fieldLink (cnm 1) r.1 (q.2.1 r.2.2.1).1 (q.2.1 r.2.2.1).2.1 (q.2.1 r.2.2.1).2.2.1) := by decide +kernel
theorem tF_ok_2 : ∀ r ∈ tF 2, ∃ q ∈ wcl[r.2.1]?, r.2.2.1 < q.2.2 ∧ tbg (r.2.2.2) = some (Jvm.Cond.fieldLink (cnm 2) r.1 (q.2.1 r.2.2.1).1 (q.2.1 r.2.2.1).2.1 (q.2.1 r.2.2.1).2.2.1) := by decide +kernel
theorem tF_ok_3 : ∀ r ∈ tF 3, ∃ q ∈ wcl[r.2.1]?, r.2.2.1 < q.2.2 ∧ tbg (r.2.2.2) = some (Jvm.Cond.fieldLink (cnm 3) r.1 (q.2.1 r.2.2.1).1 (q.2.1 r.2.2.1).2.1 (q.2.1 r.2.2.1).2.2.1) := by decide +kernel
theorem tF_ok_4 : ∀ r ∈ tF 4, ∃ q ∈ wcl[r.2.1]?, r.2.2.1 < q.2.2 ∧ tbg (r.2.2.2) = some (Jvm.Cond.fieldLink (cnm 4) r.1 (q.2.1 r.2.2.1).1 (q.2.1 r.2.2.1).2.1 (q.2.1 r.2.2.1).2.2.1) := by decide +kernel
theorem tF_ok_5 : ∀ r ∈ tF 5, ∃ q ∈ wcl[r.2.1]?, r.2.2.1 < q.2.2 ∧ tbg (r.2.2.2) = some (Jvm.Cond.fieldLink (cnm 5) r.1 (q.2.1 r.2.2.1).1 (q.2.1 r.2.2.1).2.1 (q.2.1 r.2.2.1).2.2.1) := by decide +kernel
theorem tF_ok_6 : ∀ r ∈ tF 6, ∃ q ∈ wcl[r.2.1]?, r.2.2.1 < q.2.2 ∧ tbg (r.2.2.2) = some (Jvm.Cond.fieldLink (cnm 6) r.1 (q.2.1 r.2.2.1).1 (q.2.1 r.2.2.1).2.1 (q.2.1 r.2.2.1).2.2.1) := by decide +kernel
theorem tF_ok_7 : ∀ r ∈ tF 7, ∃ q ∈ wcl[r.2.1]?, r.2.2.1 < q.2.2 ∧ tbg (r.2.2.2) = some (Jvm.Cond.fieldLink (cnm 7) r.1 (q.2.1 r.2.2.1).1 (q.2.1 r.2.2.1).2.1 (q.2.1 r.2.2.1).2.2.1) := by decide +kernel
theorem tF_ok_8 : ∀ r ∈ tF 8, ∃ q ∈ wcl[r.2.1]?, r.2.2.1 < q.2.2 ∧ tbg (r.2.2.2) = some (Jvm.Cond.fieldLink (cnm 8) r.1 (q.2.1 r.2.2.1).1 (q.2.1 r.2.2.1).2.1 (q.2.1 r.2.2.1).2.2.1) := by decide +kernel
theorem tF_ok_9 : ∀ r ∈ tF 9, ∃ q ∈ wcl[r.2.1]?, r.2.2.1 < q.2.2 ∧ tbg (r.2.2.2) = some (Jvm.Cond.fieldLink (cnm 9) r.1 (q.2.1 r.2.2.1).1 (q.2.1 r.2.2.1).2.1 (q.2.1 r.2.2.1).2.2.1) := by decide +kernel
theorem tF_ok_10 : ∀ r ∈ tF 10, ∃ q ∈ wcl[r.2.1]?, r.2.2.1 < q.2.2 ∧ tbg (r.2.2.2) = some (Jvm.Cond.fieldLink (cnm 10) r.1 (q.2.1 r.2.2.1).1 (q.2.1 r.2.2.1).2.1 (q.2.1 r.2.2.1).2.2.1) := by decide +kernel
theorem tF_ok_11 : ∀ r ∈ tF 11, ∃ q ∈ wcl[r.2.1]?, r.2.2.1 < q.2.2 ∧ tbg (r.2.2.2) = some (Jvm.Cond.fieldLink (cnm 11) r.1 (q.2.1 r.2.2.1).1 (q.2.1 r.2.2.1).2.1 (q.2.1 r.2.2.1).2.2.1) := by decide +kernel
theorem tF_ok_12 : ∀ r ∈ tF 12, ∃ q ∈ wcl[r.2.1]?, r.2.2.1 < q.2.2 ∧ tbg (r.2.2.2) = some (Jvm.Cond.fieldLink (cnm 12) r.1 (q.2.1 r.2.2.1).1 (q.2.1 r.2.2.1).2.1 (q.2.1 r.2.2.1).2.2.1) := by decide +kernel
theorem tF_ok_13 : ∀ r ∈ tF 13, ∃ q ∈ wcl[r.2.1]?, r.2.2.1 < q.2.2 ∧ tbg (r.2.2.2) = some (Jvm.Cond.fieldLink (cnm 13) r.1 (q.2.1 r.2.2.1).1 (q.2.1 r.2.2.1).2.1 (q.2.1 r.2.2.1).2.2.1) := by decide +kernel
theorem tF_ok_14 : ∀ r ∈ tF 14, ∃ q ∈ wcl[r.2.1]?, r.2.2.1 < q.2.2 ∧ tbg (r.2.2.2) = some (Jvm.Cond.fieldLink (cnm 14) r.1 (q.2.1 r.2.2.1).1 (q.2.1 r.2.2.1).2.1 (q.2.1 r.2.2.1).2.2.1) := by decide +kernel
theorem tF_ok_15 : ∀ r ∈ tF 15, ∃ q ∈ wcl[r.2.1]?, r.2.2.1 < q.2.2 ∧ tbg (r.2.2.2) = some (Jvm.Cond.fieldLink (cnm 15) r.1 (q.2.1 r.2.2.1).1 (q.2.1 r.2.2.1).2.1 (q.2.1 r.2.2.1).2.2.1) := by decide +kernel
theorem tF_ok_16 : ∀ r ∈ tF 16, ∃ q ∈ wcl[r.2.1]?, r.2.2.1 < q.2.2 ∧ tbg (r.2.2.2) = some (Jvm.Cond.fieldLink (cnm 16) r.1 (q.2.1 r.2.2.1).1 (q.2.1 r.2.2.1).2.1 (q.2.1 r.2.2.1).2.2.1) := by decide +kernel
theorem tF_ok_17 : ∀ r ∈ tF 17, ∃ q ∈ wcl[r.2.1]?, r.2.2.1 < q.2.2 ∧ tbg (r.2.2.2) = some (Jvm.Cond.fieldLink (cnm 17) r.1 (q.2.1 r.2.2.1).1 (q.2.1 r.2.2.1).2.1 (q.2.1 r.2.2.1).2.2.1) := by decide +kernel
theorem tF_ok_18 : ∀ r ∈ tF 18, ∃ q ∈ wcl[r.2.1]?, r.2.2.1 < q.2.2 ∧ tbg (r.2.2.2) = some (Jvm.Cond.fieldLink (cnm 18) r.1 (q.2.1 r.2.2.1).1 (q.2.1 r.2.2.1).2.1 (q.2.1 r.2.2.1).2.2.1) := by decide +kernel
theorem tF_ok_19 : ∀ r ∈ tF 19, ∃ q ∈ wcl[r.2.1]?, r.2.2.1 < q.2.2 ∧ tbg (r.2.2.2) = some (Jvm.Cond.fieldLink (cnm 19) r.1 (q.2.1 r.2.2.1).1 (q.2.1 r.2.2.1).2.1 (q.2.1 r.2.2.1).2.2.1) := by decide +kernel
theorem tF_ok : ∀ own, own < 20 → ∀ r ∈ tF own, ∃ q ∈ wcl[r.2.1]?, r.2.2.1 < q.2.2 ∧ tbg (r.2.2.2) = some (Jvm.Cond.fieldLink (cnm own) r.1 (q.2.1 r.2.2.1).1 (q.2.1 r.2.2.1).2.1 (q.2.1 r.2.2.1).2.2.1) := by
  intro own h
  match own, h with
  | 0, _ => exact tF_ok_0
  | 1, _ => exact tF_ok_1
  | 2, _ => exact tF_ok_2
  | 3, _ => exact tF_ok_3
  | 4, _ => exact tF_ok_4
  | 5, _ => exact tF_ok_5
  | 6, _ => exact tF_ok_6
  | 7, _ => exact tF_ok_7
  | 8, _ => exact tF_ok_8
  | 9, _ => exact tF_ok_9
  | 10, _ => exact tF_ok_10
  | 11, _ => exact tF_ok_11
  | 12, _ => exact tF_ok_12
  | 13, _ => exact tF_ok_13
  | 14, _ => exact tF_ok_14
  | 15, _ => exact tF_ok_15
  | 16, _ => exact tF_ok_16
  | 17, _ => exact tF_ok_17
  | 18, _ => exact tF_ok_18
  | 19, _ => exact tF_ok_19
  | n + 20, h => exact absurd h (by omega)
theorem tW_ok : ∀ own, own < 20 → ∀ r ∈ tW own, ∃ q ∈ wcl[r.2.1]?, r.2.2.1 = q.2.2 ∧ tbg (r.2.2.2.1) = some (Jvm.Cond.classLink (cnm own) r.1 q.1) ∧ tbg (r.2.2.2.2.1) = some (Jvm.Cond.instantiable q.1 q.2.2) ∧ tbg (r.2.2.2.2.2) = some (Jvm.Cond.initialized q.1) := by decide +kernel
theorem tA_ok : ∀ own, own < 20 → ∀ r ∈ tA own, tbg (r.2) = some (Jvm.Cond.classLink (cnm own) r.1 "LintelBrothers$Data") := by decide +kernel
theorem tMA_ok : ∀ own, own < 20 → ∀ r ∈ tMA own, tbg (r.2) = some (Jvm.Cond.classLink (cnm own) r.1 "[[I") := by decide +kernel
theorem ao_w : tbg (1155) = some (Jvm.Cond.arrayOver (.object "LintelBrothers$Data")) ∧ tbg (2025) = some (Jvm.Cond.arrayOver (.array .int)) := by decide +kernel
theorem tKI_ok : ∀ own, own < 20 → ∀ r ∈ tKI own, tbg (r.2.2) = some (Jvm.Cond.constant (cnm own) r.1 r.2.1) := by decide +kernel
theorem tKL_ok : ∀ own, own < 20 → ∀ r ∈ tKL own, tbg (r.2.2) = some (Jvm.Cond.constantLong (cnm own) r.1 (Int64.ofInt r.2.1)) := by decide +kernel
theorem tGS_ok : ∀ own, own < 20 → ∀ r ∈ tGS own, tbg (r.2.2) = some (match r.2.1 with | 0 => Jvm.Cond.fieldLink (cnm own) r.1 "java/lang/String" "COMPACT_STRINGS" "Z" | 1 => Jvm.Cond.fieldLink (cnm own) r.1 "java/lang/Integer" "DigitTens" "[B" | 2 => Jvm.Cond.fieldLink (cnm own) r.1 "java/lang/Integer" "DigitOnes" "[B" | _ => Jvm.Cond.fieldLink (cnm own) r.1 "jdk/internal/util/Preconditions" "SIOOBE_FORMATTER" "Ljava/util/function/BiFunction;") := by decide +kernel
