/-! methods and links, with their places in the tables: by program out of tables_1 -/
/-- the tables' lists by number -/
def tbc (j : Nat) : List Jvm.Cond := match j with
  | 0 => sbM.map (fun y => Jvm.Cond.selects "java/lang/StringBuilder" y y)
  | 1 => tables_1_1
  | 2 => tables_1_2
  | 3 => tables_1_3
  | 4 => tables_1_4
  | 5 => tables_1_5
  | 6 => tables_1_6
  | 7 => tables_1_7
  | 8 => tables_1_8
  | 9 => tables_1_9
  | 11 => k2_sels lw_privs_1
  | 12 => k2_sels lw_privs_2
  | 13 => k2_sels lw_privs_3
  | 14 => k2_sels lw_privs_4
  | 15 => k2_sels lw_privs_5
  | 16 => k2_sels lw_privs_6
  | _ => []
def tbg (n : Nat) : Option Jvm.Cond := (tbc (n / 1000))[n % 1000]?
theorem tbc_mem (j : Nat) (w : Jvm.Cond) (h : w ∈ tbc j) : w ∈ lw_tb := by
  unfold tbc at h
  unfold lw_tb lw_tbl lw_privs k2_sels tables_1
  split at h <;> first
    | (simp only [List.mem_append, List.map_append]; unfold k2_sels at h; simp only [h, true_or, or_true]; done)
    | (simp only [List.mem_append, List.map_append]; simp only [h, true_or, or_true]; done)
    | cases h
theorem tbg_mem {n : Nat} {w : Jvm.Cond} (h : tbg n = some w) : w ∈ lw_tb := tbc_mem _ w (List.mem_of_getElem? h)
def mi_L_law : MIT := (⟨"LintelBrothersLaw", "law", "([I)Z"⟩, code, 9, (Option.some Jvm.ClassFile.FieldType.boolean), [], false)
def mi_X8_init : MIT := (⟨"LintelBrothers", "<init>", "()V"⟩, prog_1_method_1_code, 1, (Option.none : Option Jvm.ClassFile.FieldType), [], true)
def mi_X9_init : MIT := (⟨"LintelBrothersModel", "<init>", "()V"⟩, prog_11_method_1_code, 1, (Option.none : Option Jvm.ClassFile.FieldType), [], true)
def mi_L_addDoor : MIT := (⟨"LintelBrothersLaw", "addDoor", "(LLintelBrothers;II[J)I"⟩, method_3_code, 5, (Option.some Jvm.ClassFile.FieldType.int), [(0, 10, 13, 13), (0, 10, 17, 15)], false)
def mi_X9_addDoor : MIT := (⟨"LintelBrothersModel", "addDoor", "(II)I"⟩, prog_11_method_29_code, 3, (Option.some Jvm.ClassFile.FieldType.int), [], false)
def mi_X9_thrown : MIT := (⟨"LintelBrothersModel", "thrown", "()I"⟩, prog_11_method_2_code, 1, (Option.some Jvm.ClassFile.FieldType.int), [], false)
def mi_L_setFrame : MIT := (⟨"LintelBrothersLaw", "setFrame", "(LLintelBrothers;III[J)I"⟩, method_4_code, 6, (Option.some Jvm.ClassFile.FieldType.int), [(0, 12, 15, 21), (0, 12, 19, 13)], false)
def mi_X9_setFrame : MIT := (⟨"LintelBrothersModel", "setFrame", "(III)I"⟩, prog_11_method_32_code, 4, (Option.some Jvm.ClassFile.FieldType.int), [], false)
def mi_L_narrow : MIT := (⟨"LintelBrothersLaw", "narrow", "(LLintelBrothers;III[J)I"⟩, method_5_code, 6, (Option.some Jvm.ClassFile.FieldType.int), [(0, 12, 15, 21), (0, 12, 19, 13), (0, 12, 23, 15)], false)
def mi_X9_narrow : MIT := (⟨"LintelBrothersModel", "narrow", "(III)I"⟩, prog_11_method_34_code, 4, (Option.some Jvm.ClassFile.FieldType.int), [], false)
def mi_X8_reset : MIT := (⟨"LintelBrothers", "reset", "()I"⟩, prog_1_method_5_code, 2, (Option.some Jvm.ClassFile.FieldType.int), [], false)
def mi_X9_reset : MIT := (⟨"LintelBrothersModel", "reset", "()I"⟩, prog_11_method_36_code, 1, (Option.some Jvm.ClassFile.FieldType.int), [], false)
def mi_X8_doorCount : MIT := (⟨"LintelBrothers", "doorCount", "()I"⟩, prog_1_method_6_code, 1, (Option.some Jvm.ClassFile.FieldType.int), [], false)
def mi_X9_doorCount : MIT := (⟨"LintelBrothersModel", "doorCount", "()I"⟩, prog_11_method_47_code, 1, (Option.some Jvm.ClassFile.FieldType.int), [], false)
def mi_L_lowOf : MIT := (⟨"LintelBrothersLaw", "lowOf", "(LLintelBrothers;I[J)I"⟩, method_6_code, 4, (Option.some Jvm.ClassFile.FieldType.int), [(0, 9, 12, 21)], false)
def mi_X9_lowOf : MIT := (⟨"LintelBrothersModel", "lowOf", "(I)I"⟩, prog_11_method_49_code, 2, (Option.some Jvm.ClassFile.FieldType.int), [], false)
def mi_L_highOf : MIT := (⟨"LintelBrothersLaw", "highOf", "(LLintelBrothers;I[J)I"⟩, method_7_code, 4, (Option.some Jvm.ClassFile.FieldType.int), [(0, 9, 12, 21)], false)
def mi_X9_highOf : MIT := (⟨"LintelBrothersModel", "highOf", "(I)I"⟩, prog_11_method_50_code, 2, (Option.some Jvm.ClassFile.FieldType.int), [], false)
def mi_L_frameLow : MIT := (⟨"LintelBrothersLaw", "frameLow", "(LLintelBrothers;I[J)I"⟩, method_8_code, 4, (Option.some Jvm.ClassFile.FieldType.int), [(0, 9, 12, 21)], false)
def mi_X9_frameLow : MIT := (⟨"LintelBrothersModel", "frameLow", "(I)I"⟩, prog_11_method_51_code, 2, (Option.some Jvm.ClassFile.FieldType.int), [], false)
def mi_L_frameHigh : MIT := (⟨"LintelBrothersLaw", "frameHigh", "(LLintelBrothers;I[J)I"⟩, method_9_code, 4, (Option.some Jvm.ClassFile.FieldType.int), [(0, 9, 12, 21)], false)
def mi_X9_frameHigh : MIT := (⟨"LintelBrothersModel", "frameHigh", "(I)I"⟩, prog_11_method_52_code, 2, (Option.some Jvm.ClassFile.FieldType.int), [], false)
def mi_L_widthOf : MIT := (⟨"LintelBrothersLaw", "widthOf", "(LLintelBrothers;I[J)I"⟩, method_10_code, 4, (Option.some Jvm.ClassFile.FieldType.int), [(0, 9, 12, 21)], false)
def mi_X9_widthOf : MIT := (⟨"LintelBrothersModel", "widthOf", "(I)I"⟩, prog_11_method_53_code, 2, (Option.some Jvm.ClassFile.FieldType.int), [], false)
def mi_L_isFixed : MIT := (⟨"LintelBrothersLaw", "isFixed", "(LLintelBrothers;I[J)I"⟩, method_11_code, 4, (Option.some Jvm.ClassFile.FieldType.int), [(0, 16, 19, 21)], false)
def mi_X9_isFixed : MIT := (⟨"LintelBrothersModel", "isFixed", "(I)Z"⟩, prog_11_method_54_code, 2, (Option.some Jvm.ClassFile.FieldType.boolean), [], false)
def mi_L_constraintsOf : MIT := (⟨"LintelBrothersLaw", "constraintsOf", "(LLintelBrothers;I[J)I"⟩, method_12_code, 4, (Option.some Jvm.ClassFile.FieldType.int), [(0, 9, 12, 21)], false)
def mi_X9_constraintsOf : MIT := (⟨"LintelBrothersModel", "constraintsOf", "(I)I"⟩, prog_11_method_55_code, 2, (Option.some Jvm.ClassFile.FieldType.int), [], false)
def mi_L_addConstraint : MIT := (⟨"LintelBrothersLaw", "addConstraint", "(LLintelBrothers;CIII[J)I"⟩, method_13_code, 7, (Option.some Jvm.ClassFile.FieldType.int), [(0, 14, 17, 21), (0, 14, 21, 13), (0, 14, 25, 15)], false)
def mi_X9_addConstraint : MIT := (⟨"LintelBrothersModel", "addConstraint", "(CIII)I"⟩, prog_11_method_39_code, 5, (Option.some Jvm.ClassFile.FieldType.int), [], false)
def mi_L_removeConstraint : MIT := (⟨"LintelBrothersLaw", "removeConstraint", "(LLintelBrothers;I[J)I"⟩, method_14_code, 4, (Option.some Jvm.ClassFile.FieldType.int), [(0, 9, 12, 56)], false)
def mi_X9_removeConstraint : MIT := (⟨"LintelBrothersModel", "removeConstraint", "(I)I"⟩, prog_11_method_41_code, 2, (Option.some Jvm.ClassFile.FieldType.int), [], false)
def mi_X8_constraintCount : MIT := (⟨"LintelBrothers", "constraintCount", "()I"⟩, prog_1_method_16_code, 1, (Option.some Jvm.ClassFile.FieldType.int), [], false)
def mi_X9_constraintCount : MIT := (⟨"LintelBrothersModel", "constraintCount", "()I"⟩, prog_11_method_56_code, 1, (Option.some Jvm.ClassFile.FieldType.int), [], false)
def mi_L_constraintAt : MIT := (⟨"LintelBrothersLaw", "constraintAt", "(LLintelBrothers;I[J)I"⟩, method_15_code, 4, (Option.some Jvm.ClassFile.FieldType.int), [(0, 9, 12, 56)], false)
def mi_X9_constraintAt : MIT := (⟨"LintelBrothersModel", "constraintAt", "(I)I"⟩, prog_11_method_57_code, 2, (Option.some Jvm.ClassFile.FieldType.int), [], false)
def mi_L_kindOf : MIT := (⟨"LintelBrothersLaw", "kindOf", "(LLintelBrothers;I[J)I"⟩, method_16_code, 4, (Option.some Jvm.ClassFile.FieldType.int), [(0, 9, 12, 56)], false)
def mi_X9_kindOf : MIT := (⟨"LintelBrothersModel", "kindOf", "(I)C"⟩, prog_11_method_59_code, 2, (Option.some Jvm.ClassFile.FieldType.char), [], false)
def mi_L_firstOf : MIT := (⟨"LintelBrothersLaw", "firstOf", "(LLintelBrothers;I[J)I"⟩, method_17_code, 4, (Option.some Jvm.ClassFile.FieldType.int), [(0, 9, 12, 56)], false)
def mi_X9_firstOf : MIT := (⟨"LintelBrothersModel", "firstOf", "(I)I"⟩, prog_11_method_60_code, 2, (Option.some Jvm.ClassFile.FieldType.int), [], false)
def mi_L_secondOf : MIT := (⟨"LintelBrothersLaw", "secondOf", "(LLintelBrothers;I[J)I"⟩, method_18_code, 4, (Option.some Jvm.ClassFile.FieldType.int), [(0, 9, 12, 56)], false)
def mi_X9_secondOf : MIT := (⟨"LintelBrothersModel", "secondOf", "(I)I"⟩, prog_11_method_61_code, 2, (Option.some Jvm.ClassFile.FieldType.int), [], false)
def mi_L_gapOf : MIT := (⟨"LintelBrothersLaw", "gapOf", "(LLintelBrothers;I[J)I"⟩, method_19_code, 4, (Option.some Jvm.ClassFile.FieldType.int), [(0, 9, 12, 56)], false)
def mi_X9_gapOf : MIT := (⟨"LintelBrothersModel", "gapOf", "(I)I"⟩, prog_11_method_62_code, 2, (Option.some Jvm.ClassFile.FieldType.int), [], false)
def mi_L_isSafe : MIT := (⟨"LintelBrothersLaw", "isSafe", "(LLintelBrothers;I[J)I"⟩, method_20_code, 4, (Option.some Jvm.ClassFile.FieldType.int), [(0, 16, 19, 56)], false)
def mi_X9_isSafe : MIT := (⟨"LintelBrothersModel", "isSafe", "(I)Z"⟩, prog_11_method_65_code, 2, (Option.some Jvm.ClassFile.FieldType.boolean), [], false)
def mi_L_isBroken : MIT := (⟨"LintelBrothersLaw", "isBroken", "(LLintelBrothers;I[J)I"⟩, method_21_code, 4, (Option.some Jvm.ClassFile.FieldType.int), [(0, 16, 19, 56)], false)
def mi_X9_isBroken : MIT := (⟨"LintelBrothersModel", "isBroken", "(I)Z"⟩, prog_11_method_66_code, 2, (Option.some Jvm.ClassFile.FieldType.boolean), [], false)
def mi_L_pass : MIT := (⟨"LintelBrothersLaw", "pass", "(LLintelBrothers;[J)I"⟩, method_22_code, 3, (Option.some Jvm.ClassFile.FieldType.int), [(0, 8, 11, 15)], false)
def mi_X9_pass : MIT := (⟨"LintelBrothersModel", "pass", "()I"⟩, prog_11_method_43_code, 1, (Option.some Jvm.ClassFile.FieldType.int), [], false)
def mi_L_settle : MIT := (⟨"LintelBrothersLaw", "settle", "(LLintelBrothers;[J)I"⟩, method_23_code, 3, (Option.some Jvm.ClassFile.FieldType.int), [(0, 8, 11, 15)], false)
def mi_X9_settle : MIT := (⟨"LintelBrothersModel", "settle", "()I"⟩, prog_11_method_45_code, 1, (Option.some Jvm.ClassFile.FieldType.int), [], false)
def mi_X8_isSettled : MIT := (⟨"LintelBrothers", "isSettled", "()Z"⟩, prog_1_method_26_code, 1, (Option.some Jvm.ClassFile.FieldType.boolean), [], false)
def mi_X9_isSettled : MIT := (⟨"LintelBrothersModel", "isSettled", "()Z"⟩, prog_11_method_68_code, 1, (Option.some Jvm.ClassFile.FieldType.boolean), [], false)
def mi_L_wouldChange : MIT := (⟨"LintelBrothersLaw", "wouldChange", "(LLintelBrothers;[J)I"⟩, method_24_code, 3, (Option.some Jvm.ClassFile.FieldType.int), [(0, 8, 11, 56)], false)
def mi_X9_wouldChange : MIT := (⟨"LintelBrothersModel", "wouldChange", "()I"⟩, prog_11_method_69_code, 2, (Option.some Jvm.ClassFile.FieldType.int), [], false)
def mi_L_lowestHeight : MIT := (⟨"LintelBrothersLaw", "lowestHeight", "(LLintelBrothers;I[J)I"⟩, method_25_code, 4, (Option.some Jvm.ClassFile.FieldType.int), [(0, 9, 12, 21), (0, 9, 15, 56)], false)
def mi_X9_lowestHeight : MIT := (⟨"LintelBrothersModel", "lowestHeight", "(I)I"⟩, prog_11_method_70_code, 4, (Option.some Jvm.ClassFile.FieldType.int), [], false)
def mi_L_lowestHeightByPaths : MIT := (⟨"LintelBrothersLaw", "lowestHeightByPaths", "(LLintelBrothers;I[J)I"⟩, method_26_code, 4, (Option.some Jvm.ClassFile.FieldType.int), [(0, 9, 12, 21), (0, 9, 15, 56)], false)
def mi_X9_lowestHeightByPaths : MIT := (⟨"LintelBrothersModel", "lowestHeightByPaths", "(I)I"⟩, prog_11_method_71_code, 2, (Option.some Jvm.ClassFile.FieldType.int), [], false)
def mi_X8_passCount : MIT := (⟨"LintelBrothers", "passCount", "()I"⟩, prog_1_method_30_code, 1, (Option.some Jvm.ClassFile.FieldType.int), [], false)
def mi_X9_passCount : MIT := (⟨"LintelBrothersModel", "passCount", "()I"⟩, prog_11_method_72_code, 1, (Option.some Jvm.ClassFile.FieldType.int), [], false)
def mi_X8_changeCount : MIT := (⟨"LintelBrothers", "changeCount", "()I"⟩, prog_1_method_31_code, 1, (Option.some Jvm.ClassFile.FieldType.int), [], false)
def mi_X9_changeCount : MIT := (⟨"LintelBrothersModel", "changeCount", "()I"⟩, prog_11_method_73_code, 1, (Option.some Jvm.ClassFile.FieldType.int), [], false)
def mi_X8_hasPeace : MIT := (⟨"LintelBrothers", "hasPeace", "()Z"⟩, prog_1_method_32_code, 1, (Option.some Jvm.ClassFile.FieldType.boolean), [], false)
def mi_X9_hasPeace : MIT := (⟨"LintelBrothersModel", "hasPeace", "()Z"⟩, prog_11_method_84_code, 1, (Option.some Jvm.ClassFile.FieldType.boolean), [], false)
def mi_L_peaceHeight : MIT := (⟨"LintelBrothersLaw", "peaceHeight", "(LLintelBrothers;I[J)I"⟩, method_27_code, 4, (Option.some Jvm.ClassFile.FieldType.int), [(0, 9, 12, 21), (0, 9, 15, 56)], false)
def mi_X9_peaceHeight : MIT := (⟨"LintelBrothersModel", "peaceHeight", "(I)I"⟩, prog_11_method_86_code, 2, (Option.some Jvm.ClassFile.FieldType.int), [], false)
def mi_L_peaceSum : MIT := (⟨"LintelBrothersLaw", "peaceSum", "(LLintelBrothers;[J)I"⟩, method_28_code, 3, (Option.some Jvm.ClassFile.FieldType.int), [(0, 8, 11, 56)], false)
def mi_X9_peaceSum : MIT := (⟨"LintelBrothersModel", "peaceSum", "()I"⟩, prog_11_method_87_code, 4, (Option.some Jvm.ClassFile.FieldType.int), [], false)
def mi_L_arePossible : MIT := (⟨"LintelBrothersLaw", "arePossible", "(LLintelBrothers;IIII[J)I"⟩, method_29_code, 7, (Option.some Jvm.ClassFile.FieldType.int), [(0, 21, 24, 21), (0, 21, 28, 13)], false)
def mi_X9_arePossible : MIT := (⟨"LintelBrothersModel", "arePossible", "(IIII)Z"⟩, prog_11_method_88_code, 5, (Option.some Jvm.ClassFile.FieldType.boolean), [], false)
def mi_L_doorByWidth : MIT := (⟨"LintelBrothersLaw", "doorByWidth", "(LLintelBrothers;I[J)I"⟩, method_30_code, 4, (Option.some Jvm.ClassFile.FieldType.int), [(0, 9, 12, 56)], false)
def mi_X9_doorByWidth : MIT := (⟨"LintelBrothersModel", "doorByWidth", "(I)I"⟩, prog_11_method_90_code, 5, (Option.some Jvm.ClassFile.FieldType.int), [], false)
def mi_L_constraintByGap : MIT := (⟨"LintelBrothersLaw", "constraintByGap", "(LLintelBrothers;I[J)I"⟩, method_31_code, 4, (Option.some Jvm.ClassFile.FieldType.int), [(0, 9, 12, 56)], false)
def mi_X9_constraintByGap : MIT := (⟨"LintelBrothersModel", "constraintByGap", "(I)I"⟩, prog_11_method_91_code, 5, (Option.some Jvm.ClassFile.FieldType.int), [], false)
def mi_X8_fixedCount : MIT := (⟨"LintelBrothers", "fixedCount", "()I"⟩, prog_1_method_38_code, 3, (Option.some Jvm.ClassFile.FieldType.int), [], false)
def mi_X9_fixedCount : MIT := (⟨"LintelBrothersModel", "fixedCount", "()I"⟩, prog_11_method_92_code, 3, (Option.some Jvm.ClassFile.FieldType.int), [], false)
def mi_X8_totalWidth : MIT := (⟨"LintelBrothers", "totalWidth", "()I"⟩, prog_1_method_39_code, 1, (Option.some Jvm.ClassFile.FieldType.int), [], false)
def mi_X9_totalWidth : MIT := (⟨"LintelBrothersModel", "totalWidth", "()I"⟩, prog_11_method_93_code, 3, (Option.some Jvm.ClassFile.FieldType.int), [], false)
def mi_X8_totalFrameWidth : MIT := (⟨"LintelBrothers", "totalFrameWidth", "()I"⟩, prog_1_method_40_code, 1, (Option.some Jvm.ClassFile.FieldType.int), [], false)
def mi_X9_totalFrameWidth : MIT := (⟨"LintelBrothersModel", "totalFrameWidth", "()I"⟩, prog_11_method_94_code, 3, (Option.some Jvm.ClassFile.FieldType.int), [], false)
def mi_L_meanWidth : MIT := (⟨"LintelBrothersLaw", "meanWidth", "(LLintelBrothers;[D)I"⟩, method_32_code, 3, (Option.some Jvm.ClassFile.FieldType.int), [(0, 7, 10, 116)], false)
def mi_X9_meanWidth : MIT := (⟨"LintelBrothersModel", "meanWidth", "()D"⟩, prog_11_method_95_code, 2, (Option.some Jvm.ClassFile.FieldType.double), [], false)
def mi_L_fixedShare : MIT := (⟨"LintelBrothersLaw", "fixedShare", "(LLintelBrothers;[D)I"⟩, method_33_code, 3, (Option.some Jvm.ClassFile.FieldType.int), [(0, 8, 11, 116)], false)
def mi_X9_fixedShare : MIT := (⟨"LintelBrothersModel", "fixedShare", "()F"⟩, prog_11_method_96_code, 2, (Option.some Jvm.ClassFile.FieldType.float), [], false)
def mi_X8_isConsistent : MIT := (⟨"LintelBrothers", "isConsistent", "()Z"⟩, prog_1_method_43_code, 4, (Option.some Jvm.ClassFile.FieldType.boolean), [], false)
def mi_X9_isConsistent : MIT := (⟨"LintelBrothersModel", "isConsistent", "()Z"⟩, prog_11_method_97_code, 1, (Option.some Jvm.ClassFile.FieldType.boolean), [], false)
def mi_L_writeDoor : MIT := (⟨"LintelBrothersLaw", "writeDoor", "(LLintelBrothers;I[J)I"⟩, method_34_code, 4, (Option.some Jvm.ClassFile.FieldType.int), [(0, 9, 12, 21)], false)
def mi_X9_writeDoor : MIT := (⟨"LintelBrothersModel", "writeDoor", "(I)I"⟩, prog_11_method_100_code, 2, (Option.some Jvm.ClassFile.FieldType.int), [], false)
def mi_L_writeConstraint : MIT := (⟨"LintelBrothersLaw", "writeConstraint", "(LLintelBrothers;I[J)I"⟩, method_35_code, 4, (Option.some Jvm.ClassFile.FieldType.int), [(0, 9, 12, 56)], false)
def mi_X9_writeConstraint : MIT := (⟨"LintelBrothersModel", "writeConstraint", "(I)I"⟩, prog_11_method_101_code, 3, (Option.some Jvm.ClassFile.FieldType.int), [], false)
def mi_L_outputAt : MIT := (⟨"LintelBrothersLaw", "outputAt", "(LLintelBrothers;I[J)I"⟩, method_36_code, 4, (Option.some Jvm.ClassFile.FieldType.int), [(0, 9, 12, 21)], false)
def mi_X9_outputAt : MIT := (⟨"LintelBrothersModel", "outputAt", "(I)C"⟩, prog_11_method_102_code, 2, (Option.some Jvm.ClassFile.FieldType.char), [], false)
def mi_L_appendInput : MIT := (⟨"LintelBrothersLaw", "appendInput", "(LLintelBrothers;C[J)I"⟩, method_37_code, 4, (Option.some Jvm.ClassFile.FieldType.int), [(0, 9, 12, 13), (0, 9, 15, 135)], false)
def mi_X9_appendInput : MIT := (⟨"LintelBrothersModel", "appendInput", "(C)I"⟩, prog_11_method_103_code, 2, (Option.some Jvm.ClassFile.FieldType.int), [], false)
def mi_L_execute : MIT := (⟨"LintelBrothersLaw", "execute", "(LLintelBrothers;[J)I"⟩, method_38_code, 3, (Option.some Jvm.ClassFile.FieldType.int), [(0, 8, 11, 13), (0, 8, 14, 135), (0, 8, 17, 15)], false)
def mi_X9_execute : MIT := (⟨"LintelBrothersModel", "execute", "()I"⟩, prog_11_method_114_code, 3, (Option.some Jvm.ClassFile.FieldType.int), [], false)
def mi_L_syntaxErrorOffset : MIT := (⟨"LintelBrothersLaw", "syntaxErrorOffset", "(LLintelBrothers;[J)I"⟩, method_39_code, 3, (Option.some Jvm.ClassFile.FieldType.int), [(0, 8, 11, 56)], false)
def mi_X9_syntaxErrorOffset : MIT := (⟨"LintelBrothersModel", "syntaxErrorOffset", "()I"⟩, prog_11_method_115_code, 1, (Option.some Jvm.ClassFile.FieldType.int), [], false)
def mi_L_rejectionReason : MIT := (⟨"LintelBrothersLaw", "rejectionReason", "(LLintelBrothers;[J)I"⟩, method_40_code, 3, (Option.some Jvm.ClassFile.FieldType.int), [(0, 8, 11, 56)], false)
def mi_X9_rejectionReason : MIT := (⟨"LintelBrothersModel", "rejectionReason", "()I"⟩, prog_11_method_116_code, 1, (Option.some Jvm.ClassFile.FieldType.int), [], false)
def mi_L_rejectionDetail : MIT := (⟨"LintelBrothersLaw", "rejectionDetail", "(LLintelBrothers;[J)I"⟩, method_41_code, 3, (Option.some Jvm.ClassFile.FieldType.int), [(0, 8, 11, 56)], false)
def mi_X9_rejectionDetail : MIT := (⟨"LintelBrothersModel", "rejectionDetail", "()I"⟩, prog_11_method_117_code, 1, (Option.some Jvm.ClassFile.FieldType.int), [], false)
def mi_L_causeReason : MIT := (⟨"LintelBrothersLaw", "causeReason", "(LLintelBrothers;[J)I"⟩, method_42_code, 3, (Option.some Jvm.ClassFile.FieldType.int), [(0, 8, 11, 56)], false)
def mi_X9_causeReason : MIT := (⟨"LintelBrothersModel", "causeReason", "()I"⟩, prog_11_method_118_code, 1, (Option.some Jvm.ClassFile.FieldType.int), [], false)
def mi_L_undo : MIT := (⟨"LintelBrothersLaw", "undo", "(LLintelBrothers;[J)I"⟩, method_43_code, 3, (Option.some Jvm.ClassFile.FieldType.int), [(0, 8, 11, 135)], false)
def mi_X9_undo : MIT := (⟨"LintelBrothersModel", "undo", "()I"⟩, prog_11_method_119_code, 1, (Option.some Jvm.ClassFile.FieldType.int), [], false)
def mi_X8_saveSnapshot : MIT := (⟨"LintelBrothers", "saveSnapshot", "()I"⟩, prog_1_method_54_code, 1, (Option.some Jvm.ClassFile.FieldType.int), [], false)
def mi_X9_saveSnapshot : MIT := (⟨"LintelBrothersModel", "saveSnapshot", "()I"⟩, prog_11_method_120_code, 1, (Option.some Jvm.ClassFile.FieldType.int), [], false)
def mi_L_restoreSnapshot : MIT := (⟨"LintelBrothersLaw", "restoreSnapshot", "(LLintelBrothers;[J)I"⟩, method_44_code, 3, (Option.some Jvm.ClassFile.FieldType.int), [(0, 8, 11, 135)], false)
def mi_X9_restoreSnapshot : MIT := (⟨"LintelBrothersModel", "restoreSnapshot", "()I"⟩, prog_11_method_121_code, 1, (Option.some Jvm.ClassFile.FieldType.int), [], false)
def mi_X2_init : MIT := (⟨"LintelBrothers$Data", "<init>", "()V"⟩, prog_4_method_1_code, 1, (Option.none : Option Jvm.ClassFile.FieldType), [], true)
def mi_X3_init : MIT := (⟨"LintelBrothers$History", "<init>", "()V"⟩, prog_5_method_1_code, 2, (Option.none : Option Jvm.ClassFile.FieldType), [], true)
def mi_X0_init : MIT := (⟨"LintelBrothers$Bounds", "<init>", "()V"⟩, prog_2_method_1_code, 1, (Option.none : Option Jvm.ClassFile.FieldType), [], true)
def mi_X5_init : MIT := (⟨"LintelBrothers$Narrowing", "<init>", "()V"⟩, prog_7_method_1_code, 1, (Option.none : Option Jvm.ClassFile.FieldType), [], true)
def mi_X4_init : MIT := (⟨"LintelBrothers$LongestPaths", "<init>", "()V"⟩, prog_6_method_1_code, 1, (Option.none : Option Jvm.ClassFile.FieldType), [], true)
def mi_X6_init : MIT := (⟨"LintelBrothers$PeaceSearch", "<init>", "()V"⟩, prog_8_method_1_code, 1, (Option.none : Option Jvm.ClassFile.FieldType), [], true)
def mi_J4_init_da8c8 : MIT := (⟨"java/lang/StringBuilder", "<init>", "()V"⟩, prog_29_method_1_code, 1, (Option.none : Option Jvm.ClassFile.FieldType), [], true)
def mi_X7_init : MIT := (⟨"LintelBrothers$Script", "<init>", "()V"⟩, prog_9_method_1_code, 1, (Option.none : Option Jvm.ClassFile.FieldType), [], true)
def mi_X8_addDoor : MIT := (⟨"LintelBrothers", "addDoor", "(II)I"⟩, prog_1_method_2_code, 4, (Option.some Jvm.ClassFile.FieldType.int), [], false)
def mi_X9_begins : MIT := (⟨"LintelBrothersModel", "begins", "()V"⟩, prog_11_method_5_code, 1, (Option.none : Option Jvm.ClassFile.FieldType), [], false)
def mi_X9_adds : MIT := (⟨"LintelBrothersModel", "adds", "(II)I"⟩, prog_11_method_28_code, 4, (Option.some Jvm.ClassFile.FieldType.int), [], false)
def mi_X9_ends : MIT := (⟨"LintelBrothersModel", "ends", "(IIIII)I"⟩, prog_11_method_7_code, 6, (Option.some Jvm.ClassFile.FieldType.int), [], false)
def mi_X8_setFrame : MIT := (⟨"LintelBrothers", "setFrame", "(III)I"⟩, prog_1_method_3_code, 5, (Option.some Jvm.ClassFile.FieldType.int), [], false)
def mi_X9_frames : MIT := (⟨"LintelBrothersModel", "frames", "(III)I"⟩, prog_11_method_30_code, 4, (Option.some Jvm.ClassFile.FieldType.int), [], false)
def mi_X8_narrow : MIT := (⟨"LintelBrothers", "narrow", "(III)I"⟩, prog_1_method_4_code, 5, (Option.some Jvm.ClassFile.FieldType.int), [], false)
def mi_X9_narrowed : MIT := (⟨"LintelBrothersModel", "narrowed", "(III)I"⟩, prog_11_method_33_code, 6, (Option.some Jvm.ClassFile.FieldType.int), [], false)
def mi_X3_prepare : MIT := (⟨"LintelBrothers$History", "prepare", "(LLintelBrothers$Data;)V"⟩, prog_5_method_2_code, 2, (Option.none : Option Jvm.ClassFile.FieldType), [], false)
def mi_X2_openAll : MIT := (⟨"LintelBrothers$Data", "openAll", "()I"⟩, prog_4_method_5_code, 3, (Option.some Jvm.ClassFile.FieldType.int), [], false)
def mi_X3_keep : MIT := (⟨"LintelBrothers$History", "keep", "()V"⟩, prog_5_method_4_code, 1, (Option.none : Option Jvm.ClassFile.FieldType), [], false)
def mi_X9_resetsAll : MIT := (⟨"LintelBrothersModel", "resetsAll", "()I"⟩, prog_11_method_35_code, 1, (Option.some Jvm.ClassFile.FieldType.int), [], false)
def mi_X9_told : MIT := (⟨"LintelBrothersModel", "told", "(I)I"⟩, prog_11_method_46_code, 2, (Option.some Jvm.ClassFile.FieldType.int), [], false)
def mi_X8_lowOf : MIT := (⟨"LintelBrothers", "lowOf", "(I)I"⟩, prog_1_method_7_code, 2, (Option.some Jvm.ClassFile.FieldType.int), [], false)
def mi_X9_ofDoor : MIT := (⟨"LintelBrothersModel", "ofDoor", "(II)I"⟩, prog_11_method_48_code, 3, (Option.some Jvm.ClassFile.FieldType.int), [], false)
def mi_X8_highOf : MIT := (⟨"LintelBrothers", "highOf", "(I)I"⟩, prog_1_method_8_code, 2, (Option.some Jvm.ClassFile.FieldType.int), [], false)
def mi_X8_frameLow : MIT := (⟨"LintelBrothers", "frameLow", "(I)I"⟩, prog_1_method_9_code, 2, (Option.some Jvm.ClassFile.FieldType.int), [], false)
def mi_X8_frameHigh : MIT := (⟨"LintelBrothers", "frameHigh", "(I)I"⟩, prog_1_method_10_code, 2, (Option.some Jvm.ClassFile.FieldType.int), [], false)
def mi_X8_widthOf : MIT := (⟨"LintelBrothers", "widthOf", "(I)I"⟩, prog_1_method_11_code, 2, (Option.some Jvm.ClassFile.FieldType.int), [], false)
def mi_X9_isDoor : MIT := (⟨"LintelBrothersModel", "isDoor", "(I)Z"⟩, prog_11_method_12_code, 2, (Option.some Jvm.ClassFile.FieldType.boolean), [], false)
def mi_X9_isFine : MIT := (⟨"LintelBrothersModel", "isFine", "(Z)Z"⟩, prog_11_method_9_code, 2, (Option.some Jvm.ClassFile.FieldType.boolean), [], false)
def mi_X9_width : MIT := (⟨"LintelBrothersModel", "width", "(I)I"⟩, prog_11_method_15_code, 2, (Option.some Jvm.ClassFile.FieldType.int), [], false)
def mi_X8_isFixed : MIT := (⟨"LintelBrothers", "isFixed", "(I)Z"⟩, prog_1_method_12_code, 2, (Option.some Jvm.ClassFile.FieldType.boolean), [], false)
def mi_X8_constraintsOf : MIT := (⟨"LintelBrothers", "constraintsOf", "(I)I"⟩, prog_1_method_13_code, 2, (Option.some Jvm.ClassFile.FieldType.int), [], false)
def mi_X9_takesPart : MIT := (⟨"LintelBrothersModel", "takesPart", "(I)I"⟩, prog_11_method_16_code, 4, (Option.some Jvm.ClassFile.FieldType.int), [], false)
def mi_X8_addConstraint : MIT := (⟨"LintelBrothers", "addConstraint", "(CIII)I"⟩, prog_1_method_14_code, 6, (Option.some Jvm.ClassFile.FieldType.int), [], false)
def mi_X9_binds : MIT := (⟨"LintelBrothersModel", "binds", "(IIII)I"⟩, prog_11_method_38_code, 6, (Option.some Jvm.ClassFile.FieldType.int), [], false)
def mi_X8_removeConstraint : MIT := (⟨"LintelBrothers", "removeConstraint", "(I)I"⟩, prog_1_method_15_code, 4, (Option.some Jvm.ClassFile.FieldType.int), [], false)
def mi_X9_drops : MIT := (⟨"LintelBrothersModel", "drops", "(I)I"⟩, prog_11_method_40_code, 5, (Option.some Jvm.ClassFile.FieldType.int), [], false)
def mi_X8_constraintAt : MIT := (⟨"LintelBrothers", "constraintAt", "(I)I"⟩, prog_1_method_17_code, 2, (Option.some Jvm.ClassFile.FieldType.int), [], false)
def mi_X9_in : MIT := (⟨"LintelBrothersModel", "in", "(III)Z"⟩, prog_11_method_3_code, 3, (Option.some Jvm.ClassFile.FieldType.boolean), [], false)
def mi_X9_c : MIT := (⟨"LintelBrothersModel", "c", "(II)I"⟩, prog_11_method_13_code, 3, (Option.some Jvm.ClassFile.FieldType.int), [], false)
def mi_X8_kindOf : MIT := (⟨"LintelBrothers", "kindOf", "(I)C"⟩, prog_1_method_18_code, 2, (Option.some Jvm.ClassFile.FieldType.char), [], false)
def mi_X9_ofRule : MIT := (⟨"LintelBrothersModel", "ofRule", "(II)I"⟩, prog_11_method_58_code, 3, (Option.some Jvm.ClassFile.FieldType.int), [], false)
def mi_X8_firstOf : MIT := (⟨"LintelBrothers", "firstOf", "(I)I"⟩, prog_1_method_19_code, 2, (Option.some Jvm.ClassFile.FieldType.int), [], false)
def mi_X8_secondOf : MIT := (⟨"LintelBrothers", "secondOf", "(I)I"⟩, prog_1_method_20_code, 2, (Option.some Jvm.ClassFile.FieldType.int), [], false)
def mi_X8_gapOf : MIT := (⟨"LintelBrothers", "gapOf", "(I)I"⟩, prog_1_method_21_code, 2, (Option.some Jvm.ClassFile.FieldType.int), [], false)
def mi_X8_isSafe : MIT := (⟨"LintelBrothers", "isSafe", "(I)Z"⟩, prog_1_method_22_code, 2, (Option.some Jvm.ClassFile.FieldType.boolean), [], false)
def mi_X9_rule : MIT := (⟨"LintelBrothersModel", "rule", "(I)I"⟩, prog_11_method_14_code, 3, (Option.some Jvm.ClassFile.FieldType.int), [], false)
def mi_X9_pairs : MIT := (⟨"LintelBrothersModel", "pairs", "(IZ)I"⟩, prog_11_method_64_code, 6, (Option.some Jvm.ClassFile.FieldType.int), [], false)
def mi_X8_isBroken : MIT := (⟨"LintelBrothers", "isBroken", "(I)Z"⟩, prog_1_method_23_code, 2, (Option.some Jvm.ClassFile.FieldType.boolean), [], false)
def mi_X8_pass : MIT := (⟨"LintelBrothers", "pass", "()I"⟩, prog_1_method_24_code, 2, (Option.some Jvm.ClassFile.FieldType.int), [], false)
def mi_X9_passes : MIT := (⟨"LintelBrothersModel", "passes", "()I"⟩, prog_11_method_42_code, 2, (Option.some Jvm.ClassFile.FieldType.int), [], false)
def mi_X8_settle : MIT := (⟨"LintelBrothers", "settle", "()I"⟩, prog_1_method_25_code, 2, (Option.some Jvm.ClassFile.FieldType.int), [], false)
def mi_X9_settlesAll : MIT := (⟨"LintelBrothersModel", "settlesAll", "()I"⟩, prog_11_method_44_code, 2, (Option.some Jvm.ClassFile.FieldType.int), [], false)
def mi_X8_changesOfTrialPass : MIT := (⟨"LintelBrothers", "changesOfTrialPass", "()I"⟩, prog_1_method_71_code, 1, (Option.some Jvm.ClassFile.FieldType.int), [], false)
def mi_X9_would : MIT := (⟨"LintelBrothersModel", "would", "()I"⟩, prog_11_method_67_code, 2, (Option.some Jvm.ClassFile.FieldType.int), [], false)
def mi_X8_wouldChange : MIT := (⟨"LintelBrothers", "wouldChange", "()I"⟩, prog_1_method_27_code, 2, (Option.some Jvm.ClassFile.FieldType.int), [], false)
def mi_X8_lowestHeight : MIT := (⟨"LintelBrothers", "lowestHeight", "(I)I"⟩, prog_1_method_28_code, 2, (Option.some Jvm.ClassFile.FieldType.int), [], false)
def mi_X9_copies : MIT := (⟨"LintelBrothersModel", "copies", "(II)V"⟩, prog_11_method_4_code, 4, (Option.none : Option Jvm.ClassFile.FieldType), [], false)
def mi_X9_settles : MIT := (⟨"LintelBrothersModel", "settles", "(Z)I"⟩, prog_11_method_27_code, 4, (Option.some Jvm.ClassFile.FieldType.int), [], false)
def mi_X9_d : MIT := (⟨"LintelBrothersModel", "d", "(II)I"⟩, prog_11_method_10_code, 3, (Option.some Jvm.ClassFile.FieldType.int), [], false)
def mi_X8_lowestHeightByPaths : MIT := (⟨"LintelBrothers", "lowestHeightByPaths", "(I)I"⟩, prog_1_method_29_code, 2, (Option.some Jvm.ClassFile.FieldType.int), [], false)
def mi_X6_find : MIT := (⟨"LintelBrothers$PeaceSearch", "find", "(LLintelBrothers$Constraints;LLintelBrothers$Bounds;I)Z"⟩, prog_8_method_2_code, 4, (Option.some Jvm.ClassFile.FieldType.boolean), [], false)
def mi_X9_opens : MIT := (⟨"LintelBrothersModel", "opens", "()V"⟩, prog_11_method_83_code, 2, (Option.none : Option Jvm.ClassFile.FieldType), [], false)
def mi_X9_isSolvableWith : MIT := (⟨"LintelBrothersModel", "isSolvableWith", "(IIJ)Z"⟩, prog_11_method_82_code, 6, (Option.some Jvm.ClassFile.FieldType.boolean), [], false)
def mi_X8_peaceHeight : MIT := (⟨"LintelBrothers", "peaceHeight", "(I)I"⟩, prog_1_method_33_code, 2, (Option.some Jvm.ClassFile.FieldType.int), [], false)
def mi_X9_makesPeace : MIT := (⟨"LintelBrothersModel", "makesPeace", "()Z"⟩, prog_11_method_85_code, 3, (Option.some Jvm.ClassFile.FieldType.boolean), [], false)
def mi_X9_lowest : MIT := (⟨"LintelBrothersModel", "lowest", "(J)I"⟩, prog_11_method_76_code, 3, (Option.some Jvm.ClassFile.FieldType.int), [], false)
def mi_X8_peaceSum : MIT := (⟨"LintelBrothers", "peaceSum", "()I"⟩, prog_1_method_34_code, 3, (Option.some Jvm.ClassFile.FieldType.int), [], false)
def mi_X8_arePossible : MIT := (⟨"LintelBrothers", "arePossible", "(IIII)Z"⟩, prog_1_method_35_code, 5, (Option.some Jvm.ClassFile.FieldType.boolean), [], false)
def mi_X8_doorByWidth : MIT := (⟨"LintelBrothers", "doorByWidth", "(I)I"⟩, prog_1_method_36_code, 3, (Option.some Jvm.ClassFile.FieldType.int), [], false)
def mi_X9_isNarrower : MIT := (⟨"LintelBrothersModel", "isNarrower", "(II)Z"⟩, prog_11_method_89_code, 5, (Option.some Jvm.ClassFile.FieldType.boolean), [], false)
def mi_X8_constraintByGap : MIT := (⟨"LintelBrothers", "constraintByGap", "(I)I"⟩, prog_1_method_37_code, 3, (Option.some Jvm.ClassFile.FieldType.int), [], false)
def mi_X0_isOneHeight : MIT := (⟨"LintelBrothers$Bounds", "isOneHeight", "(I)Z"⟩, prog_2_method_6_code, 2, (Option.some Jvm.ClassFile.FieldType.boolean), [], false)
def mi_X0_sumOfWidths : MIT := (⟨"LintelBrothers$Bounds", "sumOfWidths", "(I)I"⟩, prog_2_method_8_code, 4, (Option.some Jvm.ClassFile.FieldType.int), [], false)
def mi_X8_meanWidth : MIT := (⟨"LintelBrothers", "meanWidth", "()D"⟩, prog_1_method_41_code, 1, (Option.some Jvm.ClassFile.FieldType.double), [], false)
def mi_X8_fixedShare : MIT := (⟨"LintelBrothers", "fixedShare", "()F"⟩, prog_1_method_42_code, 1, (Option.some Jvm.ClassFile.FieldType.float), [], false)
def mi_X8_settleTrialWithoutApart : MIT := (⟨"LintelBrothers", "settleTrialWithoutApart", "()Z"⟩, prog_1_method_72_code, 1, (Option.some Jvm.ClassFile.FieldType.boolean), [], false)
def mi_X4_climb : MIT := (⟨"LintelBrothers$LongestPaths", "climb", "(LLintelBrothers$Constraints;LLintelBrothers$Bounds;I)Z"⟩, prog_6_method_2_code, 6, (Option.some Jvm.ClassFile.FieldType.boolean), [], false)
def mi_X2_isInOrder : MIT := (⟨"LintelBrothers$Data", "isInOrder", "(I)Z"⟩, prog_4_method_6_code, 2, (Option.some Jvm.ClassFile.FieldType.boolean), [], false)
def mi_X8_writeDoor : MIT := (⟨"LintelBrothers", "writeDoor", "(I)I"⟩, prog_1_method_44_code, 2, (Option.some Jvm.ClassFile.FieldType.int), [], false)
def mi_X9_writesNumber : MIT := (⟨"LintelBrothersModel", "writesNumber", "(I)V"⟩, prog_11_method_99_code, 2, (Option.none : Option Jvm.ClassFile.FieldType), [], false)
def mi_X9_writes : MIT := (⟨"LintelBrothersModel", "writes", "(I)V"⟩, prog_11_method_98_code, 2, (Option.none : Option Jvm.ClassFile.FieldType), [], false)
def mi_X8_writeConstraint : MIT := (⟨"LintelBrothers", "writeConstraint", "(I)I"⟩, prog_1_method_45_code, 4, (Option.some Jvm.ClassFile.FieldType.int), [], false)
def mi_X8_outputAt : MIT := (⟨"LintelBrothers", "outputAt", "(I)C"⟩, prog_1_method_46_code, 2, (Option.some Jvm.ClassFile.FieldType.char), [], false)
def mi_X8_appendInput : MIT := (⟨"LintelBrothers", "appendInput", "(C)I"⟩, prog_1_method_47_code, 2, (Option.some Jvm.ClassFile.FieldType.int), [], false)
def mi_X8_execute : MIT := (⟨"LintelBrothers", "execute", "()I"⟩, prog_1_method_48_code, 5, (Option.some Jvm.ClassFile.FieldType.int), [], false)
def mi_X9_parse : MIT := (⟨"LintelBrothersModel", "parse", "()V"⟩, prog_11_method_112_code, 1, (Option.none : Option Jvm.ClassFile.FieldType), [], false)
def mi_X9_does : MIT := (⟨"LintelBrothersModel", "does", "(I)I"⟩, prog_11_method_113_code, 5, (Option.some Jvm.ClassFile.FieldType.int), [], false)
def mi_X9_kept : MIT := (⟨"LintelBrothersModel", "kept", "(I)I"⟩, prog_11_method_6_code, 3, (Option.some Jvm.ClassFile.FieldType.int), [], false)
def mi_X8_syntaxErrorOffset : MIT := (⟨"LintelBrothers", "syntaxErrorOffset", "()I"⟩, prog_1_method_49_code, 1, (Option.some Jvm.ClassFile.FieldType.int), [], false)
def mi_X8_rejectionReason : MIT := (⟨"LintelBrothers", "rejectionReason", "()I"⟩, prog_1_method_50_code, 1, (Option.some Jvm.ClassFile.FieldType.int), [], false)
def mi_X8_rejectionDetail : MIT := (⟨"LintelBrothers", "rejectionDetail", "()I"⟩, prog_1_method_51_code, 1, (Option.some Jvm.ClassFile.FieldType.int), [], false)
def mi_X8_causeReason : MIT := (⟨"LintelBrothers", "causeReason", "()I"⟩, prog_1_method_52_code, 1, (Option.some Jvm.ClassFile.FieldType.int), [], false)
def mi_X8_undo : MIT := (⟨"LintelBrothers", "undo", "()I"⟩, prog_1_method_53_code, 1, (Option.some Jvm.ClassFile.FieldType.int), [], false)
def mi_X2_copyFrom : MIT := (⟨"LintelBrothers$Data", "copyFrom", "(LLintelBrothers$Data;)V"⟩, prog_4_method_2_code, 2, (Option.none : Option Jvm.ClassFile.FieldType), [], false)
def mi_X8_restoreSnapshot : MIT := (⟨"LintelBrothers", "restoreSnapshot", "()I"⟩, prog_1_method_55_code, 1, (Option.some Jvm.ClassFile.FieldType.int), [], false)
def mi_X1_init : MIT := (⟨"LintelBrothers$Constraints", "<init>", "()V"⟩, prog_3_method_1_code, 1, (Option.none : Option Jvm.ClassFile.FieldType), [], true)
def mi_J5_init_d00df : MIT := (⟨"java/lang/AbstractStringBuilder", "<init>", "(I)V"⟩, prog_13_method_2_code, 2, (Option.none : Option Jvm.ClassFile.FieldType), [], true)
def mi_X8_checkRange : MIT := (⟨"LintelBrothers", "checkRange", "(II)V"⟩, prog_1_method_59_code, 2, (Option.none : Option Jvm.ClassFile.FieldType), [], false)
def mi_X8_enterDoor : MIT := (⟨"LintelBrothers", "enterDoor", "(II)I"⟩, prog_1_method_63_code, 4, (Option.some Jvm.ClassFile.FieldType.int), [], false)
def mi_X9_isRange : MIT := (⟨"LintelBrothersModel", "isRange", "(II)Z"⟩, prog_11_method_17_code, 2, (Option.some Jvm.ClassFile.FieldType.boolean), [], false)
def mi_X9_rejects : MIT := (⟨"LintelBrothersModel", "rejects", "(II)I"⟩, prog_11_method_8_code, 3, (Option.some Jvm.ClassFile.FieldType.int), [], false)
def mi_X9_set : MIT := (⟨"LintelBrothersModel", "set", "(III)V"⟩, prog_11_method_11_code, 4, (Option.none : Option Jvm.ClassFile.FieldType), [], false)
def mi_X8_checkDoor : MIT := (⟨"LintelBrothers", "checkDoor", "(I)V"⟩, prog_1_method_60_code, 2, (Option.none : Option Jvm.ClassFile.FieldType), [], false)
def mi_X8_changeFrame : MIT := (⟨"LintelBrothers", "changeFrame", "(III)I"⟩, prog_1_method_64_code, 4, (Option.some Jvm.ClassFile.FieldType.int), [], false)
def mi_X9_resets : MIT := (⟨"LintelBrothersModel", "resets", "()V"⟩, prog_11_method_18_code, 2, (Option.none : Option Jvm.ClassFile.FieldType), [], false)
def mi_X9_unlike : MIT := (⟨"LintelBrothersModel", "unlike", "()I"⟩, prog_11_method_31_code, 3, (Option.some Jvm.ClassFile.FieldType.int), [], false)
def mi_X8_narrowDoor : MIT := (⟨"LintelBrothers", "narrowDoor", "(III)I"⟩, prog_1_method_65_code, 8, (Option.some Jvm.ClassFile.FieldType.int), [], false)
def mi_X2_differencesToFrame : MIT := (⟨"LintelBrothers$Data", "differencesToFrame", "(I)I"⟩, prog_4_method_4_code, 2, (Option.some Jvm.ClassFile.FieldType.int), [], false)
def mi_X0_copyFrom : MIT := (⟨"LintelBrothers$Bounds", "copyFrom", "(LLintelBrothers$Bounds;)V"⟩, prog_2_method_2_code, 2, (Option.none : Option Jvm.ClassFile.FieldType), [], false)
def mi_X0_width : MIT := (⟨"LintelBrothers$Bounds", "width", "(I)I"⟩, prog_2_method_5_code, 2, (Option.some Jvm.ClassFile.FieldType.int), [], false)
def mi_X1_countWith : MIT := (⟨"LintelBrothers$Constraints", "countWith", "(I)I"⟩, prog_3_method_7_code, 4, (Option.some Jvm.ClassFile.FieldType.int), [], false)
def mi_X8_isConstraint : MIT := (⟨"LintelBrothers", "isConstraint", "(CIII)Z"⟩, prog_1_method_58_code, 6, (Option.some Jvm.ClassFile.FieldType.boolean), [], false)
def mi_X8_enterConstraint : MIT := (⟨"LintelBrothers", "enterConstraint", "(CIII)I"⟩, prog_1_method_66_code, 7, (Option.some Jvm.ClassFile.FieldType.int), [], false)
def mi_X9_isKind : MIT := (⟨"LintelBrothersModel", "isKind", "(I)Z"⟩, prog_11_method_37_code, 1, (Option.some Jvm.ClassFile.FieldType.boolean), [], false)
def mi_X8_checkedPosition : MIT := (⟨"LintelBrothers", "checkedPosition", "(I)I"⟩, prog_1_method_61_code, 3, (Option.some Jvm.ClassFile.FieldType.int), [], false)
def mi_X8_takeConstraintAway : MIT := (⟨"LintelBrothers", "takeConstraintAway", "(I)I"⟩, prog_1_method_67_code, 2, (Option.some Jvm.ClassFile.FieldType.int), [], false)
def mi_X2_isAlwaysMet : MIT := (⟨"LintelBrothers$Data", "isAlwaysMet", "(I)Z"⟩, prog_4_method_7_code, 7, (Option.some Jvm.ClassFile.FieldType.boolean), [], false)
def mi_X9_holds : MIT := (⟨"LintelBrothersModel", "holds", "(IIII)Z"⟩, prog_11_method_63_code, 5, (Option.some Jvm.ClassFile.FieldType.boolean), [], false)
def mi_X2_isNeverMet : MIT := (⟨"LintelBrothers$Data", "isNeverMet", "(I)Z"⟩, prog_4_method_8_code, 7, (Option.some Jvm.ClassFile.FieldType.boolean), [], false)
def mi_X8_passOnce : MIT := (⟨"LintelBrothers", "passOnce", "()I"⟩, prog_1_method_68_code, 1, (Option.some Jvm.ClassFile.FieldType.int), [], false)
def mi_X9_goesThrough : MIT := (⟨"LintelBrothersModel", "goesThrough", "(Z)I"⟩, prog_11_method_26_code, 3, (Option.some Jvm.ClassFile.FieldType.int), [], false)
def mi_X8_passUntilSettled : MIT := (⟨"LintelBrothers", "passUntilSettled", "()I"⟩, prog_1_method_69_code, 1, (Option.some Jvm.ClassFile.FieldType.int), [], false)
def mi_X5_begin : MIT := (⟨"LintelBrothers$Narrowing", "begin", "()V"⟩, prog_7_method_2_code, 1, (Option.none : Option Jvm.ClassFile.FieldType), [], false)
def mi_X5_makePass : MIT := (⟨"LintelBrothers$Narrowing", "makePass", "(LLintelBrothers$Constraints;LLintelBrothers$Bounds;Z)Z"⟩, prog_7_method_4_code, 5, (Option.some Jvm.ClassFile.FieldType.boolean), [], false)
def mi_X6_chooseSides : MIT := (⟨"LintelBrothers$PeaceSearch", "chooseSides", "(LLintelBrothers$PeaceSearch;LLintelBrothers$Constraints;LLintelBrothers$Bounds;II)V"⟩, prog_8_method_3_code, 7, (Option.none : Option Jvm.ClassFile.FieldType), [], false)
def mi_X9_from : MIT := (⟨"LintelBrothersModel", "from", "(I)J"⟩, prog_11_method_74_code, 1, (Option.some Jvm.ClassFile.FieldType.long), [], false)
def mi_X9_till : MIT := (⟨"LintelBrothersModel", "till", "(I)J"⟩, prog_11_method_75_code, 1, (Option.some Jvm.ClassFile.FieldType.long), [], false)
def mi_X9_isSolvable : MIT := (⟨"LintelBrothersModel", "isSolvable", "(I)Z"⟩, prog_11_method_81_code, 7, (Option.some Jvm.ClassFile.FieldType.boolean), [], false)
def mi_X8_isHeight : MIT := (⟨"LintelBrothers", "isHeight", "(I)Z"⟩, prog_1_method_56_code, 1, (Option.some Jvm.ClassFile.FieldType.boolean), [], false)
def mi_X0_fix : MIT := (⟨"LintelBrothers$Bounds", "fix", "(II)Z"⟩, prog_2_method_4_code, 3, (Option.some Jvm.ClassFile.FieldType.boolean), [], false)
def mi_X2_doorAtRank : MIT := (⟨"LintelBrothers$Data", "doorAtRank", "(I)I"⟩, prog_4_method_9_code, 3, (Option.some Jvm.ClassFile.FieldType.int), [], false)
def mi_X1_positionAtRank : MIT := (⟨"LintelBrothers$Constraints", "positionAtRank", "(I)I"⟩, prog_3_method_8_code, 3, (Option.some Jvm.ClassFile.FieldType.int), [], false)
def mi_X5_makePassesToTheEnd : MIT := (⟨"LintelBrothers$Narrowing", "makePassesToTheEnd", "(LLintelBrothers$Constraints;LLintelBrothers$Bounds;Z)Z"⟩, prog_7_method_3_code, 6, (Option.some Jvm.ClassFile.FieldType.boolean), [], false)
def mi_X4_climbOnce : MIT := (⟨"LintelBrothers$LongestPaths", "climbOnce", "(LLintelBrothers$Constraints;)Z"⟩, prog_6_method_3_code, 4, (Option.some Jvm.ClassFile.FieldType.boolean), [], false)
def mi_X0_isEmpty : MIT := (⟨"LintelBrothers$Bounds", "isEmpty", "(I)Z"⟩, prog_2_method_7_code, 2, (Option.some Jvm.ClassFile.FieldType.boolean), [], false)
def mi_J4_setLength_d00df : MIT := (⟨"java/lang/StringBuilder", "setLength", "(I)V"⟩, prog_29_method_89_code, 2, (Option.none : Option Jvm.ClassFile.FieldType), [], false)
def mi_J4_append_bf812 : MIT := (⟨"java/lang/StringBuilder", "append", "(I)Ljava/lang/StringBuilder;"⟩, prog_29_method_15_code, 2, (Option.some (Jvm.ClassFile.FieldType.object "java/lang/StringBuilder")), [], false)
def mi_J4_append_cf468 : MIT := (⟨"java/lang/StringBuilder", "append", "(C)Ljava/lang/StringBuilder;"⟩, prog_29_method_14_code, 2, (Option.some (Jvm.ClassFile.FieldType.object "java/lang/StringBuilder")), [], false)
def mi_J4_append_15ec4 : MIT := (⟨"java/lang/StringBuilder", "append", "(Ljava/lang/String;)Ljava/lang/StringBuilder;"⟩, prog_29_method_7_code, 2, (Option.some (Jvm.ClassFile.FieldType.object "java/lang/StringBuilder")), [], false)
def mi_J4_length_8abf5 : MIT := (⟨"java/lang/StringBuilder", "length", "()I"⟩, prog_29_method_93_code, 1, (Option.some Jvm.ClassFile.FieldType.int), [], false)
def mi_J4_charAt_5068e : MIT := (⟨"java/lang/StringBuilder", "charAt", "(I)C"⟩, prog_29_method_88_code, 2, (Option.some Jvm.ClassFile.FieldType.char), [], false)
def mi_X7_read : MIT := (⟨"LintelBrothers$Script", "read", "()Z"⟩, prog_9_method_2_code, 2, (Option.some Jvm.ClassFile.FieldType.boolean), [], false)
def mi_X8_runCommand : MIT := (⟨"LintelBrothers", "runCommand", "(I)I"⟩, prog_1_method_73_code, 8, (Option.some Jvm.ClassFile.FieldType.int), [], false)
def mi_X3_bringBackPrepared : MIT := (⟨"LintelBrothers$History", "bringBackPrepared", "(LLintelBrothers$Data;)V"⟩, prog_5_method_3_code, 2, (Option.none : Option Jvm.ClassFile.FieldType), [], false)
def mi_X8_reject : MIT := (⟨"LintelBrothers", "reject", "(II)I"⟩, prog_1_method_62_code, 3, (Option.some Jvm.ClassFile.FieldType.int), [], false)
def mi_X9_command : MIT := (⟨"LintelBrothersModel", "command", "()V"⟩, prog_11_method_111_code, 4, (Option.none : Option Jvm.ClassFile.FieldType), [], false)
def mi_X9_sign : MIT := (⟨"LintelBrothersModel", "sign", "()I"⟩, prog_11_method_104_code, 1, (Option.some Jvm.ClassFile.FieldType.int), [], false)
def mi_X3_bringBackLatest : MIT := (⟨"LintelBrothers$History", "bringBackLatest", "(LLintelBrothers$Data;)V"⟩, prog_5_method_5_code, 2, (Option.none : Option Jvm.ClassFile.FieldType), [], false)
def mi_X1_copyFrom : MIT := (⟨"LintelBrothers$Constraints", "copyFrom", "(LLintelBrothers$Constraints;)V"⟩, prog_3_method_2_code, 2, (Option.none : Option Jvm.ClassFile.FieldType), [], false)
def mi_X8_isRange : MIT := (⟨"LintelBrothers", "isRange", "(II)Z"⟩, prog_1_method_57_code, 2, (Option.some Jvm.ClassFile.FieldType.boolean), [], false)
def mi_X0_put : MIT := (⟨"LintelBrothers$Bounds", "put", "(III)V"⟩, prog_2_method_3_code, 4, (Option.none : Option Jvm.ClassFile.FieldType), [], false)
def mi_X2_hasDoor : MIT := (⟨"LintelBrothers$Data", "hasDoor", "(I)Z"⟩, prog_4_method_3_code, 2, (Option.some Jvm.ClassFile.FieldType.boolean), [], false)
def mi_X1_positionOfSame : MIT := (⟨"LintelBrothers$Constraints", "positionOfSame", "(CIII)I"⟩, prog_3_method_4_code, 6, (Option.some Jvm.ClassFile.FieldType.int), [], false)
def mi_X1_append : MIT := (⟨"LintelBrothers$Constraints", "append", "(CIII)I"⟩, prog_3_method_5_code, 6, (Option.some Jvm.ClassFile.FieldType.int), [], false)
def mi_X1_positionOf : MIT := (⟨"LintelBrothers$Constraints", "positionOf", "(I)I"⟩, prog_3_method_3_code, 3, (Option.some Jvm.ClassFile.FieldType.int), [], false)
def mi_X1_takeOut : MIT := (⟨"LintelBrothers$Constraints", "takeOut", "(I)V"⟩, prog_3_method_6_code, 3, (Option.none : Option Jvm.ClassFile.FieldType), [], false)
def mi_X8_takeOverTrial : MIT := (⟨"LintelBrothers", "takeOverTrial", "()V"⟩, prog_1_method_70_code, 1, (Option.none : Option Jvm.ClassFile.FieldType), [], false)
def mi_X9_narrows : MIT := (⟨"LintelBrothersModel", "narrows", "(I)V"⟩, prog_11_method_24_code, 5, (Option.none : Option Jvm.ClassFile.FieldType), [], false)
def mi_X9_isTorn : MIT := (⟨"LintelBrothersModel", "isTorn", "(I)Z"⟩, prog_11_method_25_code, 2, (Option.some Jvm.ClassFile.FieldType.boolean), [], false)
def mi_X5_takeSteps : MIT := (⟨"LintelBrothers$Narrowing", "takeSteps", "(LLintelBrothers$Constraints;ILLintelBrothers$Bounds;)V"⟩, prog_7_method_5_code, 7, (Option.none : Option Jvm.ClassFile.FieldType), [], false)
def mi_X6_isBetter : MIT := (⟨"LintelBrothers$PeaceSearch", "isBetter", "(I)Z"⟩, prog_8_method_4_code, 3, (Option.some Jvm.ClassFile.FieldType.boolean), [], false)
def mi_X6_tooNear : MIT := (⟨"LintelBrothers$PeaceSearch", "tooNear", "(LLintelBrothers$Constraints;)I"⟩, prog_8_method_5_code, 4, (Option.some Jvm.ClassFile.FieldType.int), [], false)
def mi_X9_isOpen : MIT := (⟨"LintelBrothersModel", "isOpen", "(I)Z"⟩, prog_11_method_80_code, 10, (Option.some Jvm.ClassFile.FieldType.boolean), [], false)
def mi_X9_size : MIT := (⟨"LintelBrothersModel", "size", "(J)I"⟩, prog_11_method_78_code, 4, (Option.some Jvm.ClassFile.FieldType.int), [], false)
def mi_X2_rankOf : MIT := (⟨"LintelBrothers$Data", "rankOf", "(I)I"⟩, prog_4_method_10_code, 4, (Option.some Jvm.ClassFile.FieldType.int), [], false)
def mi_X1_rankOf : MIT := (⟨"LintelBrothers$Constraints", "rankOf", "(I)I"⟩, prog_3_method_9_code, 4, (Option.some Jvm.ClassFile.FieldType.int), [], false)
def mi_X4_climbAlong : MIT := (⟨"LintelBrothers$LongestPaths", "climbAlong", "(LLintelBrothers$Constraints;I)Z"⟩, prog_6_method_4_code, 7, (Option.some Jvm.ClassFile.FieldType.boolean), [], false)
def mi_J5_setLength_d00df : MIT := (⟨"java/lang/AbstractStringBuilder", "setLength", "(I)V"⟩, prog_13_method_13_code, 2, (Option.none : Option Jvm.ClassFile.FieldType), [], false)
def mi_J5_append_c97b9 : MIT := (⟨"java/lang/AbstractStringBuilder", "append", "(I)Ljava/lang/AbstractStringBuilder;"⟩, prog_13_method_32_code, 4, (Option.some (Jvm.ClassFile.FieldType.object "java/lang/AbstractStringBuilder")), [], false)
def mi_J5_append_3fe6f : MIT := (⟨"java/lang/AbstractStringBuilder", "append", "(C)Ljava/lang/AbstractStringBuilder;"⟩, prog_13_method_31_code, 2, (Option.some (Jvm.ClassFile.FieldType.object "java/lang/AbstractStringBuilder")), [], false)
def mi_J5_append_cf1ce : MIT := (⟨"java/lang/AbstractStringBuilder", "append", "(Ljava/lang/String;)Ljava/lang/AbstractStringBuilder;"⟩, prog_13_method_22_code, 3, (Option.some (Jvm.ClassFile.FieldType.object "java/lang/AbstractStringBuilder")), [], false)
def mi_J5_length_8abf5 : MIT := (⟨"java/lang/AbstractStringBuilder", "length", "()I"⟩, prog_13_method_6_code, 1, (Option.some Jvm.ClassFile.FieldType.int), [], false)
def mi_J5_charAt_5068e : MIT := (⟨"java/lang/AbstractStringBuilder", "charAt", "(I)C"⟩, prog_13_method_14_code, 5, (Option.some Jvm.ClassFile.FieldType.char), [], false)
def mi_X7_readCommand : MIT := (⟨"LintelBrothers$Script", "readCommand", "(I)Z"⟩, prog_9_method_3_code, 3, (Option.some Jvm.ClassFile.FieldType.boolean), [], false)
def mi_X7_readSign : MIT := (⟨"LintelBrothers$Script", "readSign", "(C)Z"⟩, prog_9_method_6_code, 2, (Option.some Jvm.ClassFile.FieldType.boolean), [], false)
def mi_X9_binding : MIT := (⟨"LintelBrothersModel", "binding", "(I)V"⟩, prog_11_method_110_code, 3, (Option.none : Option Jvm.ClassFile.FieldType), [], false)
def mi_X9_letters : MIT := (⟨"LintelBrothersModel", "letters", "(III)V"⟩, prog_11_method_106_code, 4, (Option.none : Option Jvm.ClassFile.FieldType), [], false)
def mi_X9_needs : MIT := (⟨"LintelBrothersModel", "needs", "(I)V"⟩, prog_11_method_105_code, 2, (Option.none : Option Jvm.ClassFile.FieldType), [], false)
def mi_X9_behind : MIT := (⟨"LintelBrothersModel", "behind", "(II)I"⟩, prog_11_method_108_code, 3, (Option.some Jvm.ClassFile.FieldType.int), [], false)
def mi_X9_range : MIT := (⟨"LintelBrothersModel", "range", "(I)V"⟩, prog_11_method_109_code, 2, (Option.none : Option Jvm.ClassFile.FieldType), [], false)
def mi_X9_parts : MIT := (⟨"LintelBrothersModel", "parts", "(III)V"⟩, prog_11_method_23_code, 7, (Option.none : Option Jvm.ClassFile.FieldType), [], false)
def mi_X9_raises : MIT := (⟨"LintelBrothersModel", "raises", "(II)V"⟩, prog_11_method_20_code, 3, (Option.none : Option Jvm.ClassFile.FieldType), [], false)
def mi_X9_lowers : MIT := (⟨"LintelBrothersModel", "lowers", "(II)V"⟩, prog_11_method_21_code, 3, (Option.none : Option Jvm.ClassFile.FieldType), [], false)
def mi_X5_keepOff : MIT := (⟨"LintelBrothers$Narrowing", "keepOff", "(LLintelBrothers$Bounds;III)V"⟩, prog_7_method_8_code, 7, (Option.none : Option Jvm.ClassFile.FieldType), [], false)
def mi_X5_raiseLow : MIT := (⟨"LintelBrothers$Narrowing", "raiseLow", "(LLintelBrothers$Bounds;II)V"⟩, prog_7_method_6_code, 4, (Option.none : Option Jvm.ClassFile.FieldType), [], false)
def mi_X5_sinkHigh : MIT := (⟨"LintelBrothers$Narrowing", "sinkHigh", "(LLintelBrothers$Bounds;II)V"⟩, prog_7_method_7_code, 4, (Option.none : Option Jvm.ClassFile.FieldType), [], false)
def mi_X9_goesWith : MIT := (⟨"LintelBrothersModel", "goesWith", "(IJIZ)J"⟩, prog_11_method_79_code, 7, (Option.some Jvm.ClassFile.FieldType.long), [], false)
def mi_X2_isAhead : MIT := (⟨"LintelBrothers$Data", "isAhead", "(II)Z"⟩, prog_4_method_11_code, 5, (Option.some Jvm.ClassFile.FieldType.boolean), [], false)
def mi_X4_raise : MIT := (⟨"LintelBrothers$LongestPaths", "raise", "(II)Z"⟩, prog_6_method_5_code, 3, (Option.some Jvm.ClassFile.FieldType.boolean), [], false)
def mi_J5_ensureCapacityInternal_d00df : MIT := (⟨"java/lang/AbstractStringBuilder", "ensureCapacityInternal", "(I)V"⟩, prog_13_method_9_code, 3, (Option.none : Option Jvm.ClassFile.FieldType), [], false)
def mi_J5_isLatin1_aae02 : MIT := (⟨"java/lang/AbstractStringBuilder", "isLatin1", "()Z"⟩, prog_13_method_68_code, 1, (Option.some Jvm.ClassFile.FieldType.boolean), [], false)
def mi_J6_stringSize_0f7a4 : MIT := (⟨"java/lang/Integer", "stringSize", "(I)I"⟩, prog_24_method_13_code, 4, (Option.some Jvm.ClassFile.FieldType.int), [], false)
def mi_J6_getChars_ba4f3 : MIT := (⟨"java/lang/Integer", "getChars", "(II[B)I"⟩, prog_24_method_12_code, 7, (Option.some Jvm.ClassFile.FieldType.int), [], false)
def mi_J1_canEncode_fc78d : MIT := (⟨"java/lang/StringLatin1", "canEncode", "(C)Z"⟩, prog_31_method_3_code, 1, (Option.some Jvm.ClassFile.FieldType.boolean), [], false)
def mi_J0_length_8abf5 : MIT := (⟨"java/lang/String", "length", "()I"⟩, prog_28_method_54_code, 1, (Option.some Jvm.ClassFile.FieldType.int), [], false)
def mi_J5_putStringAt_47b60 : MIT := (⟨"java/lang/AbstractStringBuilder", "putStringAt", "(ILjava/lang/String;)V"⟩, prog_13_method_73_code, 3, (Option.none : Option Jvm.ClassFile.FieldType), [], false)
def mi_J0_checkIndex_df160 : MIT := (⟨"java/lang/String", "checkIndex", "(II)V"⟩, prog_28_method_155_code, 2, (Option.none : Option Jvm.ClassFile.FieldType), [], false)
def mi_X7_signAt : MIT := (⟨"LintelBrothers$Script", "signAt", "(I)C"⟩, prog_9_method_9_code, 2, (Option.some Jvm.ClassFile.FieldType.char), [], false)
def mi_X7_readForm : MIT := (⟨"LintelBrothers$Script", "readForm", "(IILjava/lang/String;)Z"⟩, prog_9_method_4_code, 9, (Option.some Jvm.ClassFile.FieldType.boolean), [], false)
def mi_X9_number : MIT := (⟨"LintelBrothersModel", "number", "(I)I"⟩, prog_11_method_107_code, 4, (Option.some Jvm.ClassFile.FieldType.int), [], false)
def mi_X9_isFixedNow : MIT := (⟨"LintelBrothersModel", "isFixedNow", "(I)Z"⟩, prog_11_method_22_code, 2, (Option.some Jvm.ClassFile.FieldType.boolean), [], false)
def mi_X9_becomes : MIT := (⟨"LintelBrothersModel", "becomes", "(IIZI)V"⟩, prog_11_method_19_code, 5, (Option.none : Option Jvm.ClassFile.FieldType), [], false)
def mi_X9_highest : MIT := (⟨"LintelBrothersModel", "highest", "(J)I"⟩, prog_11_method_77_code, 3, (Option.some Jvm.ClassFile.FieldType.int), [], false)
def mi_J5_newCapacity_0f7a4 : MIT := (⟨"java/lang/AbstractStringBuilder", "newCapacity", "(I)I"⟩, prog_13_method_10_code, 6, (Option.some Jvm.ClassFile.FieldType.int), [], false)
def mi_J7_copyOf_9075b : MIT := (⟨"java/util/Arrays", "copyOf", "([BI)[B"⟩, prog_38_method_121_code, 3, (Option.some (Jvm.ClassFile.FieldType.array Jvm.ClassFile.FieldType.byte)), [], false)
def mi_J0_coder_7d493 : MIT := (⟨"java/lang/String", "coder", "()B"⟩, prog_28_method_152_code, 1, (Option.some Jvm.ClassFile.FieldType.byte), [], false)
def mi_J5_inflateIfNeededFor_a7421 : MIT := (⟨"java/lang/AbstractStringBuilder", "inflateIfNeededFor", "(Ljava/lang/String;)V"⟩, prog_13_method_71_code, 2, (Option.none : Option Jvm.ClassFile.FieldType), [], false)
def mi_J0_getBytes_840e7 : MIT := (⟨"java/lang/String", "getBytes", "([BIB)V"⟩, prog_28_method_147_code, 4, (Option.none : Option Jvm.ClassFile.FieldType), [], false)
def mi_J3_checkIndex_8e157 : MIT := (⟨"jdk/internal/util/Preconditions", "checkIndex", "(IILjava/util/function/BiFunction;)I"⟩, prog_41_method_11_code, 3, (Option.some Jvm.ClassFile.FieldType.int), [], false)
def mi_J0_charAt_5068e : MIT := (⟨"java/lang/String", "charAt", "(I)C"⟩, prog_28_method_56_code, 2, (Option.some Jvm.ClassFile.FieldType.char), [], false)
def mi_X7_readDigit : MIT := (⟨"LintelBrothers$Script", "readDigit", "()I"⟩, prog_9_method_8_code, 2, (Option.some Jvm.ClassFile.FieldType.int), [], false)
def mi_X7_readNumber : MIT := (⟨"LintelBrothers$Script", "readNumber", "()I"⟩, prog_9_method_7_code, 3, (Option.some Jvm.ClassFile.FieldType.int), [], false)
def mi_X7_readKind : MIT := (⟨"LintelBrothers$Script", "readKind", "(I)Z"⟩, prog_9_method_5_code, 3, (Option.some Jvm.ClassFile.FieldType.boolean), [], false)
def mi_J8_newLength_cabcc : MIT := (⟨"jdk/internal/util/ArraysSupport", "newLength", "(III)I"⟩, prog_40_method_27_code, 4, (Option.some Jvm.ClassFile.FieldType.int), [], false)
def mi_J0_isLatin1_aae02 : MIT := (⟨"java/lang/String", "isLatin1", "()Z"⟩, prog_28_method_154_code, 1, (Option.some Jvm.ClassFile.FieldType.boolean), [], false)
def mi_J1_charAt_3b067 : MIT := (⟨"java/lang/StringLatin1", "charAt", "([BI)C"⟩, prog_31_method_2_code, 2, (Option.some Jvm.ClassFile.FieldType.char), [], false)
def mi (k : Nat) : MIT := (cond (Nat.blt k 164) (cond (Nat.blt k 82) (cond (Nat.blt k 41) (cond (Nat.blt k 20) (cond (Nat.blt k 10) (cond (Nat.blt k 5) (cond (Nat.blt k 2) (cond (Nat.blt k 1) mi_L_law mi_X8_init) (cond (Nat.blt k 3) mi_X9_init (cond (Nat.blt k 4) mi_L_addDoor mi_X9_addDoor))) (cond (Nat.blt k 7) (cond (Nat.blt k 6) mi_X9_thrown mi_L_setFrame) (cond (Nat.blt k 8) mi_X9_setFrame (cond (Nat.blt k 9) mi_L_narrow mi_X9_narrow)))) (cond (Nat.blt k 15) (cond (Nat.blt k 12) (cond (Nat.blt k 11) mi_X8_reset mi_X9_reset) (cond (Nat.blt k 13) mi_X8_doorCount (cond (Nat.blt k 14) mi_X9_doorCount mi_L_lowOf))) (cond (Nat.blt k 17) (cond (Nat.blt k 16) mi_X9_lowOf mi_L_highOf) (cond (Nat.blt k 18) mi_X9_highOf (cond (Nat.blt k 19) mi_L_frameLow mi_X9_frameLow))))) (cond (Nat.blt k 30) (cond (Nat.blt k 25) (cond (Nat.blt k 22) (cond (Nat.blt k 21) mi_L_frameHigh mi_X9_frameHigh) (cond (Nat.blt k 23) mi_L_widthOf (cond (Nat.blt k 24) mi_X9_widthOf mi_L_isFixed))) (cond (Nat.blt k 27) (cond (Nat.blt k 26) mi_X9_isFixed mi_L_constraintsOf) (cond (Nat.blt k 28) mi_X9_constraintsOf (cond (Nat.blt k 29) mi_L_addConstraint mi_X9_addConstraint)))) (cond (Nat.blt k 35) (cond (Nat.blt k 32) (cond (Nat.blt k 31) mi_L_removeConstraint mi_X9_removeConstraint) (cond (Nat.blt k 33) mi_X8_constraintCount (cond (Nat.blt k 34) mi_X9_constraintCount mi_L_constraintAt))) (cond (Nat.blt k 38) (cond (Nat.blt k 36) mi_X9_constraintAt (cond (Nat.blt k 37) mi_L_kindOf mi_X9_kindOf)) (cond (Nat.blt k 39) mi_L_firstOf (cond (Nat.blt k 40) mi_X9_firstOf mi_L_secondOf)))))) (cond (Nat.blt k 61) (cond (Nat.blt k 51) (cond (Nat.blt k 46) (cond (Nat.blt k 43) (cond (Nat.blt k 42) mi_X9_secondOf mi_L_gapOf) (cond (Nat.blt k 44) mi_X9_gapOf (cond (Nat.blt k 45) mi_L_isSafe mi_X9_isSafe))) (cond (Nat.blt k 48) (cond (Nat.blt k 47) mi_L_isBroken mi_X9_isBroken) (cond (Nat.blt k 49) mi_L_pass (cond (Nat.blt k 50) mi_X9_pass mi_L_settle)))) (cond (Nat.blt k 56) (cond (Nat.blt k 53) (cond (Nat.blt k 52) mi_X9_settle mi_X8_isSettled) (cond (Nat.blt k 54) mi_X9_isSettled (cond (Nat.blt k 55) mi_L_wouldChange mi_X9_wouldChange))) (cond (Nat.blt k 58) (cond (Nat.blt k 57) mi_L_lowestHeight mi_X9_lowestHeight) (cond (Nat.blt k 59) mi_L_lowestHeightByPaths (cond (Nat.blt k 60) mi_X9_lowestHeightByPaths mi_X8_passCount))))) (cond (Nat.blt k 71) (cond (Nat.blt k 66) (cond (Nat.blt k 63) (cond (Nat.blt k 62) mi_X9_passCount mi_X8_changeCount) (cond (Nat.blt k 64) mi_X9_changeCount (cond (Nat.blt k 65) mi_X8_hasPeace mi_X9_hasPeace))) (cond (Nat.blt k 68) (cond (Nat.blt k 67) mi_L_peaceHeight mi_X9_peaceHeight) (cond (Nat.blt k 69) mi_L_peaceSum (cond (Nat.blt k 70) mi_X9_peaceSum mi_L_arePossible)))) (cond (Nat.blt k 76) (cond (Nat.blt k 73) (cond (Nat.blt k 72) mi_X9_arePossible mi_L_doorByWidth) (cond (Nat.blt k 74) mi_X9_doorByWidth (cond (Nat.blt k 75) mi_L_constraintByGap mi_X9_constraintByGap))) (cond (Nat.blt k 79) (cond (Nat.blt k 77) mi_X8_fixedCount (cond (Nat.blt k 78) mi_X9_fixedCount mi_X8_totalWidth)) (cond (Nat.blt k 80) mi_X9_totalWidth (cond (Nat.blt k 81) mi_X8_totalFrameWidth mi_X9_totalFrameWidth))))))) (cond (Nat.blt k 123) (cond (Nat.blt k 102) (cond (Nat.blt k 92) (cond (Nat.blt k 87) (cond (Nat.blt k 84) (cond (Nat.blt k 83) mi_L_meanWidth mi_X9_meanWidth) (cond (Nat.blt k 85) mi_L_fixedShare (cond (Nat.blt k 86) mi_X9_fixedShare mi_X8_isConsistent))) (cond (Nat.blt k 89) (cond (Nat.blt k 88) mi_X9_isConsistent mi_L_writeDoor) (cond (Nat.blt k 90) mi_X9_writeDoor (cond (Nat.blt k 91) mi_L_writeConstraint mi_X9_writeConstraint)))) (cond (Nat.blt k 97) (cond (Nat.blt k 94) (cond (Nat.blt k 93) mi_L_outputAt mi_X9_outputAt) (cond (Nat.blt k 95) mi_L_appendInput (cond (Nat.blt k 96) mi_X9_appendInput mi_L_execute))) (cond (Nat.blt k 99) (cond (Nat.blt k 98) mi_X9_execute mi_L_syntaxErrorOffset) (cond (Nat.blt k 100) mi_X9_syntaxErrorOffset (cond (Nat.blt k 101) mi_L_rejectionReason mi_X9_rejectionReason))))) (cond (Nat.blt k 112) (cond (Nat.blt k 107) (cond (Nat.blt k 104) (cond (Nat.blt k 103) mi_L_rejectionDetail mi_X9_rejectionDetail) (cond (Nat.blt k 105) mi_L_causeReason (cond (Nat.blt k 106) mi_X9_causeReason mi_L_undo))) (cond (Nat.blt k 109) (cond (Nat.blt k 108) mi_X9_undo mi_X8_saveSnapshot) (cond (Nat.blt k 110) mi_X9_saveSnapshot (cond (Nat.blt k 111) mi_L_restoreSnapshot mi_X9_restoreSnapshot)))) (cond (Nat.blt k 117) (cond (Nat.blt k 114) (cond (Nat.blt k 113) mi_X2_init mi_X3_init) (cond (Nat.blt k 115) mi_X0_init (cond (Nat.blt k 116) mi_X5_init mi_X4_init))) (cond (Nat.blt k 120) (cond (Nat.blt k 118) mi_X6_init (cond (Nat.blt k 119) mi_J4_init_da8c8 mi_X7_init)) (cond (Nat.blt k 121) mi_X8_addDoor (cond (Nat.blt k 122) mi_X9_begins mi_X9_adds)))))) (cond (Nat.blt k 143) (cond (Nat.blt k 133) (cond (Nat.blt k 128) (cond (Nat.blt k 125) (cond (Nat.blt k 124) mi_X9_ends mi_X8_setFrame) (cond (Nat.blt k 126) mi_X9_frames (cond (Nat.blt k 127) mi_X8_narrow mi_X9_narrowed))) (cond (Nat.blt k 130) (cond (Nat.blt k 129) mi_X3_prepare mi_X2_openAll) (cond (Nat.blt k 131) mi_X3_keep (cond (Nat.blt k 132) mi_X9_resetsAll mi_X9_told)))) (cond (Nat.blt k 138) (cond (Nat.blt k 135) (cond (Nat.blt k 134) mi_X8_lowOf mi_X9_ofDoor) (cond (Nat.blt k 136) mi_X8_highOf (cond (Nat.blt k 137) mi_X8_frameLow mi_X8_frameHigh))) (cond (Nat.blt k 140) (cond (Nat.blt k 139) mi_X8_widthOf mi_X9_isDoor) (cond (Nat.blt k 141) mi_X9_isFine (cond (Nat.blt k 142) mi_X9_width mi_X8_isFixed))))) (cond (Nat.blt k 153) (cond (Nat.blt k 148) (cond (Nat.blt k 145) (cond (Nat.blt k 144) mi_X8_constraintsOf mi_X9_takesPart) (cond (Nat.blt k 146) mi_X8_addConstraint (cond (Nat.blt k 147) mi_X9_binds mi_X8_removeConstraint))) (cond (Nat.blt k 150) (cond (Nat.blt k 149) mi_X9_drops mi_X8_constraintAt) (cond (Nat.blt k 151) mi_X9_in (cond (Nat.blt k 152) mi_X9_c mi_X8_kindOf)))) (cond (Nat.blt k 158) (cond (Nat.blt k 155) (cond (Nat.blt k 154) mi_X9_ofRule mi_X8_firstOf) (cond (Nat.blt k 156) mi_X8_secondOf (cond (Nat.blt k 157) mi_X8_gapOf mi_X8_isSafe))) (cond (Nat.blt k 161) (cond (Nat.blt k 159) mi_X9_rule (cond (Nat.blt k 160) mi_X9_pairs mi_X8_isBroken)) (cond (Nat.blt k 162) mi_X8_pass (cond (Nat.blt k 163) mi_X9_passes mi_X8_settle)))))))) (cond (Nat.blt k 246) (cond (Nat.blt k 205) (cond (Nat.blt k 184) (cond (Nat.blt k 174) (cond (Nat.blt k 169) (cond (Nat.blt k 166) (cond (Nat.blt k 165) mi_X9_settlesAll mi_X8_changesOfTrialPass) (cond (Nat.blt k 167) mi_X9_would (cond (Nat.blt k 168) mi_X8_wouldChange mi_X8_lowestHeight))) (cond (Nat.blt k 171) (cond (Nat.blt k 170) mi_X9_copies mi_X9_settles) (cond (Nat.blt k 172) mi_X9_d (cond (Nat.blt k 173) mi_X8_lowestHeightByPaths mi_X6_find)))) (cond (Nat.blt k 179) (cond (Nat.blt k 176) (cond (Nat.blt k 175) mi_X9_opens mi_X9_isSolvableWith) (cond (Nat.blt k 177) mi_X8_peaceHeight (cond (Nat.blt k 178) mi_X9_makesPeace mi_X9_lowest))) (cond (Nat.blt k 181) (cond (Nat.blt k 180) mi_X8_peaceSum mi_X8_arePossible) (cond (Nat.blt k 182) mi_X8_doorByWidth (cond (Nat.blt k 183) mi_X9_isNarrower mi_X8_constraintByGap))))) (cond (Nat.blt k 194) (cond (Nat.blt k 189) (cond (Nat.blt k 186) (cond (Nat.blt k 185) mi_X0_isOneHeight mi_X0_sumOfWidths) (cond (Nat.blt k 187) mi_X8_meanWidth (cond (Nat.blt k 188) mi_X8_fixedShare mi_X8_settleTrialWithoutApart))) (cond (Nat.blt k 191) (cond (Nat.blt k 190) mi_X4_climb mi_X2_isInOrder) (cond (Nat.blt k 192) mi_X8_writeDoor (cond (Nat.blt k 193) mi_X9_writesNumber mi_X9_writes)))) (cond (Nat.blt k 199) (cond (Nat.blt k 196) (cond (Nat.blt k 195) mi_X8_writeConstraint mi_X8_outputAt) (cond (Nat.blt k 197) mi_X8_appendInput (cond (Nat.blt k 198) mi_X8_execute mi_X9_parse))) (cond (Nat.blt k 202) (cond (Nat.blt k 200) mi_X9_does (cond (Nat.blt k 201) mi_X9_kept mi_X8_syntaxErrorOffset)) (cond (Nat.blt k 203) mi_X8_rejectionReason (cond (Nat.blt k 204) mi_X8_rejectionDetail mi_X8_causeReason)))))) (cond (Nat.blt k 225) (cond (Nat.blt k 215) (cond (Nat.blt k 210) (cond (Nat.blt k 207) (cond (Nat.blt k 206) mi_X8_undo mi_X2_copyFrom) (cond (Nat.blt k 208) mi_X8_restoreSnapshot (cond (Nat.blt k 209) mi_X1_init mi_J5_init_d00df))) (cond (Nat.blt k 212) (cond (Nat.blt k 211) mi_X8_checkRange mi_X8_enterDoor) (cond (Nat.blt k 213) mi_X9_isRange (cond (Nat.blt k 214) mi_X9_rejects mi_X9_set)))) (cond (Nat.blt k 220) (cond (Nat.blt k 217) (cond (Nat.blt k 216) mi_X8_checkDoor mi_X8_changeFrame) (cond (Nat.blt k 218) mi_X9_resets (cond (Nat.blt k 219) mi_X9_unlike mi_X8_narrowDoor))) (cond (Nat.blt k 222) (cond (Nat.blt k 221) mi_X2_differencesToFrame mi_X0_copyFrom) (cond (Nat.blt k 223) mi_X0_width (cond (Nat.blt k 224) mi_X1_countWith mi_X8_isConstraint))))) (cond (Nat.blt k 235) (cond (Nat.blt k 230) (cond (Nat.blt k 227) (cond (Nat.blt k 226) mi_X8_enterConstraint mi_X9_isKind) (cond (Nat.blt k 228) mi_X8_checkedPosition (cond (Nat.blt k 229) mi_X8_takeConstraintAway mi_X2_isAlwaysMet))) (cond (Nat.blt k 232) (cond (Nat.blt k 231) mi_X9_holds mi_X2_isNeverMet) (cond (Nat.blt k 233) mi_X8_passOnce (cond (Nat.blt k 234) mi_X9_goesThrough mi_X8_passUntilSettled)))) (cond (Nat.blt k 240) (cond (Nat.blt k 237) (cond (Nat.blt k 236) mi_X5_begin mi_X5_makePass) (cond (Nat.blt k 238) mi_X6_chooseSides (cond (Nat.blt k 239) mi_X9_from mi_X9_till))) (cond (Nat.blt k 243) (cond (Nat.blt k 241) mi_X9_isSolvable (cond (Nat.blt k 242) mi_X8_isHeight mi_X0_fix)) (cond (Nat.blt k 244) mi_X2_doorAtRank (cond (Nat.blt k 245) mi_X1_positionAtRank mi_X5_makePassesToTheEnd))))))) (cond (Nat.blt k 287) (cond (Nat.blt k 266) (cond (Nat.blt k 256) (cond (Nat.blt k 251) (cond (Nat.blt k 248) (cond (Nat.blt k 247) mi_X4_climbOnce mi_X0_isEmpty) (cond (Nat.blt k 249) mi_J4_setLength_d00df (cond (Nat.blt k 250) mi_J4_append_bf812 mi_J4_append_cf468))) (cond (Nat.blt k 253) (cond (Nat.blt k 252) mi_J4_append_15ec4 mi_J4_length_8abf5) (cond (Nat.blt k 254) mi_J4_charAt_5068e (cond (Nat.blt k 255) mi_X7_read mi_X8_runCommand)))) (cond (Nat.blt k 261) (cond (Nat.blt k 258) (cond (Nat.blt k 257) mi_X3_bringBackPrepared mi_X8_reject) (cond (Nat.blt k 259) mi_X9_command (cond (Nat.blt k 260) mi_X9_sign mi_X3_bringBackLatest))) (cond (Nat.blt k 263) (cond (Nat.blt k 262) mi_X1_copyFrom mi_X8_isRange) (cond (Nat.blt k 264) mi_X0_put (cond (Nat.blt k 265) mi_X2_hasDoor mi_X1_positionOfSame))))) (cond (Nat.blt k 276) (cond (Nat.blt k 271) (cond (Nat.blt k 268) (cond (Nat.blt k 267) mi_X1_append mi_X1_positionOf) (cond (Nat.blt k 269) mi_X1_takeOut (cond (Nat.blt k 270) mi_X8_takeOverTrial mi_X9_narrows))) (cond (Nat.blt k 273) (cond (Nat.blt k 272) mi_X9_isTorn mi_X5_takeSteps) (cond (Nat.blt k 274) mi_X6_isBetter (cond (Nat.blt k 275) mi_X6_tooNear mi_X9_isOpen)))) (cond (Nat.blt k 281) (cond (Nat.blt k 278) (cond (Nat.blt k 277) mi_X9_size mi_X2_rankOf) (cond (Nat.blt k 279) mi_X1_rankOf (cond (Nat.blt k 280) mi_X4_climbAlong mi_J5_setLength_d00df))) (cond (Nat.blt k 284) (cond (Nat.blt k 282) mi_J5_append_c97b9 (cond (Nat.blt k 283) mi_J5_append_3fe6f mi_J5_append_cf1ce)) (cond (Nat.blt k 285) mi_J5_length_8abf5 (cond (Nat.blt k 286) mi_J5_charAt_5068e mi_X7_readCommand)))))) (cond (Nat.blt k 308) (cond (Nat.blt k 297) (cond (Nat.blt k 292) (cond (Nat.blt k 289) (cond (Nat.blt k 288) mi_X7_readSign mi_X9_binding) (cond (Nat.blt k 290) mi_X9_letters (cond (Nat.blt k 291) mi_X9_needs mi_X9_behind))) (cond (Nat.blt k 294) (cond (Nat.blt k 293) mi_X9_range mi_X9_parts) (cond (Nat.blt k 295) mi_X9_raises (cond (Nat.blt k 296) mi_X9_lowers mi_X5_keepOff)))) (cond (Nat.blt k 302) (cond (Nat.blt k 299) (cond (Nat.blt k 298) mi_X5_raiseLow mi_X5_sinkHigh) (cond (Nat.blt k 300) mi_X9_goesWith (cond (Nat.blt k 301) mi_X2_isAhead mi_X4_raise))) (cond (Nat.blt k 305) (cond (Nat.blt k 303) mi_J5_ensureCapacityInternal_d00df (cond (Nat.blt k 304) mi_J5_isLatin1_aae02 mi_J6_stringSize_0f7a4)) (cond (Nat.blt k 306) mi_J6_getChars_ba4f3 (cond (Nat.blt k 307) mi_J1_canEncode_fc78d mi_J0_length_8abf5))))) (cond (Nat.blt k 318) (cond (Nat.blt k 313) (cond (Nat.blt k 310) (cond (Nat.blt k 309) mi_J5_putStringAt_47b60 mi_J0_checkIndex_df160) (cond (Nat.blt k 311) mi_X7_signAt (cond (Nat.blt k 312) mi_X7_readForm mi_X9_number))) (cond (Nat.blt k 315) (cond (Nat.blt k 314) mi_X9_isFixedNow mi_X9_becomes) (cond (Nat.blt k 316) mi_X9_highest (cond (Nat.blt k 317) mi_J5_newCapacity_0f7a4 mi_J7_copyOf_9075b)))) (cond (Nat.blt k 323) (cond (Nat.blt k 320) (cond (Nat.blt k 319) mi_J0_coder_7d493 mi_J5_inflateIfNeededFor_a7421) (cond (Nat.blt k 321) mi_J0_getBytes_840e7 (cond (Nat.blt k 322) mi_J3_checkIndex_8e157 mi_J0_charAt_5068e))) (cond (Nat.blt k 326) (cond (Nat.blt k 324) mi_X7_readDigit (cond (Nat.blt k 325) mi_X7_readNumber mi_X7_readKind)) (cond (Nat.blt k 327) mi_J8_newLength_cabcc (cond (Nat.blt k 328) mi_J0_isLatin1_aae02 mi_J1_charAt_3b067)))))))))
/-- a method's class, by number -/
def mo (k : Nat) : Nat := (cond (Nat.blt k 164) (cond (Nat.blt k 82) (cond (Nat.blt k 41) (cond (Nat.blt k 20) (cond (Nat.blt k 10) (cond (Nat.blt k 5) (cond (Nat.blt k 2) (cond (Nat.blt k 1) 12 8) (cond (Nat.blt k 3) 9 (cond (Nat.blt k 4) 12 9))) (cond (Nat.blt k 7) (cond (Nat.blt k 6) 9 12) (cond (Nat.blt k 8) 9 (cond (Nat.blt k 9) 12 9)))) (cond (Nat.blt k 15) (cond (Nat.blt k 12) (cond (Nat.blt k 11) 8 9) (cond (Nat.blt k 13) 8 (cond (Nat.blt k 14) 9 12))) (cond (Nat.blt k 17) (cond (Nat.blt k 16) 9 12) (cond (Nat.blt k 18) 9 (cond (Nat.blt k 19) 12 9))))) (cond (Nat.blt k 30) (cond (Nat.blt k 25) (cond (Nat.blt k 22) (cond (Nat.blt k 21) 12 9) (cond (Nat.blt k 23) 12 (cond (Nat.blt k 24) 9 12))) (cond (Nat.blt k 27) (cond (Nat.blt k 26) 9 12) (cond (Nat.blt k 28) 9 (cond (Nat.blt k 29) 12 9)))) (cond (Nat.blt k 35) (cond (Nat.blt k 32) (cond (Nat.blt k 31) 12 9) (cond (Nat.blt k 33) 8 (cond (Nat.blt k 34) 9 12))) (cond (Nat.blt k 38) (cond (Nat.blt k 36) 9 (cond (Nat.blt k 37) 12 9)) (cond (Nat.blt k 39) 12 (cond (Nat.blt k 40) 9 12)))))) (cond (Nat.blt k 61) (cond (Nat.blt k 51) (cond (Nat.blt k 46) (cond (Nat.blt k 43) (cond (Nat.blt k 42) 9 12) (cond (Nat.blt k 44) 9 (cond (Nat.blt k 45) 12 9))) (cond (Nat.blt k 48) (cond (Nat.blt k 47) 12 9) (cond (Nat.blt k 49) 12 (cond (Nat.blt k 50) 9 12)))) (cond (Nat.blt k 56) (cond (Nat.blt k 53) (cond (Nat.blt k 52) 9 8) (cond (Nat.blt k 54) 9 (cond (Nat.blt k 55) 12 9))) (cond (Nat.blt k 58) (cond (Nat.blt k 57) 12 9) (cond (Nat.blt k 59) 12 (cond (Nat.blt k 60) 9 8))))) (cond (Nat.blt k 71) (cond (Nat.blt k 66) (cond (Nat.blt k 63) (cond (Nat.blt k 62) 9 8) (cond (Nat.blt k 64) 9 (cond (Nat.blt k 65) 8 9))) (cond (Nat.blt k 68) (cond (Nat.blt k 67) 12 9) (cond (Nat.blt k 69) 12 (cond (Nat.blt k 70) 9 12)))) (cond (Nat.blt k 76) (cond (Nat.blt k 73) (cond (Nat.blt k 72) 9 12) (cond (Nat.blt k 74) 9 (cond (Nat.blt k 75) 12 9))) (cond (Nat.blt k 79) (cond (Nat.blt k 77) 8 (cond (Nat.blt k 78) 9 8)) (cond (Nat.blt k 80) 9 (cond (Nat.blt k 81) 8 9))))))) (cond (Nat.blt k 123) (cond (Nat.blt k 102) (cond (Nat.blt k 92) (cond (Nat.blt k 87) (cond (Nat.blt k 84) (cond (Nat.blt k 83) 12 9) (cond (Nat.blt k 85) 12 (cond (Nat.blt k 86) 9 8))) (cond (Nat.blt k 89) (cond (Nat.blt k 88) 9 12) (cond (Nat.blt k 90) 9 (cond (Nat.blt k 91) 12 9)))) (cond (Nat.blt k 97) (cond (Nat.blt k 94) (cond (Nat.blt k 93) 12 9) (cond (Nat.blt k 95) 12 (cond (Nat.blt k 96) 9 12))) (cond (Nat.blt k 99) (cond (Nat.blt k 98) 9 12) (cond (Nat.blt k 100) 9 (cond (Nat.blt k 101) 12 9))))) (cond (Nat.blt k 112) (cond (Nat.blt k 107) (cond (Nat.blt k 104) (cond (Nat.blt k 103) 12 9) (cond (Nat.blt k 105) 12 (cond (Nat.blt k 106) 9 12))) (cond (Nat.blt k 109) (cond (Nat.blt k 108) 9 8) (cond (Nat.blt k 110) 9 (cond (Nat.blt k 111) 12 9)))) (cond (Nat.blt k 117) (cond (Nat.blt k 114) (cond (Nat.blt k 113) 2 3) (cond (Nat.blt k 115) 0 (cond (Nat.blt k 116) 5 4))) (cond (Nat.blt k 120) (cond (Nat.blt k 118) 6 (cond (Nat.blt k 119) 10 7)) (cond (Nat.blt k 121) 8 (cond (Nat.blt k 122) 9 9)))))) (cond (Nat.blt k 143) (cond (Nat.blt k 133) (cond (Nat.blt k 128) (cond (Nat.blt k 125) (cond (Nat.blt k 124) 9 8) (cond (Nat.blt k 126) 9 (cond (Nat.blt k 127) 8 9))) (cond (Nat.blt k 130) (cond (Nat.blt k 129) 3 2) (cond (Nat.blt k 131) 3 (cond (Nat.blt k 132) 9 9)))) (cond (Nat.blt k 138) (cond (Nat.blt k 135) (cond (Nat.blt k 134) 8 9) (cond (Nat.blt k 136) 8 (cond (Nat.blt k 137) 8 8))) (cond (Nat.blt k 140) (cond (Nat.blt k 139) 8 9) (cond (Nat.blt k 141) 9 (cond (Nat.blt k 142) 9 8))))) (cond (Nat.blt k 153) (cond (Nat.blt k 148) (cond (Nat.blt k 145) (cond (Nat.blt k 144) 8 9) (cond (Nat.blt k 146) 8 (cond (Nat.blt k 147) 9 8))) (cond (Nat.blt k 150) (cond (Nat.blt k 149) 9 8) (cond (Nat.blt k 151) 9 (cond (Nat.blt k 152) 9 8)))) (cond (Nat.blt k 158) (cond (Nat.blt k 155) (cond (Nat.blt k 154) 9 8) (cond (Nat.blt k 156) 8 (cond (Nat.blt k 157) 8 8))) (cond (Nat.blt k 161) (cond (Nat.blt k 159) 9 (cond (Nat.blt k 160) 9 8)) (cond (Nat.blt k 162) 8 (cond (Nat.blt k 163) 9 8)))))))) (cond (Nat.blt k 246) (cond (Nat.blt k 205) (cond (Nat.blt k 184) (cond (Nat.blt k 174) (cond (Nat.blt k 169) (cond (Nat.blt k 166) (cond (Nat.blt k 165) 9 8) (cond (Nat.blt k 167) 9 (cond (Nat.blt k 168) 8 8))) (cond (Nat.blt k 171) (cond (Nat.blt k 170) 9 9) (cond (Nat.blt k 172) 9 (cond (Nat.blt k 173) 8 6)))) (cond (Nat.blt k 179) (cond (Nat.blt k 176) (cond (Nat.blt k 175) 9 9) (cond (Nat.blt k 177) 8 (cond (Nat.blt k 178) 9 9))) (cond (Nat.blt k 181) (cond (Nat.blt k 180) 8 8) (cond (Nat.blt k 182) 8 (cond (Nat.blt k 183) 9 8))))) (cond (Nat.blt k 194) (cond (Nat.blt k 189) (cond (Nat.blt k 186) (cond (Nat.blt k 185) 0 0) (cond (Nat.blt k 187) 8 (cond (Nat.blt k 188) 8 8))) (cond (Nat.blt k 191) (cond (Nat.blt k 190) 4 2) (cond (Nat.blt k 192) 8 (cond (Nat.blt k 193) 9 9)))) (cond (Nat.blt k 199) (cond (Nat.blt k 196) (cond (Nat.blt k 195) 8 8) (cond (Nat.blt k 197) 8 (cond (Nat.blt k 198) 8 9))) (cond (Nat.blt k 202) (cond (Nat.blt k 200) 9 (cond (Nat.blt k 201) 9 8)) (cond (Nat.blt k 203) 8 (cond (Nat.blt k 204) 8 8)))))) (cond (Nat.blt k 225) (cond (Nat.blt k 215) (cond (Nat.blt k 210) (cond (Nat.blt k 207) (cond (Nat.blt k 206) 8 2) (cond (Nat.blt k 208) 8 (cond (Nat.blt k 209) 1 13))) (cond (Nat.blt k 212) (cond (Nat.blt k 211) 8 8) (cond (Nat.blt k 213) 9 (cond (Nat.blt k 214) 9 9)))) (cond (Nat.blt k 220) (cond (Nat.blt k 217) (cond (Nat.blt k 216) 8 8) (cond (Nat.blt k 218) 9 (cond (Nat.blt k 219) 9 8))) (cond (Nat.blt k 222) (cond (Nat.blt k 221) 2 0) (cond (Nat.blt k 223) 0 (cond (Nat.blt k 224) 1 8))))) (cond (Nat.blt k 235) (cond (Nat.blt k 230) (cond (Nat.blt k 227) (cond (Nat.blt k 226) 8 9) (cond (Nat.blt k 228) 8 (cond (Nat.blt k 229) 8 2))) (cond (Nat.blt k 232) (cond (Nat.blt k 231) 9 2) (cond (Nat.blt k 233) 8 (cond (Nat.blt k 234) 9 8)))) (cond (Nat.blt k 240) (cond (Nat.blt k 237) (cond (Nat.blt k 236) 5 5) (cond (Nat.blt k 238) 6 (cond (Nat.blt k 239) 9 9))) (cond (Nat.blt k 243) (cond (Nat.blt k 241) 9 (cond (Nat.blt k 242) 8 0)) (cond (Nat.blt k 244) 2 (cond (Nat.blt k 245) 1 5))))))) (cond (Nat.blt k 287) (cond (Nat.blt k 266) (cond (Nat.blt k 256) (cond (Nat.blt k 251) (cond (Nat.blt k 248) (cond (Nat.blt k 247) 4 0) (cond (Nat.blt k 249) 10 (cond (Nat.blt k 250) 10 10))) (cond (Nat.blt k 253) (cond (Nat.blt k 252) 10 10) (cond (Nat.blt k 254) 10 (cond (Nat.blt k 255) 7 8)))) (cond (Nat.blt k 261) (cond (Nat.blt k 258) (cond (Nat.blt k 257) 3 8) (cond (Nat.blt k 259) 9 (cond (Nat.blt k 260) 9 3))) (cond (Nat.blt k 263) (cond (Nat.blt k 262) 1 8) (cond (Nat.blt k 264) 0 (cond (Nat.blt k 265) 2 1))))) (cond (Nat.blt k 276) (cond (Nat.blt k 271) (cond (Nat.blt k 268) (cond (Nat.blt k 267) 1 1) (cond (Nat.blt k 269) 1 (cond (Nat.blt k 270) 8 9))) (cond (Nat.blt k 273) (cond (Nat.blt k 272) 9 5) (cond (Nat.blt k 274) 6 (cond (Nat.blt k 275) 6 9)))) (cond (Nat.blt k 281) (cond (Nat.blt k 278) (cond (Nat.blt k 277) 9 2) (cond (Nat.blt k 279) 1 (cond (Nat.blt k 280) 4 13))) (cond (Nat.blt k 284) (cond (Nat.blt k 282) 13 (cond (Nat.blt k 283) 13 13)) (cond (Nat.blt k 285) 13 (cond (Nat.blt k 286) 13 7)))))) (cond (Nat.blt k 308) (cond (Nat.blt k 297) (cond (Nat.blt k 292) (cond (Nat.blt k 289) (cond (Nat.blt k 288) 7 9) (cond (Nat.blt k 290) 9 (cond (Nat.blt k 291) 9 9))) (cond (Nat.blt k 294) (cond (Nat.blt k 293) 9 9) (cond (Nat.blt k 295) 9 (cond (Nat.blt k 296) 9 5)))) (cond (Nat.blt k 302) (cond (Nat.blt k 299) (cond (Nat.blt k 298) 5 5) (cond (Nat.blt k 300) 9 (cond (Nat.blt k 301) 2 4))) (cond (Nat.blt k 305) (cond (Nat.blt k 303) 13 (cond (Nat.blt k 304) 13 14)) (cond (Nat.blt k 306) 14 (cond (Nat.blt k 307) 15 11))))) (cond (Nat.blt k 318) (cond (Nat.blt k 313) (cond (Nat.blt k 310) (cond (Nat.blt k 309) 13 11) (cond (Nat.blt k 311) 7 (cond (Nat.blt k 312) 7 9))) (cond (Nat.blt k 315) (cond (Nat.blt k 314) 9 9) (cond (Nat.blt k 316) 9 (cond (Nat.blt k 317) 13 17)))) (cond (Nat.blt k 323) (cond (Nat.blt k 320) (cond (Nat.blt k 319) 11 13) (cond (Nat.blt k 321) 11 (cond (Nat.blt k 322) 19 11))) (cond (Nat.blt k 326) (cond (Nat.blt k 324) 7 (cond (Nat.blt k 325) 7 7)) (cond (Nat.blt k 327) 18 (cond (Nat.blt k 328) 11 15)))))))))
def mpT : List (Nat × Nat × Nat) := [(1, 1038, 1001), (2, 7057, 1014), (3, 3039, 1000), (4, 7134, 1014), (5, 7130, 1014), (6, 3157, 1000), (7, 7172, 1014), (8, 3213, 1000), (9, 7196, 1014), (10, 2100, 1001), (11, 7204, 1014), (12, 2139, 1001), (13, 8051, 1014), (14, 3229, 1000), (15, 8059, 1014), (16, 3236, 1000), (17, 8071, 1014), (18, 4003, 1000), (19, 8075, 1014), (20, 4010, 1000), (21, 8079, 1014), (22, 4017, 1000), (23, 8083, 1014), (24, 4025, 1000), (25, 8091, 1014), (26, 4032, 1000), (27, 8095, 1014), (28, 4043, 1000), (29, 7212, 1014), (30, 4067, 1000), (31, 7227, 1014), (32, 2143, 1001), (33, 8103, 1014), (34, 4107, 1000), (35, 8107, 1014), (36, 4115, 1000), (37, 8111, 1014), (38, 4122, 1000), (39, 8119, 1014), (40, 4129, 1000), (41, 8123, 1014), (42, 4136, 1000), (43, 8127, 1014), (44, 4143, 1000), (45, 8131, 1014), (46, 4154, 1000), (47, 8142, 1014), (48, 4165, 1000), (49, 7239, 1014), (50, 4181, 1000), (51, 8039, 1014), (52, 2147, 1001), (53, 8146, 1014), (54, 4193, 1000), (55, 8154, 1014), (56, 4201, 1000), (57, 8158, 1014), (58, 4209, 1000), (59, 8162, 1014), (60, 2184, 1001), (61, 8167, 1014), (62, 2188, 1001), (63, 8171, 1014), (64, 2192, 1001), (65, 8175, 1014), (66, 4217, 1000), (67, 8215, 1014), (68, 4225, 1000), (69, 8224, 1014), (70, 4232, 1000), (71, 8228, 1014), (72, 5004, 1000), (73, 8232, 1014), (74, 5025, 1000), (75, 9000, 1014), (76, 2232, 1001), (77, 9004, 1014), (78, 3000, 1001), (79, 9008, 1014), (80, 3012, 1001), (81, 9012, 1014), (82, 5040, 1000), (83, 9016, 1014), (84, 5065, 1000), (85, 9021, 1014), (86, 3016, 1001), (87, 9026, 1014), (88, 5073, 1000), (89, 9030, 1014), (90, 6118, 1000), (91, 9042, 1014), (92, 6125, 1000), (93, 9046, 1014), (94, 6143, 1000), (95, 9050, 1014), (96, 6168, 1000), (97, 9054, 1014), (98, 7004, 1000), (99, 9098, 1014), (100, 7012, 1000), (101, 9102, 1014), (102, 7020, 1000), (103, 9106, 1014), (104, 7027, 1000), (105, 9110, 1014), (106, 7035, 1000), (107, 9114, 1014), (108, 3035, 1001), (109, 9118, 1014), (110, 7047, 1000), (111, 9122, 1014), (112, 1046, 1002), (113, 1154, 1005), (114, 1052, 1003), (115, 1176, 1006), (116, 1195, 1007), (117, 1211, 1008), (118, 1230, 1010), (119, 2023, 1013), (120, 3045, 1001), (121, 7138, 1014), (122, 7146, 1014), (123, 7164, 1014), (124, 3185, 1001), (125, 7176, 1014), (126, 3217, 1001), (127, 7200, 1014), (128, 2104, 1005), (129, 2124, 1002), (130, 2132, 1005), (131, 7208, 1014), (132, 8055, 1014), (133, 3233, 1001), (134, 8063, 1014), (135, 4000, 1001), (136, 4007, 1001), (137, 4014, 1001), (138, 4021, 1001), (139, 7180, 1014), (140, 8067, 1014), (141, 8087, 1014), (142, 4029, 1001), (143, 4036, 1001), (144, 8099, 1014), (145, 4047, 1001), (146, 7216, 1014), (147, 4072, 1001), (148, 7231, 1014), (149, 4111, 1001), (150, 7152, 1014), (151, 7223, 1014), (152, 4119, 1001), (153, 8115, 1014), (154, 4126, 1001), (155, 4133, 1001), (156, 4140, 1001), (157, 4147, 1001), (158, 7235, 1014), (159, 8135, 1014), (160, 4158, 1001), (161, 4169, 1001), (162, 8003, 1014), (163, 4185, 1001), (164, 8043, 1014), (165, 2151, 1001), (166, 8150, 1014), (167, 4197, 1001), (168, 4205, 1001), (169, 7142, 1014), (170, 8047, 1014), (171, 7188, 1014), (172, 4213, 1001), (173, 2196, 1008), (174, 8179, 1014), (175, 8191, 1014), (176, 4221, 1001), (177, 8219, 1014), (178, 8205, 1014), (179, 4229, 1001), (180, 4236, 1001), (181, 5008, 1001), (182, 8236, 1014), (183, 5029, 1001), (184, 2236, 1003), (185, 3004, 1003), (186, 5058, 1001), (187, 5069, 1001), (188, 3020, 1001), (189, 2203, 1007), (190, 3030, 1002), (191, 5077, 1001), (192, 9034, 1014), (193, 9038, 1014), (194, 6122, 1001), (195, 6129, 1001), (196, 6148, 1001), (197, 6172, 1001), (198, 9058, 1014), (199, 9094, 1014), (200, 7168, 1014), (201, 7008, 1001), (202, 7016, 1001), (203, 7024, 1001), (204, 7031, 1001), (205, 7039, 1001), (206, 2108, 1002), (207, 7051, 1001), (208, 1074, 1004), (209, 1233, 1009), (210, 3048, 1001), (211, 3130, 1001), (212, 7149, 1014), (213, 7156, 1014), (214, 7160, 1014), (215, 3189, 1001), (216, 3210, 1001), (217, 7184, 1014), (218, 7192, 1014), (219, 3221, 1001), (220, 2128, 1002), (221, 2112, 1003), (222, 3008, 1003), (223, 4040, 1004), (224, 4050, 1001), (225, 4055, 1001), (226, 7219, 1014), (227, 4076, 1001), (228, 4100, 1001), (229, 4151, 1002), (230, 8138, 1014), (231, 4162, 1002), (232, 4173, 1001), (233, 8007, 1014), (234, 4189, 1001), (235, 2156, 1006), (236, 2160, 1006), (237, 2199, 1008), (238, 8182, 1014), (239, 8187, 1014), (240, 8195, 1014), (241, 3054, 1001), (242, 5000, 1003), (243, 5012, 1002), (244, 5033, 1004), (245, 3024, 1006), (246, 2208, 1007), (247, 2180, 1003), (248, 5081, 1010), (249, 5210, 1010), (250, 6093, 1010), (251, 5096, 1010), (252, 6014, 1010), (253, 6134, 1010), (254, 6176, 1013), (255, 6235, 1001), (256, 6239, 1005), (257, 3134, 1001), (258, 9062, 1014), (259, 9066, 1014), (260, 7044, 1005), (261, 2119, 1004), (262, 3051, 1001), (263, 3138, 1003), (264, 3193, 1002), (265, 4059, 1004), (266, 4063, 1004), (267, 4080, 1004), (268, 4104, 1004), (269, 4177, 1001), (270, 8011, 1014), (271, 8035, 1014), (272, 2164, 1006), (273, 2220, 1008), (274, 2224, 1008), (275, 8199, 1014), (276, 8211, 1014), (277, 5016, 1002), (278, 5037, 1004), (279, 2212, 1007), (280, 5084, 1009), (281, 5213, 1009), (282, 6096, 1009), (283, 5099, 1009), (284, 6016, 1009), (285, 6137, 1009), (286, 6180, 1013), (287, 6223, 1013), (288, 9070, 1014), (289, 9086, 1014), (290, 9082, 1014), (291, 9078, 1014), (292, 9090, 1014), (293, 8015, 1014), (294, 8027, 1014), (295, 8031, 1014), (296, 2168, 1006), (297, 2172, 1006), (298, 2176, 1006), (299, 8202, 1014), (300, 5020, 1002), (301, 2216, 1007), (302, 5107, 1009), (303, 5137, 1009), (304, 5216, 1032), (305, 5219, 1032), (306, 6099, 1030), (307, 5167, 1011), (308, 5176, 1009), (309, 6108, 1011), (310, 6184, 1013), (311, 6191, 1013), (312, 9074, 1014), (313, 8019, 1014), (314, 8023, 1014), (315, 8208, 1014), (316, 5111, 1009), (317, 5123, 1028), (318, 5171, 1011), (319, 5180, 1009), (320, 5204, 1011), (321, 6111, 1029), (322, 6196, 1011), (323, 6211, 1013), (324, 6215, 1013), (325, 6219, 1013), (326, 5114, 1027), (327, 6200, 1011), (328, 6203, 1030)]
def tS (own : Nat) : List (Nat × Nat × Nat × Nat × Nat) := match own with
  | 6 => [(26, 237, 5, 2197, 2198)]
  | 8 => [(72, 210, 2, 3046, 3047), (144, 224, 4, 4048, 4049), (239, 241, 1, 3052, 3053), (366, 262, 2, 3049, 3050)]
  | 9 => [(60, 150, 3, 7150, 7151), (109, 212, 2, 7147, 7148), (146, 226, 1, 7217, 7218), (187, 230, 4, 8136, 8137), (205, 178, 1, 8203, 8204), (209, 315, 1, 8206, 8207), (212, 238, 1, 8180, 8181), (216, 239, 1, 8185, 8186), (219, 299, 4, 8200, 8201), (226, 276, 1, 8209, 8210)]
  | 11 => [(495, 328, 2, 6201, 6202), (1059, 321, 3, 6109, 6110)]
  | 12 => [(162, 3, 4, 3037, 3038), (171, 6, 5, 3155, 3156), (175, 8, 5, 3211, 3212), (186, 14, 3, 3227, 3228), (190, 16, 3, 3234, 3235), (193, 18, 3, 4001, 4002), (196, 20, 3, 4008, 4009), (199, 22, 3, 4015, 4016), (202, 24, 3, 4023, 4024), (205, 26, 3, 4030, 4031), (208, 28, 6, 4041, 4042), (212, 30, 3, 4065, 4066), (219, 34, 3, 4105, 4106), (222, 36, 3, 4113, 4114), (225, 38, 3, 4120, 4121), (228, 40, 3, 4127, 4128), (231, 42, 3, 4134, 4135), (234, 44, 3, 4141, 4142), (237, 46, 3, 4152, 4153), (240, 48, 2, 4163, 4164), (244, 50, 2, 4179, 4180), (252, 54, 2, 4191, 4192), (255, 56, 3, 4199, 4200), (258, 58, 3, 4207, 4208), (273, 66, 3, 4215, 4216), (276, 68, 2, 4223, 4224), (279, 70, 6, 4230, 4231), (283, 72, 3, 5002, 5003), (286, 74, 3, 5023, 5024), (301, 82, 2, 5038, 5039), (305, 84, 2, 5063, 5064), (312, 88, 3, 5071, 5072), (315, 90, 3, 6116, 6117), (318, 92, 3, 6123, 6124), (321, 94, 3, 6141, 6142), (325, 96, 2, 6166, 6167), (328, 98, 2, 7002, 7003), (331, 100, 2, 7010, 7011), (334, 102, 2, 7018, 7019), (337, 104, 2, 7025, 7026), (340, 106, 2, 7033, 7034), (347, 110, 2, 7045, 7046)]
  | 13 => [(108, 317, 2, 5121, 5122), (114, 326, 3, 5112, 5113), (144, 309, 2, 6139, 6107), (191, 306, 1, 6097, 6098), (245, 304, 1, 5214, 5215), (248, 305, 3, 5217, 5218)]
  | 15 => [(9, 309, 2, 6204, 6107)]
  | _ => []
def tV (own : Nat) : List (Nat × Nat × Nat × Nat × Nat × Nat × Nat) := match own with
  | 0 => [(24, 263, 4, 0, 5001, 3136, 3137), (28, 222, 2, 0, 3005, 3006, 3007)]
  | 1 => [(41, 278, 2, 1, 5034, 5036, 12009)]
  | 2 => [(32, 221, 2, 0, 2109, 2110, 2111), (36, 261, 2, 1, 2116, 2117, 2118), (52, 220, 2, 2, 2125, 2126, 2127), (56, 247, 2, 0, 3031, 2178, 2179), (73, 277, 2, 2, 5013, 5015, 12007), (76, 300, 3, 2, 5017, 5019, 12008), (80, 222, 2, 0, 5021, 3006, 3007), (83, 223, 2, 1, 5022, 4038, 4039)]
  | 3 => [(22, 206, 2, 2, 2105, 2106, 2107)]
  | 4 => [(29, 246, 2, 4, 2205, 2207, 11005), (42, 279, 3, 4, 2209, 2211, 11006), (59, 301, 3, 4, 2213, 2215, 11007)]
  | 5 => [(21, 236, 4, 5, 3025, 2158, 2159), (34, 272, 4, 5, 2161, 2163, 11001), (42, 247, 2, 0, 2177, 2178, 2179), (57, 296, 5, 5, 2165, 2167, 11002), (64, 297, 4, 5, 2169, 2171, 11003), (71, 298, 4, 5, 2173, 2175, 11004)]
  | 6 => [(30, 189, 4, 4, 2200, 2201, 2202), (34, 273, 2, 6, 2217, 2219, 11008), (38, 274, 2, 6, 2221, 2223, 11009)]
  | 7 => [(35, 286, 2, 7, 6177, 6179, 12010), (39, 252, 1, 10, 6185, 6013, 9135), (46, 287, 2, 7, 6220, 6222, 13000), (50, 310, 2, 7, 6181, 6183, 12011), (56, 311, 4, 7, 6188, 6190, 12012), (74, 307, 1, 11, 6192, 5165, 5166), (77, 322, 2, 11, 6193, 6194, 6195), (80, 323, 1, 7, 6208, 6210, 12013), (83, 324, 1, 7, 6212, 6214, 12014), (86, 325, 2, 7, 6216, 6218, 12015), (89, 253, 2, 10, 6186, 6132, 6133)]
  | 8 => [(76, 128, 2, 3, 2101, 2102, 2103), (80, 211, 3, 8, 3127, 3129, 11012), (91, 130, 1, 3, 2129, 2130, 2131), (94, 215, 2, 8, 3186, 3188, 11014), (98, 216, 4, 8, 3207, 3209, 11015), (102, 219, 4, 8, 3218, 3220, 12000), (107, 129, 1, 2, 2121, 2122, 2123), (127, 222, 2, 0, 4022, 3006, 3007), (131, 184, 2, 0, 2233, 2234, 2235), (139, 223, 2, 1, 4037, 4038, 4039), (153, 225, 5, 8, 4052, 4054, 12001), (159, 227, 2, 8, 4073, 4075, 12002), (162, 228, 2, 8, 4097, 4099, 12003), (189, 229, 2, 2, 4148, 4149, 4150), (192, 231, 2, 2, 4159, 4160, 4161), (195, 232, 1, 8, 4170, 4172, 12004), (200, 234, 1, 8, 4186, 4188, 12006), (205, 165, 1, 8, 2148, 2150, 11000), (210, 188, 1, 8, 3017, 3019, 11010), (216, 189, 4, 4, 3026, 2201, 2202), (231, 173, 4, 6, 2193, 2194, 2195), (244, 221, 2, 0, 2152, 2110, 2111), (248, 242, 3, 0, 4237, 4238, 4239), (252, 243, 2, 2, 5009, 5010, 5011), (255, 244, 2, 1, 5030, 5031, 5032), (258, 185, 2, 0, 3001, 3002, 3003), (266, 78, 1, 8, 5062, 2238, 2239), (269, 76, 1, 8, 5070, 2230, 2231), (272, 190, 2, 2, 3027, 3028, 3029), (275, 248, 2, 10, 5078, 5079, 5080), (278, 249, 2, 10, 6089, 5208, 5209), (282, 250, 2, 10, 6090, 6091, 6092), (287, 251, 2, 10, 6113, 5094, 5095), (290, 220, 2, 2, 6114, 2126, 2127), (293, 252, 1, 10, 6115, 6013, 9135), (301, 253, 2, 10, 6131, 6132, 6133), (315, 254, 1, 7, 6173, 6174, 6175), (324, 255, 2, 8, 6232, 6234, 13001), (327, 256, 2, 3, 6236, 6237, 6238), (338, 257, 3, 8, 3131, 3133, 11013), (355, 260, 2, 3, 7041, 7042, 7043), (358, 206, 2, 2, 3036, 2106, 2107), (369, 264, 2, 2, 3190, 3191, 3192), (374, 267, 2, 1, 4077, 4078, 4079), (379, 263, 4, 0, 3135, 3136, 3137), (391, 265, 5, 1, 4056, 4057, 4058), (394, 266, 5, 1, 4060, 4061, 4062), (396, 268, 2, 1, 4101, 4102, 4103), (399, 235, 1, 5, 2153, 2154, 2155), (402, 236, 4, 5, 2157, 2158, 2159), (409, 269, 1, 8, 4174, 4176, 12005), (413, 245, 4, 5, 3021, 3022, 3023)]
  | 9 => [(34, 169, 3, 9, 7139, 7141, 13003), (56, 200, 2, 9, 7165, 7167, 13008), (64, 151, 3, 9, 7220, 7222, 14001), (68, 171, 3, 9, 7185, 7187, 13012), (71, 214, 4, 9, 7157, 7159, 13006), (78, 314, 5, 9, 8020, 8022, 14009), (82, 313, 2, 9, 8016, 8018, 14008), (86, 293, 4, 9, 8012, 8014, 14007), (89, 294, 3, 9, 8024, 8026, 14010), (92, 295, 3, 9, 8028, 8030, 14011), (95, 270, 2, 9, 8008, 8010, 14006), (99, 271, 2, 9, 8032, 8034, 14012), (105, 233, 2, 9, 8004, 8006, 14005), (113, 213, 3, 9, 7153, 7155, 13005), (116, 121, 1, 9, 7135, 7137, 13002), (119, 122, 3, 9, 7143, 7145, 13004), (122, 123, 6, 9, 7161, 7163, 13007), (126, 139, 2, 9, 7177, 7179, 13010), (129, 217, 1, 9, 7181, 7183, 13011), (132, 218, 1, 9, 7189, 7191, 13013), (136, 125, 4, 9, 7173, 7175, 13009), (140, 127, 4, 9, 7197, 7199, 13014), (143, 131, 1, 9, 7205, 7207, 13015), (149, 146, 5, 9, 7213, 7215, 14000), (153, 158, 2, 9, 7232, 7234, 14003), (156, 148, 2, 9, 7228, 7230, 14002), (159, 162, 1, 9, 8000, 8002, 14004), (162, 170, 2, 9, 8044, 8046, 14014), (165, 164, 1, 9, 8040, 8042, 14013), (168, 132, 2, 9, 8052, 8054, 14015), (171, 140, 2, 9, 8064, 8066, 15001), (175, 134, 3, 9, 8060, 8062, 15000), (178, 141, 2, 9, 8084, 8086, 15002), (181, 144, 2, 9, 8096, 8098, 15003), (184, 153, 3, 9, 8112, 8114, 15004), (191, 159, 3, 9, 8132, 8134, 15005), (195, 166, 1, 9, 8147, 8149, 15006), (198, 57, 2, 9, 8163, 8156, 8157), (223, 275, 2, 9, 8196, 8198, 15010), (229, 175, 4, 9, 8188, 8190, 15008), (233, 240, 2, 9, 8192, 8194, 15009), (236, 174, 1, 9, 8176, 8178, 15007), (239, 65, 1, 9, 8220, 8173, 8174), (243, 177, 1, 9, 8216, 8218, 15011), (246, 182, 3, 9, 8233, 8235, 15012), (249, 79, 1, 9, 9017, 9006, 9007), (252, 77, 1, 9, 9022, 9002, 9003), (258, 192, 2, 9, 9031, 9033, 15013), (261, 193, 2, 9, 9035, 9037, 15014), (273, 259, 1, 9, 9063, 9065, 16001), (276, 290, 2, 9, 9079, 9081, 16005), (279, 312, 2, 9, 9071, 9073, 16003), (282, 291, 3, 9, 9075, 9077, 16004), (288, 288, 2, 9, 9067, 9069, 16002), (291, 289, 4, 9, 9083, 9085, 16006), (294, 292, 2, 9, 9087, 9089, 16007), (297, 258, 1, 9, 9059, 9061, 16000), (300, 198, 1, 9, 9055, 9057, 15015), (303, 199, 2, 9, 9091, 9093, 16008)]
  | 11 => [(335, 318, 1, 11, 5168, 5169, 5170), (492, 327, 1, 11, 6197, 6198, 6199)]
  | 12 => [(7, 120, 3, 8, 3042, 3043, 3044), (17, 124, 4, 8, 3182, 3183, 3184), (23, 126, 4, 8, 3214, 3215, 3216), (26, 133, 2, 8, 3230, 3231, 3232), (30, 135, 2, 8, 3237, 3238, 3239), (33, 136, 2, 8, 4004, 4005, 4006), (36, 137, 2, 8, 4011, 4012, 4013), (39, 138, 2, 8, 4018, 4019, 4020), (42, 142, 2, 8, 4026, 4027, 4028), (46, 143, 2, 8, 4033, 4034, 4035), (49, 145, 5, 8, 4044, 4045, 4046), (53, 147, 2, 8, 4069, 4070, 4071), (58, 149, 2, 8, 4108, 4109, 4110), (61, 152, 2, 8, 4116, 4117, 4118), (65, 154, 2, 8, 4123, 4124, 4125), (68, 155, 2, 8, 4130, 4131, 4132), (71, 156, 2, 8, 4137, 4138, 4139), (74, 157, 2, 8, 4144, 4145, 4146), (77, 160, 2, 8, 4155, 4156, 4157), (80, 161, 1, 8, 4166, 4167, 4168), (84, 163, 1, 8, 4182, 4183, 4184), (87, 167, 1, 8, 4194, 4195, 4196), (90, 168, 2, 8, 4202, 4203, 4204), (93, 172, 2, 8, 4210, 4211, 4212), (96, 176, 2, 8, 4218, 4219, 4220), (99, 179, 1, 8, 4226, 4227, 4228), (102, 180, 5, 8, 4233, 4234, 4235), (106, 181, 2, 8, 5005, 5006, 5007), (109, 183, 2, 8, 5026, 5027, 5028), (112, 186, 1, 8, 5055, 5056, 5057), (118, 187, 1, 8, 5066, 5067, 5068), (122, 191, 2, 8, 5074, 5075, 5076), (125, 194, 2, 8, 6119, 6120, 6121), (128, 195, 2, 8, 6126, 6127, 6128), (131, 196, 2, 8, 6145, 6146, 6147), (137, 197, 1, 8, 6169, 6170, 6171), (140, 201, 1, 8, 7005, 7006, 7007), (143, 202, 1, 8, 7013, 7014, 7015), (146, 203, 1, 8, 7021, 7022, 7023), (149, 204, 1, 8, 7028, 7029, 7030), (152, 205, 1, 8, 7036, 7037, 7038), (155, 207, 1, 8, 7048, 7049, 7050), (167, 4, 3, 9, 7131, 7132, 7133), (168, 5, 1, 9, 7127, 7128, 7129), (174, 7, 4, 9, 7169, 7170, 7171), (177, 9, 4, 9, 7193, 7194, 7195), (178, 10, 1, 8, 2097, 2098, 2099), (181, 11, 1, 9, 7201, 7202, 7203), (182, 12, 1, 8, 2136, 2137, 2138), (185, 13, 1, 9, 8048, 8049, 8050), (189, 15, 2, 9, 8056, 8057, 8058), (192, 17, 2, 9, 8068, 8069, 8070), (195, 19, 2, 9, 8072, 8073, 8074), (198, 21, 2, 9, 8076, 8077, 8078), (201, 23, 2, 9, 8080, 8081, 8082), (204, 25, 2, 9, 8088, 8089, 8090), (207, 27, 2, 9, 8092, 8093, 8094), (211, 29, 5, 9, 7209, 7210, 7211), (214, 31, 2, 9, 7224, 7225, 7226), (215, 32, 1, 8, 2140, 2141, 2142), (218, 33, 1, 9, 8100, 8101, 8102), (221, 35, 2, 9, 8104, 8105, 8106), (224, 37, 2, 9, 8108, 8109, 8110), (227, 39, 2, 9, 8116, 8117, 8118), (230, 41, 2, 9, 8120, 8121, 8122), (233, 43, 2, 9, 8124, 8125, 8126), (236, 45, 2, 9, 8128, 8129, 8130), (239, 47, 2, 9, 8139, 8140, 8141), (243, 49, 1, 9, 7236, 7237, 7238), (246, 51, 1, 9, 8036, 8037, 8038), (247, 52, 1, 8, 2144, 2145, 2146), (251, 53, 1, 9, 8143, 8144, 8145), (254, 55, 1, 9, 8151, 8152, 8153), (257, 57, 2, 9, 8155, 8156, 8157), (260, 59, 2, 9, 8159, 8160, 8161), (261, 60, 1, 8, 2181, 2182, 2183), (264, 61, 1, 9, 8164, 8165, 8166), (265, 62, 1, 8, 2185, 2186, 2187), (268, 63, 1, 9, 8168, 8169, 8170), (269, 64, 1, 8, 2189, 2190, 2191), (272, 65, 1, 9, 8172, 8173, 8174), (275, 67, 2, 9, 8212, 8213, 8214), (278, 69, 1, 9, 8221, 8222, 8223), (282, 71, 5, 9, 8225, 8226, 8227), (285, 73, 2, 9, 8229, 8230, 8231), (288, 75, 2, 9, 8237, 8238, 8239), (289, 76, 1, 8, 2229, 2230, 2231), (292, 77, 1, 9, 9001, 9002, 9003), (293, 78, 1, 8, 2237, 2238, 2239), (296, 79, 1, 9, 9005, 9006, 9007), (297, 80, 1, 8, 3009, 3010, 3011), (300, 81, 1, 9, 9009, 9010, 9011), (304, 83, 1, 9, 9013, 9014, 9015), (307, 85, 1, 9, 9018, 9019, 9020), (308, 86, 1, 8, 3013, 3014, 3015), (311, 87, 1, 9, 9023, 9024, 9025), (314, 89, 2, 9, 9027, 9028, 9029), (317, 91, 2, 9, 9039, 9040, 9041), (320, 93, 2, 9, 9043, 9044, 9045), (324, 95, 2, 9, 9047, 9048, 9049), (327, 97, 1, 9, 9051, 9052, 9053), (330, 99, 1, 9, 9095, 9096, 9097), (333, 101, 1, 9, 9099, 9100, 9101), (336, 103, 1, 9, 9103, 9104, 9105), (339, 105, 1, 9, 9107, 9108, 9109), (342, 107, 1, 9, 9111, 9112, 9113), (343, 108, 1, 8, 3032, 3033, 3034), (346, 109, 1, 9, 9115, 9116, 9117), (349, 111, 1, 9, 9119, 9120, 9121)]
  | 13 => [(32, 307, 1, 11, 5164, 5165, 5166), (40, 318, 1, 11, 5181, 5169, 5170), (83, 303, 1, 10, 5133, 5134, 5136), (100, 302, 2, 10, 5104, 5106, 0), (104, 316, 2, 10, 5108, 5110, 1), (208, 308, 3, 10, 5173, 5175, 2), (397, 319, 2, 10, 5177, 5179, 3), (399, 320, 4, 11, 5201, 5202, 5203)]
  | _ => []
def tI (own : Nat) : List (Nat × Nat × Nat × Nat × Nat) := match own with
  | 7 => [(11, 118, 1, 2026, 1229)]
  | 8 => [(18, 113, 1, 1152, 1153), (56, 118, 1, 1228, 1229)]
  | 10 => [(1, 209, 2, 1231, 1232)]
  | 12 => [(158, 1, 1, 1036, 1037), (161, 2, 1, 7055, 7056)]
  | _ => []
def tN (own : Nat) : List (Nat × Nat × Nat × Nat × Nat) := match own with
  | 2 => [(11, 114, 1, 1050, 1051), (23, 208, 1, 1072, 1073)]
  | 3 => [(17, 112, 1, 1158, 1045)]
  | 6 => [(17, 116, 1, 1214, 1194)]
  | 8 => [(11, 112, 1, 1044, 1045), (28, 114, 1, 1171, 1051), (35, 115, 1, 1174, 1175), (42, 116, 1, 1193, 1194), (49, 117, 1, 1209, 1210), (63, 119, 1, 2021, 2022)]
  | _ => []
def tU (own : Nat) : List (Nat × Nat × Nat × Nat × Nat × Nat × Nat × Nat) := match own with
  | 10 => [(29, 283, 2, 10, 5097, 5098, 9126, 2017), (50, 282, 2, 10, 6094, 6095, 9134, 2017), (53, 281, 2, 10, 5211, 5212, 9133, 2017), (329, 285, 2, 10, 6135, 6136, 9136, 2017), (333, 280, 2, 10, 5082, 5083, 9125, 2017), (343, 284, 1, 10, 6015, 6010, 6011, 2017)]
  | _ => []
def tO (own : Nat) : List (Nat × Nat) := match own with
  | 0 => [(3, 1053)]
  | 1 => [(3, 1075)]
  | 2 => [(3, 1047)]
  | 3 => [(3, 1155)]
  | 4 => [(3, 1196)]
  | 5 => [(3, 1177)]
  | 6 => [(3, 1212)]
  | 7 => [(3, 2024)]
  | 8 => [(3, 1039)]
  | 9 => [(3, 7058)]
  | 13 => [(3, 1234)]
  | _ => []
def tC (own : Nat) : List (Nat × Nat) := match own with
  | 0 => [(18, 2113)]
  | 1 => [(35, 2120)]
  | 4 => [(23, 2204)]
  | 6 => [(45, 2228)]
  | 11 => [(212, 5205)]
  | 17 => [(150, 5132)]
  | _ => []
def tM3 (own : Nat) : List (Nat × Nat) := match own with
  | 8 => [(383, 3222)]
  | 18 => [(194, 5115)]
  | _ => []
def tM4 (own : Nat) : List (Nat × Nat) := match own with
  | 3 => [(29, 2133)]
  | 8 => [(388, 3225)]
  | 13 => [(138, 6138)]
  | 17 => [(304, 5131)]
  | _ => []
def tM5 (own : Nat) : List (Nat × Nat) := match own with
  | 6 => [(66, 2225)]
  | _ => []
def tF (own : Nat) : List (Nat × Nat × Nat × Nat) := match own with
  | 0 => [(9, 0, 0, 1054), (15, 0, 1, 1059)]
  | 1 => [(9, 1, 2, 1082), (15, 1, 3, 1085), (19, 1, 4, 1091), (22, 1, 5, 1097), (25, 1, 6, 1103), (28, 1, 0, 1076), (32, 1, 1, 1081)]
  | 2 => [(12, 2, 1, 1127), (18, 2, 2, 1129), (24, 2, 3, 1131), (28, 2, 0, 1125), (39, 2, 4, 1133), (42, 2, 5, 1135), (45, 0, 0, 1056), (49, 0, 1, 1061), (60, 1, 4, 1095), (63, 1, 5, 1101), (66, 1, 6, 1107), (69, 1, 3, 1089)]
  | 3 => [(13, 3, 2, 1162), (18, 3, 1, 1161), (26, 3, 0, 1159)]
  | 4 => [(9, 4, 0, 1197), (15, 4, 1, 1200), (18, 0, 0, 1055), (33, 0, 1, 1060), (36, 1, 0, 1077), (46, 1, 4, 1092), (49, 1, 5, 1098), (52, 1, 6, 1104), (55, 1, 3, 1087)]
  | 5 => [(9, 5, 0, 1178), (15, 5, 1, 1180), (18, 5, 2, 1182), (25, 1, 0, 1078), (30, 1, 3, 1086), (38, 1, 4, 1093), (48, 1, 5, 1099), (51, 1, 2, 1083), (54, 1, 6, 1105), (61, 0, 0, 1057), (68, 0, 1, 1062)]
  | 6 => [(9, 6, 0, 1215), (18, 6, 2, 1218), (22, 6, 1, 1217), (42, 4, 0, 1198), (51, 4, 1, 1201), (54, 1, 0, 1079), (60, 1, 4, 1094), (63, 1, 5, 1100), (72, 1, 3, 1088), (76, 1, 6, 1106)]
  | 7 => [(12, 7, 0, 2029), (18, 7, 3, 2035), (22, 7, 4, 2037), (28, 7, 5, 2039), (31, 7, 1, 2031), (43, 7, 2, 2033)]
  | 8 => [(12, 8, 0, 2054), (19, 8, 1, 2055), (23, 8, 2, 2056), (29, 8, 4, 2058), (36, 8, 5, 2059), (43, 8, 6, 2060), (50, 8, 7, 2061), (57, 8, 8, 2062), (64, 8, 9, 2063), (68, 8, 10, 2064), (111, 2, 0, 1126), (114, 2, 2, 1130), (117, 0, 0, 1058), (121, 0, 1, 1063), (124, 2, 1, 1128), (135, 2, 3, 1132), (165, 1, 0, 1080), (173, 1, 2, 1084), (176, 1, 3, 1090), (180, 1, 4, 1096), (183, 1, 5, 1102), (186, 1, 6, 1108), (222, 4, 0, 1199), (225, 2, 4, 1134), (228, 2, 5, 1136), (236, 6, 0, 1216), (307, 7, 0, 2030), (318, 7, 1, 2032), (323, 7, 2, 2034), (332, 8, 11, 2065), (335, 8, 13, 2067), (347, 8, 12, 2066), (352, 3, 0, 1160), (360, 8, 3, 2057), (406, 5, 2, 1183), (412, 5, 1, 1181), (416, 5, 0, 1179), (417, 7, 4, 2038), (418, 7, 5, 2040), (422, 7, 3, 2036)]
  | 9 => [(9, 9, 1, 7060), (13, 9, 12, 7071), (17, 9, 13, 7072), (21, 9, 15, 7074), (24, 9, 19, 7078), (28, 9, 20, 7079), (31, 9, 0, 7059), (38, 9, 2, 7061), (41, 9, 4, 7063), (44, 9, 8, 7067), (47, 9, 5, 7064), (50, 9, 9, 7068), (53, 9, 6, 7065), (75, 9, 10, 7069), (102, 9, 11, 7070), (255, 9, 14, 7073), (264, 9, 16, 7075), (267, 9, 17, 7076), (270, 9, 18, 7077), (285, 9, 21, 7080), (306, 9, 7, 7066), (309, 9, 3, 7062)]
  | 11 => [(9, 11, 0, 6048), (15, 11, 1, 6049)]
  | 13 => [(15, 10, 0, 2004), (22, 10, 1, 2005), (73, 10, 2, 2006), (79, 10, 3, 2008)]
  | _ => []
def tW (own : Nat) : List (Nat × Nat × Nat × Nat × Nat × Nat) := match own with
  | 2 => [(9, 0, 2, 1048, 1049, 1003), (21, 1, 7, 1070, 1071, 1004)]
  | 3 => [(11, 2, 6, 1156, 1043, 1002)]
  | 6 => [(15, 4, 2, 1213, 1192, 1007)]
  | 7 => [(9, 10, 4, 2025, 1227, 1010)]
  | 8 => [(9, 2, 6, 1042, 1043, 1002), (16, 3, 3, 1150, 1151, 1005), (26, 0, 2, 1170, 1049, 1003), (33, 5, 3, 1172, 1173, 1006), (40, 4, 2, 1191, 1192, 1007), (47, 6, 3, 1207, 1208, 1008), (54, 10, 4, 1226, 1227, 1010), (61, 7, 6, 2019, 2020, 1013)]
  | 12 => [(8, 8, 14, 1034, 1035, 1001), (159, 9, 22, 7053, 7054, 1014)]
  | _ => []
def tA (own : Nat) : List (Nat × Nat) := match own with
  | 3 => [(11, 1156)]
  | _ => []
def tMA (own : Nat) : List (Nat × Nat) := match own with
  | 7 => [(26, 2027)]
  | _ => []
def tKI (own : Nat) : List (Nat × Int32 × Nat) := match own with
  | 13 => [(39, 2147483647, 5120)]
  | 18 => [(200, 2147483639, 5116)]
  | _ => []
def tKL (own : Nat) : List (Nat × Int × Nat) := match own with
  | 9 => [(201, 2199023255551, 8183), (203, (-1), 8184)]
  | _ => []
def tGS (own : Nat) : List (Nat × Nat × Nat) := match own with
  | 11 => [(38, 0, 5172), (1053, 3, 5150)]
  | 13 => [(18, 0, 1235)]
  | 14 => [(83, 2, 5220), (87, 1, 5222)]
  | _ => []
set_option maxRecDepth 100000
def Pm (q : MIT) : Prop := mword q ∈ lw_tb ∨ q.1.name = "law"
theorem mw_L_law : Pm mi_L_law := Or.inr rfl
theorem mw_X8_init : Pm mi_X8_init := Or.inl (tbg_mem (n := 1038) rfl)
theorem mw_X9_init : Pm mi_X9_init := Or.inl (tbg_mem (n := 7057) rfl)
theorem mw_L_addDoor : Pm mi_L_addDoor := Or.inl (tbg_mem (n := 3039) rfl)
theorem mw_X9_addDoor : Pm mi_X9_addDoor := Or.inl (tbg_mem (n := 7134) rfl)
theorem mw_X9_thrown : Pm mi_X9_thrown := Or.inl (tbg_mem (n := 7130) rfl)
theorem mw_L_setFrame : Pm mi_L_setFrame := Or.inl (tbg_mem (n := 3157) rfl)
theorem mw_X9_setFrame : Pm mi_X9_setFrame := Or.inl (tbg_mem (n := 7172) rfl)
theorem mw_L_narrow : Pm mi_L_narrow := Or.inl (tbg_mem (n := 3213) rfl)
theorem mw_X9_narrow : Pm mi_X9_narrow := Or.inl (tbg_mem (n := 7196) rfl)
theorem mw_X8_reset : Pm mi_X8_reset := Or.inl (tbg_mem (n := 2100) rfl)
theorem mw_X9_reset : Pm mi_X9_reset := Or.inl (tbg_mem (n := 7204) rfl)
theorem mw_X8_doorCount : Pm mi_X8_doorCount := Or.inl (tbg_mem (n := 2139) rfl)
theorem mw_X9_doorCount : Pm mi_X9_doorCount := Or.inl (tbg_mem (n := 8051) rfl)
theorem mw_L_lowOf : Pm mi_L_lowOf := Or.inl (tbg_mem (n := 3229) rfl)
theorem mw_X9_lowOf : Pm mi_X9_lowOf := Or.inl (tbg_mem (n := 8059) rfl)
theorem mw_L_highOf : Pm mi_L_highOf := Or.inl (tbg_mem (n := 3236) rfl)
theorem mw_X9_highOf : Pm mi_X9_highOf := Or.inl (tbg_mem (n := 8071) rfl)
theorem mw_L_frameLow : Pm mi_L_frameLow := Or.inl (tbg_mem (n := 4003) rfl)
theorem mw_X9_frameLow : Pm mi_X9_frameLow := Or.inl (tbg_mem (n := 8075) rfl)
theorem mw_L_frameHigh : Pm mi_L_frameHigh := Or.inl (tbg_mem (n := 4010) rfl)
theorem mw_X9_frameHigh : Pm mi_X9_frameHigh := Or.inl (tbg_mem (n := 8079) rfl)
theorem mw_L_widthOf : Pm mi_L_widthOf := Or.inl (tbg_mem (n := 4017) rfl)
theorem mw_X9_widthOf : Pm mi_X9_widthOf := Or.inl (tbg_mem (n := 8083) rfl)
theorem mw_L_isFixed : Pm mi_L_isFixed := Or.inl (tbg_mem (n := 4025) rfl)
theorem mw_X9_isFixed : Pm mi_X9_isFixed := Or.inl (tbg_mem (n := 8091) rfl)
theorem mw_L_constraintsOf : Pm mi_L_constraintsOf := Or.inl (tbg_mem (n := 4032) rfl)
theorem mw_X9_constraintsOf : Pm mi_X9_constraintsOf := Or.inl (tbg_mem (n := 8095) rfl)
theorem mw_L_addConstraint : Pm mi_L_addConstraint := Or.inl (tbg_mem (n := 4043) rfl)
theorem mw_X9_addConstraint : Pm mi_X9_addConstraint := Or.inl (tbg_mem (n := 7212) rfl)
theorem mw_L_removeConstraint : Pm mi_L_removeConstraint := Or.inl (tbg_mem (n := 4067) rfl)
theorem mw_X9_removeConstraint : Pm mi_X9_removeConstraint := Or.inl (tbg_mem (n := 7227) rfl)
theorem mw_X8_constraintCount : Pm mi_X8_constraintCount := Or.inl (tbg_mem (n := 2143) rfl)
theorem mw_X9_constraintCount : Pm mi_X9_constraintCount := Or.inl (tbg_mem (n := 8103) rfl)
theorem mw_L_constraintAt : Pm mi_L_constraintAt := Or.inl (tbg_mem (n := 4107) rfl)
theorem mw_X9_constraintAt : Pm mi_X9_constraintAt := Or.inl (tbg_mem (n := 8107) rfl)
theorem mw_L_kindOf : Pm mi_L_kindOf := Or.inl (tbg_mem (n := 4115) rfl)
theorem mw_X9_kindOf : Pm mi_X9_kindOf := Or.inl (tbg_mem (n := 8111) rfl)
theorem mw_L_firstOf : Pm mi_L_firstOf := Or.inl (tbg_mem (n := 4122) rfl)
theorem mw_X9_firstOf : Pm mi_X9_firstOf := Or.inl (tbg_mem (n := 8119) rfl)
theorem mw_L_secondOf : Pm mi_L_secondOf := Or.inl (tbg_mem (n := 4129) rfl)
theorem mw_X9_secondOf : Pm mi_X9_secondOf := Or.inl (tbg_mem (n := 8123) rfl)
theorem mw_L_gapOf : Pm mi_L_gapOf := Or.inl (tbg_mem (n := 4136) rfl)
theorem mw_X9_gapOf : Pm mi_X9_gapOf := Or.inl (tbg_mem (n := 8127) rfl)
theorem mw_L_isSafe : Pm mi_L_isSafe := Or.inl (tbg_mem (n := 4143) rfl)
theorem mw_X9_isSafe : Pm mi_X9_isSafe := Or.inl (tbg_mem (n := 8131) rfl)
theorem mw_L_isBroken : Pm mi_L_isBroken := Or.inl (tbg_mem (n := 4154) rfl)
theorem mw_X9_isBroken : Pm mi_X9_isBroken := Or.inl (tbg_mem (n := 8142) rfl)
theorem mw_L_pass : Pm mi_L_pass := Or.inl (tbg_mem (n := 4165) rfl)
theorem mw_X9_pass : Pm mi_X9_pass := Or.inl (tbg_mem (n := 7239) rfl)
theorem mw_L_settle : Pm mi_L_settle := Or.inl (tbg_mem (n := 4181) rfl)
theorem mw_X9_settle : Pm mi_X9_settle := Or.inl (tbg_mem (n := 8039) rfl)
theorem mw_X8_isSettled : Pm mi_X8_isSettled := Or.inl (tbg_mem (n := 2147) rfl)
theorem mw_X9_isSettled : Pm mi_X9_isSettled := Or.inl (tbg_mem (n := 8146) rfl)
theorem mw_L_wouldChange : Pm mi_L_wouldChange := Or.inl (tbg_mem (n := 4193) rfl)
theorem mw_X9_wouldChange : Pm mi_X9_wouldChange := Or.inl (tbg_mem (n := 8154) rfl)
theorem mw_L_lowestHeight : Pm mi_L_lowestHeight := Or.inl (tbg_mem (n := 4201) rfl)
theorem mw_X9_lowestHeight : Pm mi_X9_lowestHeight := Or.inl (tbg_mem (n := 8158) rfl)
theorem mw_L_lowestHeightByPaths : Pm mi_L_lowestHeightByPaths := Or.inl (tbg_mem (n := 4209) rfl)
theorem mw_X9_lowestHeightByPaths : Pm mi_X9_lowestHeightByPaths := Or.inl (tbg_mem (n := 8162) rfl)
theorem mw_X8_passCount : Pm mi_X8_passCount := Or.inl (tbg_mem (n := 2184) rfl)
theorem mw_X9_passCount : Pm mi_X9_passCount := Or.inl (tbg_mem (n := 8167) rfl)
theorem mw_X8_changeCount : Pm mi_X8_changeCount := Or.inl (tbg_mem (n := 2188) rfl)
theorem mw_X9_changeCount : Pm mi_X9_changeCount := Or.inl (tbg_mem (n := 8171) rfl)
theorem mw_X8_hasPeace : Pm mi_X8_hasPeace := Or.inl (tbg_mem (n := 2192) rfl)
theorem mw_X9_hasPeace : Pm mi_X9_hasPeace := Or.inl (tbg_mem (n := 8175) rfl)
theorem mw_L_peaceHeight : Pm mi_L_peaceHeight := Or.inl (tbg_mem (n := 4217) rfl)
theorem mw_X9_peaceHeight : Pm mi_X9_peaceHeight := Or.inl (tbg_mem (n := 8215) rfl)
theorem mw_L_peaceSum : Pm mi_L_peaceSum := Or.inl (tbg_mem (n := 4225) rfl)
theorem mw_X9_peaceSum : Pm mi_X9_peaceSum := Or.inl (tbg_mem (n := 8224) rfl)
theorem mw_L_arePossible : Pm mi_L_arePossible := Or.inl (tbg_mem (n := 4232) rfl)
theorem mw_X9_arePossible : Pm mi_X9_arePossible := Or.inl (tbg_mem (n := 8228) rfl)
theorem mw_L_doorByWidth : Pm mi_L_doorByWidth := Or.inl (tbg_mem (n := 5004) rfl)
theorem mw_X9_doorByWidth : Pm mi_X9_doorByWidth := Or.inl (tbg_mem (n := 8232) rfl)
theorem mw_L_constraintByGap : Pm mi_L_constraintByGap := Or.inl (tbg_mem (n := 5025) rfl)
theorem mw_X9_constraintByGap : Pm mi_X9_constraintByGap := Or.inl (tbg_mem (n := 9000) rfl)
theorem mw_X8_fixedCount : Pm mi_X8_fixedCount := Or.inl (tbg_mem (n := 2232) rfl)
theorem mw_X9_fixedCount : Pm mi_X9_fixedCount := Or.inl (tbg_mem (n := 9004) rfl)
theorem mw_X8_totalWidth : Pm mi_X8_totalWidth := Or.inl (tbg_mem (n := 3000) rfl)
theorem mw_X9_totalWidth : Pm mi_X9_totalWidth := Or.inl (tbg_mem (n := 9008) rfl)
theorem mw_X8_totalFrameWidth : Pm mi_X8_totalFrameWidth := Or.inl (tbg_mem (n := 3012) rfl)
theorem mw_X9_totalFrameWidth : Pm mi_X9_totalFrameWidth := Or.inl (tbg_mem (n := 9012) rfl)
theorem mw_L_meanWidth : Pm mi_L_meanWidth := Or.inl (tbg_mem (n := 5040) rfl)
theorem mw_X9_meanWidth : Pm mi_X9_meanWidth := Or.inl (tbg_mem (n := 9016) rfl)
theorem mw_L_fixedShare : Pm mi_L_fixedShare := Or.inl (tbg_mem (n := 5065) rfl)
theorem mw_X9_fixedShare : Pm mi_X9_fixedShare := Or.inl (tbg_mem (n := 9021) rfl)
theorem mw_X8_isConsistent : Pm mi_X8_isConsistent := Or.inl (tbg_mem (n := 3016) rfl)
theorem mw_X9_isConsistent : Pm mi_X9_isConsistent := Or.inl (tbg_mem (n := 9026) rfl)
theorem mw_L_writeDoor : Pm mi_L_writeDoor := Or.inl (tbg_mem (n := 5073) rfl)
theorem mw_X9_writeDoor : Pm mi_X9_writeDoor := Or.inl (tbg_mem (n := 9030) rfl)
theorem mw_L_writeConstraint : Pm mi_L_writeConstraint := Or.inl (tbg_mem (n := 6118) rfl)
theorem mw_X9_writeConstraint : Pm mi_X9_writeConstraint := Or.inl (tbg_mem (n := 9042) rfl)
theorem mw_L_outputAt : Pm mi_L_outputAt := Or.inl (tbg_mem (n := 6125) rfl)
theorem mw_X9_outputAt : Pm mi_X9_outputAt := Or.inl (tbg_mem (n := 9046) rfl)
theorem mw_L_appendInput : Pm mi_L_appendInput := Or.inl (tbg_mem (n := 6143) rfl)
theorem mw_X9_appendInput : Pm mi_X9_appendInput := Or.inl (tbg_mem (n := 9050) rfl)
theorem mw_L_execute : Pm mi_L_execute := Or.inl (tbg_mem (n := 6168) rfl)
theorem mw_X9_execute : Pm mi_X9_execute := Or.inl (tbg_mem (n := 9054) rfl)
theorem mw_L_syntaxErrorOffset : Pm mi_L_syntaxErrorOffset := Or.inl (tbg_mem (n := 7004) rfl)
theorem mw_X9_syntaxErrorOffset : Pm mi_X9_syntaxErrorOffset := Or.inl (tbg_mem (n := 9098) rfl)
theorem mw_L_rejectionReason : Pm mi_L_rejectionReason := Or.inl (tbg_mem (n := 7012) rfl)
theorem mw_X9_rejectionReason : Pm mi_X9_rejectionReason := Or.inl (tbg_mem (n := 9102) rfl)
theorem mw_L_rejectionDetail : Pm mi_L_rejectionDetail := Or.inl (tbg_mem (n := 7020) rfl)
theorem mw_X9_rejectionDetail : Pm mi_X9_rejectionDetail := Or.inl (tbg_mem (n := 9106) rfl)
theorem mw_L_causeReason : Pm mi_L_causeReason := Or.inl (tbg_mem (n := 7027) rfl)
theorem mw_X9_causeReason : Pm mi_X9_causeReason := Or.inl (tbg_mem (n := 9110) rfl)
theorem mw_L_undo : Pm mi_L_undo := Or.inl (tbg_mem (n := 7035) rfl)
theorem mw_X9_undo : Pm mi_X9_undo := Or.inl (tbg_mem (n := 9114) rfl)
theorem mw_X8_saveSnapshot : Pm mi_X8_saveSnapshot := Or.inl (tbg_mem (n := 3035) rfl)
theorem mw_X9_saveSnapshot : Pm mi_X9_saveSnapshot := Or.inl (tbg_mem (n := 9118) rfl)
theorem mw_L_restoreSnapshot : Pm mi_L_restoreSnapshot := Or.inl (tbg_mem (n := 7047) rfl)
theorem mw_X9_restoreSnapshot : Pm mi_X9_restoreSnapshot := Or.inl (tbg_mem (n := 9122) rfl)
theorem mw_X2_init : Pm mi_X2_init := Or.inl (tbg_mem (n := 1046) rfl)
theorem mw_X3_init : Pm mi_X3_init := Or.inl (tbg_mem (n := 1154) rfl)
theorem mw_X0_init : Pm mi_X0_init := Or.inl (tbg_mem (n := 1052) rfl)
theorem mw_X5_init : Pm mi_X5_init := Or.inl (tbg_mem (n := 1176) rfl)
theorem mw_X4_init : Pm mi_X4_init := Or.inl (tbg_mem (n := 1195) rfl)
theorem mw_X6_init : Pm mi_X6_init := Or.inl (tbg_mem (n := 1211) rfl)
theorem mw_J4_init_da8c8 : Pm mi_J4_init_da8c8 := Or.inl (tbg_mem (n := 1230) rfl)
theorem mw_X7_init : Pm mi_X7_init := Or.inl (tbg_mem (n := 2023) rfl)
theorem mw_X8_addDoor : Pm mi_X8_addDoor := Or.inl (tbg_mem (n := 3045) rfl)
theorem mw_X9_begins : Pm mi_X9_begins := Or.inl (tbg_mem (n := 7138) rfl)
theorem mw_X9_adds : Pm mi_X9_adds := Or.inl (tbg_mem (n := 7146) rfl)
theorem mw_X9_ends : Pm mi_X9_ends := Or.inl (tbg_mem (n := 7164) rfl)
theorem mw_X8_setFrame : Pm mi_X8_setFrame := Or.inl (tbg_mem (n := 3185) rfl)
theorem mw_X9_frames : Pm mi_X9_frames := Or.inl (tbg_mem (n := 7176) rfl)
theorem mw_X8_narrow : Pm mi_X8_narrow := Or.inl (tbg_mem (n := 3217) rfl)
theorem mw_X9_narrowed : Pm mi_X9_narrowed := Or.inl (tbg_mem (n := 7200) rfl)
theorem mw_X3_prepare : Pm mi_X3_prepare := Or.inl (tbg_mem (n := 2104) rfl)
theorem mw_X2_openAll : Pm mi_X2_openAll := Or.inl (tbg_mem (n := 2124) rfl)
theorem mw_X3_keep : Pm mi_X3_keep := Or.inl (tbg_mem (n := 2132) rfl)
theorem mw_X9_resetsAll : Pm mi_X9_resetsAll := Or.inl (tbg_mem (n := 7208) rfl)
theorem mw_X9_told : Pm mi_X9_told := Or.inl (tbg_mem (n := 8055) rfl)
theorem mw_X8_lowOf : Pm mi_X8_lowOf := Or.inl (tbg_mem (n := 3233) rfl)
theorem mw_X9_ofDoor : Pm mi_X9_ofDoor := Or.inl (tbg_mem (n := 8063) rfl)
theorem mw_X8_highOf : Pm mi_X8_highOf := Or.inl (tbg_mem (n := 4000) rfl)
theorem mw_X8_frameLow : Pm mi_X8_frameLow := Or.inl (tbg_mem (n := 4007) rfl)
theorem mw_X8_frameHigh : Pm mi_X8_frameHigh := Or.inl (tbg_mem (n := 4014) rfl)
theorem mw_X8_widthOf : Pm mi_X8_widthOf := Or.inl (tbg_mem (n := 4021) rfl)
theorem mw_X9_isDoor : Pm mi_X9_isDoor := Or.inl (tbg_mem (n := 7180) rfl)
theorem mw_X9_isFine : Pm mi_X9_isFine := Or.inl (tbg_mem (n := 8067) rfl)
theorem mw_X9_width : Pm mi_X9_width := Or.inl (tbg_mem (n := 8087) rfl)
theorem mw_X8_isFixed : Pm mi_X8_isFixed := Or.inl (tbg_mem (n := 4029) rfl)
theorem mw_X8_constraintsOf : Pm mi_X8_constraintsOf := Or.inl (tbg_mem (n := 4036) rfl)
theorem mw_X9_takesPart : Pm mi_X9_takesPart := Or.inl (tbg_mem (n := 8099) rfl)
theorem mw_X8_addConstraint : Pm mi_X8_addConstraint := Or.inl (tbg_mem (n := 4047) rfl)
theorem mw_X9_binds : Pm mi_X9_binds := Or.inl (tbg_mem (n := 7216) rfl)
theorem mw_X8_removeConstraint : Pm mi_X8_removeConstraint := Or.inl (tbg_mem (n := 4072) rfl)
theorem mw_X9_drops : Pm mi_X9_drops := Or.inl (tbg_mem (n := 7231) rfl)
theorem mw_X8_constraintAt : Pm mi_X8_constraintAt := Or.inl (tbg_mem (n := 4111) rfl)
theorem mw_X9_in : Pm mi_X9_in := Or.inl (tbg_mem (n := 7152) rfl)
theorem mw_X9_c : Pm mi_X9_c := Or.inl (tbg_mem (n := 7223) rfl)
theorem mw_X8_kindOf : Pm mi_X8_kindOf := Or.inl (tbg_mem (n := 4119) rfl)
theorem mw_X9_ofRule : Pm mi_X9_ofRule := Or.inl (tbg_mem (n := 8115) rfl)
theorem mw_X8_firstOf : Pm mi_X8_firstOf := Or.inl (tbg_mem (n := 4126) rfl)
theorem mw_X8_secondOf : Pm mi_X8_secondOf := Or.inl (tbg_mem (n := 4133) rfl)
theorem mw_X8_gapOf : Pm mi_X8_gapOf := Or.inl (tbg_mem (n := 4140) rfl)
theorem mw_X8_isSafe : Pm mi_X8_isSafe := Or.inl (tbg_mem (n := 4147) rfl)
theorem mw_X9_rule : Pm mi_X9_rule := Or.inl (tbg_mem (n := 7235) rfl)
theorem mw_X9_pairs : Pm mi_X9_pairs := Or.inl (tbg_mem (n := 8135) rfl)
theorem mw_X8_isBroken : Pm mi_X8_isBroken := Or.inl (tbg_mem (n := 4158) rfl)
theorem mw_X8_pass : Pm mi_X8_pass := Or.inl (tbg_mem (n := 4169) rfl)
theorem mw_X9_passes : Pm mi_X9_passes := Or.inl (tbg_mem (n := 8003) rfl)
theorem mw_X8_settle : Pm mi_X8_settle := Or.inl (tbg_mem (n := 4185) rfl)
theorem mw_X9_settlesAll : Pm mi_X9_settlesAll := Or.inl (tbg_mem (n := 8043) rfl)
theorem mw_X8_changesOfTrialPass : Pm mi_X8_changesOfTrialPass := Or.inl (tbg_mem (n := 2151) rfl)
theorem mw_X9_would : Pm mi_X9_would := Or.inl (tbg_mem (n := 8150) rfl)
theorem mw_X8_wouldChange : Pm mi_X8_wouldChange := Or.inl (tbg_mem (n := 4197) rfl)
theorem mw_X8_lowestHeight : Pm mi_X8_lowestHeight := Or.inl (tbg_mem (n := 4205) rfl)
theorem mw_X9_copies : Pm mi_X9_copies := Or.inl (tbg_mem (n := 7142) rfl)
theorem mw_X9_settles : Pm mi_X9_settles := Or.inl (tbg_mem (n := 8047) rfl)
theorem mw_X9_d : Pm mi_X9_d := Or.inl (tbg_mem (n := 7188) rfl)
theorem mw_X8_lowestHeightByPaths : Pm mi_X8_lowestHeightByPaths := Or.inl (tbg_mem (n := 4213) rfl)
theorem mw_X6_find : Pm mi_X6_find := Or.inl (tbg_mem (n := 2196) rfl)
theorem mw_X9_opens : Pm mi_X9_opens := Or.inl (tbg_mem (n := 8179) rfl)
theorem mw_X9_isSolvableWith : Pm mi_X9_isSolvableWith := Or.inl (tbg_mem (n := 8191) rfl)
theorem mw_X8_peaceHeight : Pm mi_X8_peaceHeight := Or.inl (tbg_mem (n := 4221) rfl)
theorem mw_X9_makesPeace : Pm mi_X9_makesPeace := Or.inl (tbg_mem (n := 8219) rfl)
theorem mw_X9_lowest : Pm mi_X9_lowest := Or.inl (tbg_mem (n := 8205) rfl)
theorem mw_X8_peaceSum : Pm mi_X8_peaceSum := Or.inl (tbg_mem (n := 4229) rfl)
theorem mw_X8_arePossible : Pm mi_X8_arePossible := Or.inl (tbg_mem (n := 4236) rfl)
theorem mw_X8_doorByWidth : Pm mi_X8_doorByWidth := Or.inl (tbg_mem (n := 5008) rfl)
theorem mw_X9_isNarrower : Pm mi_X9_isNarrower := Or.inl (tbg_mem (n := 8236) rfl)
theorem mw_X8_constraintByGap : Pm mi_X8_constraintByGap := Or.inl (tbg_mem (n := 5029) rfl)
theorem mw_X0_isOneHeight : Pm mi_X0_isOneHeight := Or.inl (tbg_mem (n := 2236) rfl)
theorem mw_X0_sumOfWidths : Pm mi_X0_sumOfWidths := Or.inl (tbg_mem (n := 3004) rfl)
theorem mw_X8_meanWidth : Pm mi_X8_meanWidth := Or.inl (tbg_mem (n := 5058) rfl)
theorem mw_X8_fixedShare : Pm mi_X8_fixedShare := Or.inl (tbg_mem (n := 5069) rfl)
theorem mw_X8_settleTrialWithoutApart : Pm mi_X8_settleTrialWithoutApart := Or.inl (tbg_mem (n := 3020) rfl)
theorem mw_X4_climb : Pm mi_X4_climb := Or.inl (tbg_mem (n := 2203) rfl)
theorem mw_X2_isInOrder : Pm mi_X2_isInOrder := Or.inl (tbg_mem (n := 3030) rfl)
theorem mw_X8_writeDoor : Pm mi_X8_writeDoor := Or.inl (tbg_mem (n := 5077) rfl)
theorem mw_X9_writesNumber : Pm mi_X9_writesNumber := Or.inl (tbg_mem (n := 9034) rfl)
theorem mw_X9_writes : Pm mi_X9_writes := Or.inl (tbg_mem (n := 9038) rfl)
theorem mw_X8_writeConstraint : Pm mi_X8_writeConstraint := Or.inl (tbg_mem (n := 6122) rfl)
theorem mw_X8_outputAt : Pm mi_X8_outputAt := Or.inl (tbg_mem (n := 6129) rfl)
theorem mw_X8_appendInput : Pm mi_X8_appendInput := Or.inl (tbg_mem (n := 6148) rfl)
theorem mw_X8_execute : Pm mi_X8_execute := Or.inl (tbg_mem (n := 6172) rfl)
theorem mw_X9_parse : Pm mi_X9_parse := Or.inl (tbg_mem (n := 9058) rfl)
theorem mw_X9_does : Pm mi_X9_does := Or.inl (tbg_mem (n := 9094) rfl)
theorem mw_X9_kept : Pm mi_X9_kept := Or.inl (tbg_mem (n := 7168) rfl)
theorem mw_X8_syntaxErrorOffset : Pm mi_X8_syntaxErrorOffset := Or.inl (tbg_mem (n := 7008) rfl)
theorem mw_X8_rejectionReason : Pm mi_X8_rejectionReason := Or.inl (tbg_mem (n := 7016) rfl)
theorem mw_X8_rejectionDetail : Pm mi_X8_rejectionDetail := Or.inl (tbg_mem (n := 7024) rfl)
theorem mw_X8_causeReason : Pm mi_X8_causeReason := Or.inl (tbg_mem (n := 7031) rfl)
theorem mw_X8_undo : Pm mi_X8_undo := Or.inl (tbg_mem (n := 7039) rfl)
theorem mw_X2_copyFrom : Pm mi_X2_copyFrom := Or.inl (tbg_mem (n := 2108) rfl)
theorem mw_X8_restoreSnapshot : Pm mi_X8_restoreSnapshot := Or.inl (tbg_mem (n := 7051) rfl)
theorem mw_X1_init : Pm mi_X1_init := Or.inl (tbg_mem (n := 1074) rfl)
theorem mw_J5_init_d00df : Pm mi_J5_init_d00df := Or.inl (tbg_mem (n := 1233) rfl)
theorem mw_X8_checkRange : Pm mi_X8_checkRange := Or.inl (tbg_mem (n := 3048) rfl)
theorem mw_X8_enterDoor : Pm mi_X8_enterDoor := Or.inl (tbg_mem (n := 3130) rfl)
theorem mw_X9_isRange : Pm mi_X9_isRange := Or.inl (tbg_mem (n := 7149) rfl)
theorem mw_X9_rejects : Pm mi_X9_rejects := Or.inl (tbg_mem (n := 7156) rfl)
theorem mw_X9_set : Pm mi_X9_set := Or.inl (tbg_mem (n := 7160) rfl)
theorem mw_X8_checkDoor : Pm mi_X8_checkDoor := Or.inl (tbg_mem (n := 3189) rfl)
theorem mw_X8_changeFrame : Pm mi_X8_changeFrame := Or.inl (tbg_mem (n := 3210) rfl)
theorem mw_X9_resets : Pm mi_X9_resets := Or.inl (tbg_mem (n := 7184) rfl)
theorem mw_X9_unlike : Pm mi_X9_unlike := Or.inl (tbg_mem (n := 7192) rfl)
theorem mw_X8_narrowDoor : Pm mi_X8_narrowDoor := Or.inl (tbg_mem (n := 3221) rfl)
theorem mw_X2_differencesToFrame : Pm mi_X2_differencesToFrame := Or.inl (tbg_mem (n := 2128) rfl)
theorem mw_X0_copyFrom : Pm mi_X0_copyFrom := Or.inl (tbg_mem (n := 2112) rfl)
theorem mw_X0_width : Pm mi_X0_width := Or.inl (tbg_mem (n := 3008) rfl)
theorem mw_X1_countWith : Pm mi_X1_countWith := Or.inl (tbg_mem (n := 4040) rfl)
theorem mw_X8_isConstraint : Pm mi_X8_isConstraint := Or.inl (tbg_mem (n := 4050) rfl)
theorem mw_X8_enterConstraint : Pm mi_X8_enterConstraint := Or.inl (tbg_mem (n := 4055) rfl)
theorem mw_X9_isKind : Pm mi_X9_isKind := Or.inl (tbg_mem (n := 7219) rfl)
theorem mw_X8_checkedPosition : Pm mi_X8_checkedPosition := Or.inl (tbg_mem (n := 4076) rfl)
theorem mw_X8_takeConstraintAway : Pm mi_X8_takeConstraintAway := Or.inl (tbg_mem (n := 4100) rfl)
theorem mw_X2_isAlwaysMet : Pm mi_X2_isAlwaysMet := Or.inl (tbg_mem (n := 4151) rfl)
theorem mw_X9_holds : Pm mi_X9_holds := Or.inl (tbg_mem (n := 8138) rfl)
theorem mw_X2_isNeverMet : Pm mi_X2_isNeverMet := Or.inl (tbg_mem (n := 4162) rfl)
theorem mw_X8_passOnce : Pm mi_X8_passOnce := Or.inl (tbg_mem (n := 4173) rfl)
theorem mw_X9_goesThrough : Pm mi_X9_goesThrough := Or.inl (tbg_mem (n := 8007) rfl)
theorem mw_X8_passUntilSettled : Pm mi_X8_passUntilSettled := Or.inl (tbg_mem (n := 4189) rfl)
theorem mw_X5_begin : Pm mi_X5_begin := Or.inl (tbg_mem (n := 2156) rfl)
theorem mw_X5_makePass : Pm mi_X5_makePass := Or.inl (tbg_mem (n := 2160) rfl)
theorem mw_X6_chooseSides : Pm mi_X6_chooseSides := Or.inl (tbg_mem (n := 2199) rfl)
theorem mw_X9_from : Pm mi_X9_from := Or.inl (tbg_mem (n := 8182) rfl)
theorem mw_X9_till : Pm mi_X9_till := Or.inl (tbg_mem (n := 8187) rfl)
theorem mw_X9_isSolvable : Pm mi_X9_isSolvable := Or.inl (tbg_mem (n := 8195) rfl)
theorem mw_X8_isHeight : Pm mi_X8_isHeight := Or.inl (tbg_mem (n := 3054) rfl)
theorem mw_X0_fix : Pm mi_X0_fix := Or.inl (tbg_mem (n := 5000) rfl)
theorem mw_X2_doorAtRank : Pm mi_X2_doorAtRank := Or.inl (tbg_mem (n := 5012) rfl)
theorem mw_X1_positionAtRank : Pm mi_X1_positionAtRank := Or.inl (tbg_mem (n := 5033) rfl)
theorem mw_X5_makePassesToTheEnd : Pm mi_X5_makePassesToTheEnd := Or.inl (tbg_mem (n := 3024) rfl)
theorem mw_X4_climbOnce : Pm mi_X4_climbOnce := Or.inl (tbg_mem (n := 2208) rfl)
theorem mw_X0_isEmpty : Pm mi_X0_isEmpty := Or.inl (tbg_mem (n := 2180) rfl)
theorem mw_J4_setLength_d00df : Pm mi_J4_setLength_d00df := Or.inl (tbg_mem (n := 5081) rfl)
theorem mw_J4_append_bf812 : Pm mi_J4_append_bf812 := Or.inl (tbg_mem (n := 5210) rfl)
theorem mw_J4_append_cf468 : Pm mi_J4_append_cf468 := Or.inl (tbg_mem (n := 6093) rfl)
theorem mw_J4_append_15ec4 : Pm mi_J4_append_15ec4 := Or.inl (tbg_mem (n := 5096) rfl)
theorem mw_J4_length_8abf5 : Pm mi_J4_length_8abf5 := Or.inl (tbg_mem (n := 6014) rfl)
theorem mw_J4_charAt_5068e : Pm mi_J4_charAt_5068e := Or.inl (tbg_mem (n := 6134) rfl)
theorem mw_X7_read : Pm mi_X7_read := Or.inl (tbg_mem (n := 6176) rfl)
theorem mw_X8_runCommand : Pm mi_X8_runCommand := Or.inl (tbg_mem (n := 6235) rfl)
theorem mw_X3_bringBackPrepared : Pm mi_X3_bringBackPrepared := Or.inl (tbg_mem (n := 6239) rfl)
theorem mw_X8_reject : Pm mi_X8_reject := Or.inl (tbg_mem (n := 3134) rfl)
theorem mw_X9_command : Pm mi_X9_command := Or.inl (tbg_mem (n := 9062) rfl)
theorem mw_X9_sign : Pm mi_X9_sign := Or.inl (tbg_mem (n := 9066) rfl)
theorem mw_X3_bringBackLatest : Pm mi_X3_bringBackLatest := Or.inl (tbg_mem (n := 7044) rfl)
theorem mw_X1_copyFrom : Pm mi_X1_copyFrom := Or.inl (tbg_mem (n := 2119) rfl)
theorem mw_X8_isRange : Pm mi_X8_isRange := Or.inl (tbg_mem (n := 3051) rfl)
theorem mw_X0_put : Pm mi_X0_put := Or.inl (tbg_mem (n := 3138) rfl)
theorem mw_X2_hasDoor : Pm mi_X2_hasDoor := Or.inl (tbg_mem (n := 3193) rfl)
theorem mw_X1_positionOfSame : Pm mi_X1_positionOfSame := Or.inl (tbg_mem (n := 4059) rfl)
theorem mw_X1_append : Pm mi_X1_append := Or.inl (tbg_mem (n := 4063) rfl)
theorem mw_X1_positionOf : Pm mi_X1_positionOf := Or.inl (tbg_mem (n := 4080) rfl)
theorem mw_X1_takeOut : Pm mi_X1_takeOut := Or.inl (tbg_mem (n := 4104) rfl)
theorem mw_X8_takeOverTrial : Pm mi_X8_takeOverTrial := Or.inl (tbg_mem (n := 4177) rfl)
theorem mw_X9_narrows : Pm mi_X9_narrows := Or.inl (tbg_mem (n := 8011) rfl)
theorem mw_X9_isTorn : Pm mi_X9_isTorn := Or.inl (tbg_mem (n := 8035) rfl)
theorem mw_X5_takeSteps : Pm mi_X5_takeSteps := Or.inl (tbg_mem (n := 2164) rfl)
theorem mw_X6_isBetter : Pm mi_X6_isBetter := Or.inl (tbg_mem (n := 2220) rfl)
theorem mw_X6_tooNear : Pm mi_X6_tooNear := Or.inl (tbg_mem (n := 2224) rfl)
theorem mw_X9_isOpen : Pm mi_X9_isOpen := Or.inl (tbg_mem (n := 8199) rfl)
theorem mw_X9_size : Pm mi_X9_size := Or.inl (tbg_mem (n := 8211) rfl)
theorem mw_X2_rankOf : Pm mi_X2_rankOf := Or.inl (tbg_mem (n := 5016) rfl)
theorem mw_X1_rankOf : Pm mi_X1_rankOf := Or.inl (tbg_mem (n := 5037) rfl)
theorem mw_X4_climbAlong : Pm mi_X4_climbAlong := Or.inl (tbg_mem (n := 2212) rfl)
theorem mw_J5_setLength_d00df : Pm mi_J5_setLength_d00df := Or.inl (tbg_mem (n := 5084) rfl)
theorem mw_J5_append_c97b9 : Pm mi_J5_append_c97b9 := Or.inl (tbg_mem (n := 5213) rfl)
theorem mw_J5_append_3fe6f : Pm mi_J5_append_3fe6f := Or.inl (tbg_mem (n := 6096) rfl)
theorem mw_J5_append_cf1ce : Pm mi_J5_append_cf1ce := Or.inl (tbg_mem (n := 5099) rfl)
theorem mw_J5_length_8abf5 : Pm mi_J5_length_8abf5 := Or.inl (tbg_mem (n := 6016) rfl)
theorem mw_J5_charAt_5068e : Pm mi_J5_charAt_5068e := Or.inl (tbg_mem (n := 6137) rfl)
theorem mw_X7_readCommand : Pm mi_X7_readCommand := Or.inl (tbg_mem (n := 6180) rfl)
theorem mw_X7_readSign : Pm mi_X7_readSign := Or.inl (tbg_mem (n := 6223) rfl)
theorem mw_X9_binding : Pm mi_X9_binding := Or.inl (tbg_mem (n := 9070) rfl)
theorem mw_X9_letters : Pm mi_X9_letters := Or.inl (tbg_mem (n := 9086) rfl)
theorem mw_X9_needs : Pm mi_X9_needs := Or.inl (tbg_mem (n := 9082) rfl)
theorem mw_X9_behind : Pm mi_X9_behind := Or.inl (tbg_mem (n := 9078) rfl)
theorem mw_X9_range : Pm mi_X9_range := Or.inl (tbg_mem (n := 9090) rfl)
theorem mw_X9_parts : Pm mi_X9_parts := Or.inl (tbg_mem (n := 8015) rfl)
theorem mw_X9_raises : Pm mi_X9_raises := Or.inl (tbg_mem (n := 8027) rfl)
theorem mw_X9_lowers : Pm mi_X9_lowers := Or.inl (tbg_mem (n := 8031) rfl)
theorem mw_X5_keepOff : Pm mi_X5_keepOff := Or.inl (tbg_mem (n := 2168) rfl)
theorem mw_X5_raiseLow : Pm mi_X5_raiseLow := Or.inl (tbg_mem (n := 2172) rfl)
theorem mw_X5_sinkHigh : Pm mi_X5_sinkHigh := Or.inl (tbg_mem (n := 2176) rfl)
theorem mw_X9_goesWith : Pm mi_X9_goesWith := Or.inl (tbg_mem (n := 8202) rfl)
theorem mw_X2_isAhead : Pm mi_X2_isAhead := Or.inl (tbg_mem (n := 5020) rfl)
theorem mw_X4_raise : Pm mi_X4_raise := Or.inl (tbg_mem (n := 2216) rfl)
theorem mw_J5_ensureCapacityInternal_d00df : Pm mi_J5_ensureCapacityInternal_d00df := Or.inl (tbg_mem (n := 5107) rfl)
theorem mw_J5_isLatin1_aae02 : Pm mi_J5_isLatin1_aae02 := Or.inl (tbg_mem (n := 5137) rfl)
theorem mw_J6_stringSize_0f7a4 : Pm mi_J6_stringSize_0f7a4 := Or.inl (tbg_mem (n := 5216) rfl)
theorem mw_J6_getChars_ba4f3 : Pm mi_J6_getChars_ba4f3 := Or.inl (tbg_mem (n := 5219) rfl)
theorem mw_J1_canEncode_fc78d : Pm mi_J1_canEncode_fc78d := Or.inl (tbg_mem (n := 6099) rfl)
theorem mw_J0_length_8abf5 : Pm mi_J0_length_8abf5 := Or.inl (tbg_mem (n := 5167) rfl)
theorem mw_J5_putStringAt_47b60 : Pm mi_J5_putStringAt_47b60 := Or.inl (tbg_mem (n := 5176) rfl)
theorem mw_J0_checkIndex_df160 : Pm mi_J0_checkIndex_df160 := Or.inl (tbg_mem (n := 6108) rfl)
theorem mw_X7_signAt : Pm mi_X7_signAt := Or.inl (tbg_mem (n := 6184) rfl)
theorem mw_X7_readForm : Pm mi_X7_readForm := Or.inl (tbg_mem (n := 6191) rfl)
theorem mw_X9_number : Pm mi_X9_number := Or.inl (tbg_mem (n := 9074) rfl)
theorem mw_X9_isFixedNow : Pm mi_X9_isFixedNow := Or.inl (tbg_mem (n := 8019) rfl)
theorem mw_X9_becomes : Pm mi_X9_becomes := Or.inl (tbg_mem (n := 8023) rfl)
theorem mw_X9_highest : Pm mi_X9_highest := Or.inl (tbg_mem (n := 8208) rfl)
theorem mw_J5_newCapacity_0f7a4 : Pm mi_J5_newCapacity_0f7a4 := Or.inl (tbg_mem (n := 5111) rfl)
theorem mw_J7_copyOf_9075b : Pm mi_J7_copyOf_9075b := Or.inl (tbg_mem (n := 5123) rfl)
theorem mw_J0_coder_7d493 : Pm mi_J0_coder_7d493 := Or.inl (tbg_mem (n := 5171) rfl)
theorem mw_J5_inflateIfNeededFor_a7421 : Pm mi_J5_inflateIfNeededFor_a7421 := Or.inl (tbg_mem (n := 5180) rfl)
theorem mw_J0_getBytes_840e7 : Pm mi_J0_getBytes_840e7 := Or.inl (tbg_mem (n := 5204) rfl)
theorem mw_J3_checkIndex_8e157 : Pm mi_J3_checkIndex_8e157 := Or.inl (tbg_mem (n := 6111) rfl)
theorem mw_J0_charAt_5068e : Pm mi_J0_charAt_5068e := Or.inl (tbg_mem (n := 6196) rfl)
theorem mw_X7_readDigit : Pm mi_X7_readDigit := Or.inl (tbg_mem (n := 6211) rfl)
theorem mw_X7_readNumber : Pm mi_X7_readNumber := Or.inl (tbg_mem (n := 6215) rfl)
theorem mw_X7_readKind : Pm mi_X7_readKind := Or.inl (tbg_mem (n := 6219) rfl)
theorem mw_J8_newLength_cabcc : Pm mi_J8_newLength_cabcc := Or.inl (tbg_mem (n := 5114) rfl)
theorem mw_J0_isLatin1_aae02 : Pm mi_J0_isLatin1_aae02 := Or.inl (tbg_mem (n := 6200) rfl)
theorem mw_J1_charAt_3b067 : Pm mi_J1_charAt_3b067 := Or.inl (tbg_mem (n := 6203) rfl)
theorem Pm_c {b : Bool} {x y : MIT} (hx : Pm x) (hy : Pm y) : Pm (cond b x y) := by cases b <;> assumption
theorem mi_P (k : Nat) : Pm (mi k) := (Pm_c (Pm_c (Pm_c (Pm_c (Pm_c (Pm_c (Pm_c (Pm_c mw_L_law mw_X8_init) (Pm_c mw_X9_init (Pm_c mw_L_addDoor mw_X9_addDoor))) (Pm_c (Pm_c mw_X9_thrown mw_L_setFrame) (Pm_c mw_X9_setFrame (Pm_c mw_L_narrow mw_X9_narrow)))) (Pm_c (Pm_c (Pm_c mw_X8_reset mw_X9_reset) (Pm_c mw_X8_doorCount (Pm_c mw_X9_doorCount mw_L_lowOf))) (Pm_c (Pm_c mw_X9_lowOf mw_L_highOf) (Pm_c mw_X9_highOf (Pm_c mw_L_frameLow mw_X9_frameLow))))) (Pm_c (Pm_c (Pm_c (Pm_c mw_L_frameHigh mw_X9_frameHigh) (Pm_c mw_L_widthOf (Pm_c mw_X9_widthOf mw_L_isFixed))) (Pm_c (Pm_c mw_X9_isFixed mw_L_constraintsOf) (Pm_c mw_X9_constraintsOf (Pm_c mw_L_addConstraint mw_X9_addConstraint)))) (Pm_c (Pm_c (Pm_c mw_L_removeConstraint mw_X9_removeConstraint) (Pm_c mw_X8_constraintCount (Pm_c mw_X9_constraintCount mw_L_constraintAt))) (Pm_c (Pm_c mw_X9_constraintAt (Pm_c mw_L_kindOf mw_X9_kindOf)) (Pm_c mw_L_firstOf (Pm_c mw_X9_firstOf mw_L_secondOf)))))) (Pm_c (Pm_c (Pm_c (Pm_c (Pm_c mw_X9_secondOf mw_L_gapOf) (Pm_c mw_X9_gapOf (Pm_c mw_L_isSafe mw_X9_isSafe))) (Pm_c (Pm_c mw_L_isBroken mw_X9_isBroken) (Pm_c mw_L_pass (Pm_c mw_X9_pass mw_L_settle)))) (Pm_c (Pm_c (Pm_c mw_X9_settle mw_X8_isSettled) (Pm_c mw_X9_isSettled (Pm_c mw_L_wouldChange mw_X9_wouldChange))) (Pm_c (Pm_c mw_L_lowestHeight mw_X9_lowestHeight) (Pm_c mw_L_lowestHeightByPaths (Pm_c mw_X9_lowestHeightByPaths mw_X8_passCount))))) (Pm_c (Pm_c (Pm_c (Pm_c mw_X9_passCount mw_X8_changeCount) (Pm_c mw_X9_changeCount (Pm_c mw_X8_hasPeace mw_X9_hasPeace))) (Pm_c (Pm_c mw_L_peaceHeight mw_X9_peaceHeight) (Pm_c mw_L_peaceSum (Pm_c mw_X9_peaceSum mw_L_arePossible)))) (Pm_c (Pm_c (Pm_c mw_X9_arePossible mw_L_doorByWidth) (Pm_c mw_X9_doorByWidth (Pm_c mw_L_constraintByGap mw_X9_constraintByGap))) (Pm_c (Pm_c mw_X8_fixedCount (Pm_c mw_X9_fixedCount mw_X8_totalWidth)) (Pm_c mw_X9_totalWidth (Pm_c mw_X8_totalFrameWidth mw_X9_totalFrameWidth))))))) (Pm_c (Pm_c (Pm_c (Pm_c (Pm_c (Pm_c mw_L_meanWidth mw_X9_meanWidth) (Pm_c mw_L_fixedShare (Pm_c mw_X9_fixedShare mw_X8_isConsistent))) (Pm_c (Pm_c mw_X9_isConsistent mw_L_writeDoor) (Pm_c mw_X9_writeDoor (Pm_c mw_L_writeConstraint mw_X9_writeConstraint)))) (Pm_c (Pm_c (Pm_c mw_L_outputAt mw_X9_outputAt) (Pm_c mw_L_appendInput (Pm_c mw_X9_appendInput mw_L_execute))) (Pm_c (Pm_c mw_X9_execute mw_L_syntaxErrorOffset) (Pm_c mw_X9_syntaxErrorOffset (Pm_c mw_L_rejectionReason mw_X9_rejectionReason))))) (Pm_c (Pm_c (Pm_c (Pm_c mw_L_rejectionDetail mw_X9_rejectionDetail) (Pm_c mw_L_causeReason (Pm_c mw_X9_causeReason mw_L_undo))) (Pm_c (Pm_c mw_X9_undo mw_X8_saveSnapshot) (Pm_c mw_X9_saveSnapshot (Pm_c mw_L_restoreSnapshot mw_X9_restoreSnapshot)))) (Pm_c (Pm_c (Pm_c mw_X2_init mw_X3_init) (Pm_c mw_X0_init (Pm_c mw_X5_init mw_X4_init))) (Pm_c (Pm_c mw_X6_init (Pm_c mw_J4_init_da8c8 mw_X7_init)) (Pm_c mw_X8_addDoor (Pm_c mw_X9_begins mw_X9_adds)))))) (Pm_c (Pm_c (Pm_c (Pm_c (Pm_c mw_X9_ends mw_X8_setFrame) (Pm_c mw_X9_frames (Pm_c mw_X8_narrow mw_X9_narrowed))) (Pm_c (Pm_c mw_X3_prepare mw_X2_openAll) (Pm_c mw_X3_keep (Pm_c mw_X9_resetsAll mw_X9_told)))) (Pm_c (Pm_c (Pm_c mw_X8_lowOf mw_X9_ofDoor) (Pm_c mw_X8_highOf (Pm_c mw_X8_frameLow mw_X8_frameHigh))) (Pm_c (Pm_c mw_X8_widthOf mw_X9_isDoor) (Pm_c mw_X9_isFine (Pm_c mw_X9_width mw_X8_isFixed))))) (Pm_c (Pm_c (Pm_c (Pm_c mw_X8_constraintsOf mw_X9_takesPart) (Pm_c mw_X8_addConstraint (Pm_c mw_X9_binds mw_X8_removeConstraint))) (Pm_c (Pm_c mw_X9_drops mw_X8_constraintAt) (Pm_c mw_X9_in (Pm_c mw_X9_c mw_X8_kindOf)))) (Pm_c (Pm_c (Pm_c mw_X9_ofRule mw_X8_firstOf) (Pm_c mw_X8_secondOf (Pm_c mw_X8_gapOf mw_X8_isSafe))) (Pm_c (Pm_c mw_X9_rule (Pm_c mw_X9_pairs mw_X8_isBroken)) (Pm_c mw_X8_pass (Pm_c mw_X9_passes mw_X8_settle)))))))) (Pm_c (Pm_c (Pm_c (Pm_c (Pm_c (Pm_c (Pm_c mw_X9_settlesAll mw_X8_changesOfTrialPass) (Pm_c mw_X9_would (Pm_c mw_X8_wouldChange mw_X8_lowestHeight))) (Pm_c (Pm_c mw_X9_copies mw_X9_settles) (Pm_c mw_X9_d (Pm_c mw_X8_lowestHeightByPaths mw_X6_find)))) (Pm_c (Pm_c (Pm_c mw_X9_opens mw_X9_isSolvableWith) (Pm_c mw_X8_peaceHeight (Pm_c mw_X9_makesPeace mw_X9_lowest))) (Pm_c (Pm_c mw_X8_peaceSum mw_X8_arePossible) (Pm_c mw_X8_doorByWidth (Pm_c mw_X9_isNarrower mw_X8_constraintByGap))))) (Pm_c (Pm_c (Pm_c (Pm_c mw_X0_isOneHeight mw_X0_sumOfWidths) (Pm_c mw_X8_meanWidth (Pm_c mw_X8_fixedShare mw_X8_settleTrialWithoutApart))) (Pm_c (Pm_c mw_X4_climb mw_X2_isInOrder) (Pm_c mw_X8_writeDoor (Pm_c mw_X9_writesNumber mw_X9_writes)))) (Pm_c (Pm_c (Pm_c mw_X8_writeConstraint mw_X8_outputAt) (Pm_c mw_X8_appendInput (Pm_c mw_X8_execute mw_X9_parse))) (Pm_c (Pm_c mw_X9_does (Pm_c mw_X9_kept mw_X8_syntaxErrorOffset)) (Pm_c mw_X8_rejectionReason (Pm_c mw_X8_rejectionDetail mw_X8_causeReason)))))) (Pm_c (Pm_c (Pm_c (Pm_c (Pm_c mw_X8_undo mw_X2_copyFrom) (Pm_c mw_X8_restoreSnapshot (Pm_c mw_X1_init mw_J5_init_d00df))) (Pm_c (Pm_c mw_X8_checkRange mw_X8_enterDoor) (Pm_c mw_X9_isRange (Pm_c mw_X9_rejects mw_X9_set)))) (Pm_c (Pm_c (Pm_c mw_X8_checkDoor mw_X8_changeFrame) (Pm_c mw_X9_resets (Pm_c mw_X9_unlike mw_X8_narrowDoor))) (Pm_c (Pm_c mw_X2_differencesToFrame mw_X0_copyFrom) (Pm_c mw_X0_width (Pm_c mw_X1_countWith mw_X8_isConstraint))))) (Pm_c (Pm_c (Pm_c (Pm_c mw_X8_enterConstraint mw_X9_isKind) (Pm_c mw_X8_checkedPosition (Pm_c mw_X8_takeConstraintAway mw_X2_isAlwaysMet))) (Pm_c (Pm_c mw_X9_holds mw_X2_isNeverMet) (Pm_c mw_X8_passOnce (Pm_c mw_X9_goesThrough mw_X8_passUntilSettled)))) (Pm_c (Pm_c (Pm_c mw_X5_begin mw_X5_makePass) (Pm_c mw_X6_chooseSides (Pm_c mw_X9_from mw_X9_till))) (Pm_c (Pm_c mw_X9_isSolvable (Pm_c mw_X8_isHeight mw_X0_fix)) (Pm_c mw_X2_doorAtRank (Pm_c mw_X1_positionAtRank mw_X5_makePassesToTheEnd))))))) (Pm_c (Pm_c (Pm_c (Pm_c (Pm_c (Pm_c mw_X4_climbOnce mw_X0_isEmpty) (Pm_c mw_J4_setLength_d00df (Pm_c mw_J4_append_bf812 mw_J4_append_cf468))) (Pm_c (Pm_c mw_J4_append_15ec4 mw_J4_length_8abf5) (Pm_c mw_J4_charAt_5068e (Pm_c mw_X7_read mw_X8_runCommand)))) (Pm_c (Pm_c (Pm_c mw_X3_bringBackPrepared mw_X8_reject) (Pm_c mw_X9_command (Pm_c mw_X9_sign mw_X3_bringBackLatest))) (Pm_c (Pm_c mw_X1_copyFrom mw_X8_isRange) (Pm_c mw_X0_put (Pm_c mw_X2_hasDoor mw_X1_positionOfSame))))) (Pm_c (Pm_c (Pm_c (Pm_c mw_X1_append mw_X1_positionOf) (Pm_c mw_X1_takeOut (Pm_c mw_X8_takeOverTrial mw_X9_narrows))) (Pm_c (Pm_c mw_X9_isTorn mw_X5_takeSteps) (Pm_c mw_X6_isBetter (Pm_c mw_X6_tooNear mw_X9_isOpen)))) (Pm_c (Pm_c (Pm_c mw_X9_size mw_X2_rankOf) (Pm_c mw_X1_rankOf (Pm_c mw_X4_climbAlong mw_J5_setLength_d00df))) (Pm_c (Pm_c mw_J5_append_c97b9 (Pm_c mw_J5_append_3fe6f mw_J5_append_cf1ce)) (Pm_c mw_J5_length_8abf5 (Pm_c mw_J5_charAt_5068e mw_X7_readCommand)))))) (Pm_c (Pm_c (Pm_c (Pm_c (Pm_c mw_X7_readSign mw_X9_binding) (Pm_c mw_X9_letters (Pm_c mw_X9_needs mw_X9_behind))) (Pm_c (Pm_c mw_X9_range mw_X9_parts) (Pm_c mw_X9_raises (Pm_c mw_X9_lowers mw_X5_keepOff)))) (Pm_c (Pm_c (Pm_c mw_X5_raiseLow mw_X5_sinkHigh) (Pm_c mw_X9_goesWith (Pm_c mw_X2_isAhead mw_X4_raise))) (Pm_c (Pm_c mw_J5_ensureCapacityInternal_d00df (Pm_c mw_J5_isLatin1_aae02 mw_J6_stringSize_0f7a4)) (Pm_c mw_J6_getChars_ba4f3 (Pm_c mw_J1_canEncode_fc78d mw_J0_length_8abf5))))) (Pm_c (Pm_c (Pm_c (Pm_c mw_J5_putStringAt_47b60 mw_J0_checkIndex_df160) (Pm_c mw_X7_signAt (Pm_c mw_X7_readForm mw_X9_number))) (Pm_c (Pm_c mw_X9_isFixedNow mw_X9_becomes) (Pm_c mw_X9_highest (Pm_c mw_J5_newCapacity_0f7a4 mw_J7_copyOf_9075b)))) (Pm_c (Pm_c (Pm_c mw_J0_coder_7d493 mw_J5_inflateIfNeededFor_a7421) (Pm_c mw_J0_getBytes_840e7 (Pm_c mw_J3_checkIndex_8e157 mw_J0_charAt_5068e))) (Pm_c (Pm_c mw_X7_readDigit (Pm_c mw_X7_readNumber mw_X7_readKind)) (Pm_c mw_J8_newLength_cabcc (Pm_c mw_J0_isLatin1_aae02 mw_J1_charAt_3b067)))))))))
set_option maxRecDepth 100000
theorem mp_ok : ∀ r ∈ mpT, tbg (r.2.2) = some (Jvm.Cond.initialized (mi r.1).1.cls) ∧ ((mi r.1).1.cls ≠ "java/lang/invoke/MethodHandle" ∧ (mi r.1).1.cls ≠ "java/lang/invoke/VarHandle") ∧ plainName (mi r.1).1.cls = true ∧ (mi r.1).2.2.1 ≤ 40 := by decide +kernel
theorem mp_all : ∀ k, k < 329 → 0 < k → (mpT.map (fun r => r.1)).contains k = true := by decide +kernel
theorem mi_nl : ∀ k, k < 329 → 0 < k → (mi k).1.name ≠ "law" := by decide +kernel
theorem tS_ok_0 : ∀ r ∈ tS 0, 0 < r.2.1 ∧ r.2.1 < 329 ∧ tbg (r.2.2.2.1) = some (Jvm.Cond.methodLink (cnm 0) r.1 (mi r.2.1).1) ∧ tbg (r.2.2.2.2) = some (Jvm.Cond.static (mi r.2.1).1) ∧ (parseMethodDescriptor (mi r.2.1).1.desc).map (fun d => d.parameters.length) = some r.2.2.1 := by decide +kernel
theorem tS_ok_1 : ∀ r ∈ tS 1, 0 < r.2.1 ∧ r.2.1 < 329 ∧ tbg (r.2.2.2.1) = some (Jvm.Cond.methodLink (cnm 1) r.1 (mi r.2.1).1) ∧ tbg (r.2.2.2.2) = some (Jvm.Cond.static (mi r.2.1).1) ∧ (parseMethodDescriptor (mi r.2.1).1.desc).map (fun d => d.parameters.length) = some r.2.2.1 := by decide +kernel
theorem tS_ok_2 : ∀ r ∈ tS 2, 0 < r.2.1 ∧ r.2.1 < 329 ∧ tbg (r.2.2.2.1) = some (Jvm.Cond.methodLink (cnm 2) r.1 (mi r.2.1).1) ∧ tbg (r.2.2.2.2) = some (Jvm.Cond.static (mi r.2.1).1) ∧ (parseMethodDescriptor (mi r.2.1).1.desc).map (fun d => d.parameters.length) = some r.2.2.1 := by decide +kernel
theorem tS_ok_3 : ∀ r ∈ tS 3, 0 < r.2.1 ∧ r.2.1 < 329 ∧ tbg (r.2.2.2.1) = some (Jvm.Cond.methodLink (cnm 3) r.1 (mi r.2.1).1) ∧ tbg (r.2.2.2.2) = some (Jvm.Cond.static (mi r.2.1).1) ∧ (parseMethodDescriptor (mi r.2.1).1.desc).map (fun d => d.parameters.length) = some r.2.2.1 := by decide +kernel
theorem tS_ok_4 : ∀ r ∈ tS 4, 0 < r.2.1 ∧ r.2.1 < 329 ∧ tbg (r.2.2.2.1) = some (Jvm.Cond.methodLink (cnm 4) r.1 (mi r.2.1).1) ∧ tbg (r.2.2.2.2) = some (Jvm.Cond.static (mi r.2.1).1) ∧ (parseMethodDescriptor (mi r.2.1).1.desc).map (fun d => d.parameters.length) = some r.2.2.1 := by decide +kernel
theorem tS_ok_5 : ∀ r ∈ tS 5, 0 < r.2.1 ∧ r.2.1 < 329 ∧ tbg (r.2.2.2.1) = some (Jvm.Cond.methodLink (cnm 5) r.1 (mi r.2.1).1) ∧ tbg (r.2.2.2.2) = some (Jvm.Cond.static (mi r.2.1).1) ∧ (parseMethodDescriptor (mi r.2.1).1.desc).map (fun d => d.parameters.length) = some r.2.2.1 := by decide +kernel
theorem tS_ok_6 : ∀ r ∈ tS 6, 0 < r.2.1 ∧ r.2.1 < 329 ∧ tbg (r.2.2.2.1) = some (Jvm.Cond.methodLink (cnm 6) r.1 (mi r.2.1).1) ∧ tbg (r.2.2.2.2) = some (Jvm.Cond.static (mi r.2.1).1) ∧ (parseMethodDescriptor (mi r.2.1).1.desc).map (fun d => d.parameters.length) = some r.2.2.1 := by decide +kernel
theorem tS_ok_7 : ∀ r ∈ tS 7, 0 < r.2.1 ∧ r.2.1 < 329 ∧ tbg (r.2.2.2.1) = some (Jvm.Cond.methodLink (cnm 7) r.1 (mi r.2.1).1) ∧ tbg (r.2.2.2.2) = some (Jvm.Cond.static (mi r.2.1).1) ∧ (parseMethodDescriptor (mi r.2.1).1.desc).map (fun d => d.parameters.length) = some r.2.2.1 := by decide +kernel
theorem tS_ok_8 : ∀ r ∈ tS 8, 0 < r.2.1 ∧ r.2.1 < 329 ∧ tbg (r.2.2.2.1) = some (Jvm.Cond.methodLink (cnm 8) r.1 (mi r.2.1).1) ∧ tbg (r.2.2.2.2) = some (Jvm.Cond.static (mi r.2.1).1) ∧ (parseMethodDescriptor (mi r.2.1).1.desc).map (fun d => d.parameters.length) = some r.2.2.1 := by decide +kernel
theorem tS_ok_9 : ∀ r ∈ tS 9, 0 < r.2.1 ∧ r.2.1 < 329 ∧ tbg (r.2.2.2.1) = some (Jvm.Cond.methodLink (cnm 9) r.1 (mi r.2.1).1) ∧ tbg (r.2.2.2.2) = some (Jvm.Cond.static (mi r.2.1).1) ∧ (parseMethodDescriptor (mi r.2.1).1.desc).map (fun d => d.parameters.length) = some r.2.2.1 := by decide +kernel
theorem tS_ok_10 : ∀ r ∈ tS 10, 0 < r.2.1 ∧ r.2.1 < 329 ∧ tbg (r.2.2.2.1) = some (Jvm.Cond.methodLink (cnm 10) r.1 (mi r.2.1).1) ∧ tbg (r.2.2.2.2) = some (Jvm.Cond.static (mi r.2.1).1) ∧ (parseMethodDescriptor (mi r.2.1).1.desc).map (fun d => d.parameters.length) = some r.2.2.1 := by decide +kernel
theorem tS_ok_11 : ∀ r ∈ tS 11, 0 < r.2.1 ∧ r.2.1 < 329 ∧ tbg (r.2.2.2.1) = some (Jvm.Cond.methodLink (cnm 11) r.1 (mi r.2.1).1) ∧ tbg (r.2.2.2.2) = some (Jvm.Cond.static (mi r.2.1).1) ∧ (parseMethodDescriptor (mi r.2.1).1.desc).map (fun d => d.parameters.length) = some r.2.2.1 := by decide +kernel
theorem tS_ok_12 : ∀ r ∈ tS 12, 0 < r.2.1 ∧ r.2.1 < 329 ∧ tbg (r.2.2.2.1) = some (Jvm.Cond.methodLink (cnm 12) r.1 (mi r.2.1).1) ∧ tbg (r.2.2.2.2) = some (Jvm.Cond.static (mi r.2.1).1) ∧ (parseMethodDescriptor (mi r.2.1).1.desc).map (fun d => d.parameters.length) = some r.2.2.1 := by decide +kernel
theorem tS_ok_13 : ∀ r ∈ tS 13, 0 < r.2.1 ∧ r.2.1 < 329 ∧ tbg (r.2.2.2.1) = some (Jvm.Cond.methodLink (cnm 13) r.1 (mi r.2.1).1) ∧ tbg (r.2.2.2.2) = some (Jvm.Cond.static (mi r.2.1).1) ∧ (parseMethodDescriptor (mi r.2.1).1.desc).map (fun d => d.parameters.length) = some r.2.2.1 := by decide +kernel
theorem tS_ok_14 : ∀ r ∈ tS 14, 0 < r.2.1 ∧ r.2.1 < 329 ∧ tbg (r.2.2.2.1) = some (Jvm.Cond.methodLink (cnm 14) r.1 (mi r.2.1).1) ∧ tbg (r.2.2.2.2) = some (Jvm.Cond.static (mi r.2.1).1) ∧ (parseMethodDescriptor (mi r.2.1).1.desc).map (fun d => d.parameters.length) = some r.2.2.1 := by decide +kernel
theorem tS_ok_15 : ∀ r ∈ tS 15, 0 < r.2.1 ∧ r.2.1 < 329 ∧ tbg (r.2.2.2.1) = some (Jvm.Cond.methodLink (cnm 15) r.1 (mi r.2.1).1) ∧ tbg (r.2.2.2.2) = some (Jvm.Cond.static (mi r.2.1).1) ∧ (parseMethodDescriptor (mi r.2.1).1.desc).map (fun d => d.parameters.length) = some r.2.2.1 := by decide +kernel
theorem tS_ok_16 : ∀ r ∈ tS 16, 0 < r.2.1 ∧ r.2.1 < 329 ∧ tbg (r.2.2.2.1) = some (Jvm.Cond.methodLink (cnm 16) r.1 (mi r.2.1).1) ∧ tbg (r.2.2.2.2) = some (Jvm.Cond.static (mi r.2.1).1) ∧ (parseMethodDescriptor (mi r.2.1).1.desc).map (fun d => d.parameters.length) = some r.2.2.1 := by decide +kernel
theorem tS_ok_17 : ∀ r ∈ tS 17, 0 < r.2.1 ∧ r.2.1 < 329 ∧ tbg (r.2.2.2.1) = some (Jvm.Cond.methodLink (cnm 17) r.1 (mi r.2.1).1) ∧ tbg (r.2.2.2.2) = some (Jvm.Cond.static (mi r.2.1).1) ∧ (parseMethodDescriptor (mi r.2.1).1.desc).map (fun d => d.parameters.length) = some r.2.2.1 := by decide +kernel
theorem tS_ok_18 : ∀ r ∈ tS 18, 0 < r.2.1 ∧ r.2.1 < 329 ∧ tbg (r.2.2.2.1) = some (Jvm.Cond.methodLink (cnm 18) r.1 (mi r.2.1).1) ∧ tbg (r.2.2.2.2) = some (Jvm.Cond.static (mi r.2.1).1) ∧ (parseMethodDescriptor (mi r.2.1).1.desc).map (fun d => d.parameters.length) = some r.2.2.1 := by decide +kernel
theorem tS_ok_19 : ∀ r ∈ tS 19, 0 < r.2.1 ∧ r.2.1 < 329 ∧ tbg (r.2.2.2.1) = some (Jvm.Cond.methodLink (cnm 19) r.1 (mi r.2.1).1) ∧ tbg (r.2.2.2.2) = some (Jvm.Cond.static (mi r.2.1).1) ∧ (parseMethodDescriptor (mi r.2.1).1.desc).map (fun d => d.parameters.length) = some r.2.2.1 := by decide +kernel
theorem tS_ok : ∀ own, own < 20 → ∀ r ∈ tS own, 0 < r.2.1 ∧ r.2.1 < 329 ∧ tbg (r.2.2.2.1) = some (Jvm.Cond.methodLink (cnm own) r.1 (mi r.2.1).1) ∧ tbg (r.2.2.2.2) = some (Jvm.Cond.static (mi r.2.1).1) ∧ (parseMethodDescriptor (mi r.2.1).1.desc).map (fun d => d.parameters.length) = some r.2.2.1 := by
  intro own h
  match own, h with
  | 0, _ => exact tS_ok_0
  | 1, _ => exact tS_ok_1
  | 2, _ => exact tS_ok_2
  | 3, _ => exact tS_ok_3
  | 4, _ => exact tS_ok_4
  | 5, _ => exact tS_ok_5
  | 6, _ => exact tS_ok_6
  | 7, _ => exact tS_ok_7
  | 8, _ => exact tS_ok_8
  | 9, _ => exact tS_ok_9
  | 10, _ => exact tS_ok_10
  | 11, _ => exact tS_ok_11
  | 12, _ => exact tS_ok_12
  | 13, _ => exact tS_ok_13
  | 14, _ => exact tS_ok_14
  | 15, _ => exact tS_ok_15
  | 16, _ => exact tS_ok_16
  | 17, _ => exact tS_ok_17
  | 18, _ => exact tS_ok_18
  | 19, _ => exact tS_ok_19
  | n + 20, h => exact absurd h (by omega)
theorem tV_ok_0 : ∀ r ∈ tV 0, 0 < r.2.1 ∧ r.2.1 < 329 ∧ (mi r.2.1).2.2.2.2.1 = [] ∧ tbg (r.2.2.2.2.1) = some (Jvm.Cond.methodLink (cnm 0) r.1 (mi r.2.1).1) ∧ tbg (r.2.2.2.2.2.1) = some (Jvm.Cond.instanceMethod (mi r.2.1).1) ∧ tbg (r.2.2.2.2.2.2) = some (Jvm.Cond.selects ((wcl.map (fun q => q.1)).getD r.2.2.2.1 "") (mi r.2.1).1 (mi r.2.1).1) ∧ r.2.2.2.1 < 12 ∧ (parseMethodDescriptor (mi r.2.1).1.desc).map (fun d => d.parameters.length + 1) = some r.2.2.1 := by decide +kernel
theorem tV_ok_1 : ∀ r ∈ tV 1, 0 < r.2.1 ∧ r.2.1 < 329 ∧ (mi r.2.1).2.2.2.2.1 = [] ∧ tbg (r.2.2.2.2.1) = some (Jvm.Cond.methodLink (cnm 1) r.1 (mi r.2.1).1) ∧ tbg (r.2.2.2.2.2.1) = some (Jvm.Cond.instanceMethod (mi r.2.1).1) ∧ tbg (r.2.2.2.2.2.2) = some (Jvm.Cond.selects ((wcl.map (fun q => q.1)).getD r.2.2.2.1 "") (mi r.2.1).1 (mi r.2.1).1) ∧ r.2.2.2.1 < 12 ∧ (parseMethodDescriptor (mi r.2.1).1.desc).map (fun d => d.parameters.length + 1) = some r.2.2.1 := by decide +kernel
theorem tV_ok_2 : ∀ r ∈ tV 2, 0 < r.2.1 ∧ r.2.1 < 329 ∧ (mi r.2.1).2.2.2.2.1 = [] ∧ tbg (r.2.2.2.2.1) = some (Jvm.Cond.methodLink (cnm 2) r.1 (mi r.2.1).1) ∧ tbg (r.2.2.2.2.2.1) = some (Jvm.Cond.instanceMethod (mi r.2.1).1) ∧ tbg (r.2.2.2.2.2.2) = some (Jvm.Cond.selects ((wcl.map (fun q => q.1)).getD r.2.2.2.1 "") (mi r.2.1).1 (mi r.2.1).1) ∧ r.2.2.2.1 < 12 ∧ (parseMethodDescriptor (mi r.2.1).1.desc).map (fun d => d.parameters.length + 1) = some r.2.2.1 := by decide +kernel
theorem tV_ok_3 : ∀ r ∈ tV 3, 0 < r.2.1 ∧ r.2.1 < 329 ∧ (mi r.2.1).2.2.2.2.1 = [] ∧ tbg (r.2.2.2.2.1) = some (Jvm.Cond.methodLink (cnm 3) r.1 (mi r.2.1).1) ∧ tbg (r.2.2.2.2.2.1) = some (Jvm.Cond.instanceMethod (mi r.2.1).1) ∧ tbg (r.2.2.2.2.2.2) = some (Jvm.Cond.selects ((wcl.map (fun q => q.1)).getD r.2.2.2.1 "") (mi r.2.1).1 (mi r.2.1).1) ∧ r.2.2.2.1 < 12 ∧ (parseMethodDescriptor (mi r.2.1).1.desc).map (fun d => d.parameters.length + 1) = some r.2.2.1 := by decide +kernel
theorem tV_ok_4 : ∀ r ∈ tV 4, 0 < r.2.1 ∧ r.2.1 < 329 ∧ (mi r.2.1).2.2.2.2.1 = [] ∧ tbg (r.2.2.2.2.1) = some (Jvm.Cond.methodLink (cnm 4) r.1 (mi r.2.1).1) ∧ tbg (r.2.2.2.2.2.1) = some (Jvm.Cond.instanceMethod (mi r.2.1).1) ∧ tbg (r.2.2.2.2.2.2) = some (Jvm.Cond.selects ((wcl.map (fun q => q.1)).getD r.2.2.2.1 "") (mi r.2.1).1 (mi r.2.1).1) ∧ r.2.2.2.1 < 12 ∧ (parseMethodDescriptor (mi r.2.1).1.desc).map (fun d => d.parameters.length + 1) = some r.2.2.1 := by decide +kernel
theorem tV_ok_5 : ∀ r ∈ tV 5, 0 < r.2.1 ∧ r.2.1 < 329 ∧ (mi r.2.1).2.2.2.2.1 = [] ∧ tbg (r.2.2.2.2.1) = some (Jvm.Cond.methodLink (cnm 5) r.1 (mi r.2.1).1) ∧ tbg (r.2.2.2.2.2.1) = some (Jvm.Cond.instanceMethod (mi r.2.1).1) ∧ tbg (r.2.2.2.2.2.2) = some (Jvm.Cond.selects ((wcl.map (fun q => q.1)).getD r.2.2.2.1 "") (mi r.2.1).1 (mi r.2.1).1) ∧ r.2.2.2.1 < 12 ∧ (parseMethodDescriptor (mi r.2.1).1.desc).map (fun d => d.parameters.length + 1) = some r.2.2.1 := by decide +kernel
theorem tV_ok_6 : ∀ r ∈ tV 6, 0 < r.2.1 ∧ r.2.1 < 329 ∧ (mi r.2.1).2.2.2.2.1 = [] ∧ tbg (r.2.2.2.2.1) = some (Jvm.Cond.methodLink (cnm 6) r.1 (mi r.2.1).1) ∧ tbg (r.2.2.2.2.2.1) = some (Jvm.Cond.instanceMethod (mi r.2.1).1) ∧ tbg (r.2.2.2.2.2.2) = some (Jvm.Cond.selects ((wcl.map (fun q => q.1)).getD r.2.2.2.1 "") (mi r.2.1).1 (mi r.2.1).1) ∧ r.2.2.2.1 < 12 ∧ (parseMethodDescriptor (mi r.2.1).1.desc).map (fun d => d.parameters.length + 1) = some r.2.2.1 := by decide +kernel
theorem tV_ok_7 : ∀ r ∈ tV 7, 0 < r.2.1 ∧ r.2.1 < 329 ∧ (mi r.2.1).2.2.2.2.1 = [] ∧ tbg (r.2.2.2.2.1) = some (Jvm.Cond.methodLink (cnm 7) r.1 (mi r.2.1).1) ∧ tbg (r.2.2.2.2.2.1) = some (Jvm.Cond.instanceMethod (mi r.2.1).1) ∧ tbg (r.2.2.2.2.2.2) = some (Jvm.Cond.selects ((wcl.map (fun q => q.1)).getD r.2.2.2.1 "") (mi r.2.1).1 (mi r.2.1).1) ∧ r.2.2.2.1 < 12 ∧ (parseMethodDescriptor (mi r.2.1).1.desc).map (fun d => d.parameters.length + 1) = some r.2.2.1 := by decide +kernel
theorem tV_ok_8 : ∀ r ∈ tV 8, 0 < r.2.1 ∧ r.2.1 < 329 ∧ (mi r.2.1).2.2.2.2.1 = [] ∧ tbg (r.2.2.2.2.1) = some (Jvm.Cond.methodLink (cnm 8) r.1 (mi r.2.1).1) ∧ tbg (r.2.2.2.2.2.1) = some (Jvm.Cond.instanceMethod (mi r.2.1).1) ∧ tbg (r.2.2.2.2.2.2) = some (Jvm.Cond.selects ((wcl.map (fun q => q.1)).getD r.2.2.2.1 "") (mi r.2.1).1 (mi r.2.1).1) ∧ r.2.2.2.1 < 12 ∧ (parseMethodDescriptor (mi r.2.1).1.desc).map (fun d => d.parameters.length + 1) = some r.2.2.1 := by decide +kernel
theorem tV_ok_9 : ∀ r ∈ tV 9, 0 < r.2.1 ∧ r.2.1 < 329 ∧ (mi r.2.1).2.2.2.2.1 = [] ∧ tbg (r.2.2.2.2.1) = some (Jvm.Cond.methodLink (cnm 9) r.1 (mi r.2.1).1) ∧ tbg (r.2.2.2.2.2.1) = some (Jvm.Cond.instanceMethod (mi r.2.1).1) ∧ tbg (r.2.2.2.2.2.2) = some (Jvm.Cond.selects ((wcl.map (fun q => q.1)).getD r.2.2.2.1 "") (mi r.2.1).1 (mi r.2.1).1) ∧ r.2.2.2.1 < 12 ∧ (parseMethodDescriptor (mi r.2.1).1.desc).map (fun d => d.parameters.length + 1) = some r.2.2.1 := by decide +kernel
theorem tV_ok_10 : ∀ r ∈ tV 10, 0 < r.2.1 ∧ r.2.1 < 329 ∧ (mi r.2.1).2.2.2.2.1 = [] ∧ tbg (r.2.2.2.2.1) = some (Jvm.Cond.methodLink (cnm 10) r.1 (mi r.2.1).1) ∧ tbg (r.2.2.2.2.2.1) = some (Jvm.Cond.instanceMethod (mi r.2.1).1) ∧ tbg (r.2.2.2.2.2.2) = some (Jvm.Cond.selects ((wcl.map (fun q => q.1)).getD r.2.2.2.1 "") (mi r.2.1).1 (mi r.2.1).1) ∧ r.2.2.2.1 < 12 ∧ (parseMethodDescriptor (mi r.2.1).1.desc).map (fun d => d.parameters.length + 1) = some r.2.2.1 := by decide +kernel
theorem tV_ok_11 : ∀ r ∈ tV 11, 0 < r.2.1 ∧ r.2.1 < 329 ∧ (mi r.2.1).2.2.2.2.1 = [] ∧ tbg (r.2.2.2.2.1) = some (Jvm.Cond.methodLink (cnm 11) r.1 (mi r.2.1).1) ∧ tbg (r.2.2.2.2.2.1) = some (Jvm.Cond.instanceMethod (mi r.2.1).1) ∧ tbg (r.2.2.2.2.2.2) = some (Jvm.Cond.selects ((wcl.map (fun q => q.1)).getD r.2.2.2.1 "") (mi r.2.1).1 (mi r.2.1).1) ∧ r.2.2.2.1 < 12 ∧ (parseMethodDescriptor (mi r.2.1).1.desc).map (fun d => d.parameters.length + 1) = some r.2.2.1 := by decide +kernel
theorem tV_ok_12 : ∀ r ∈ tV 12, 0 < r.2.1 ∧ r.2.1 < 329 ∧ (mi r.2.1).2.2.2.2.1 = [] ∧ tbg (r.2.2.2.2.1) = some (Jvm.Cond.methodLink (cnm 12) r.1 (mi r.2.1).1) ∧ tbg (r.2.2.2.2.2.1) = some (Jvm.Cond.instanceMethod (mi r.2.1).1) ∧ tbg (r.2.2.2.2.2.2) = some (Jvm.Cond.selects ((wcl.map (fun q => q.1)).getD r.2.2.2.1 "") (mi r.2.1).1 (mi r.2.1).1) ∧ r.2.2.2.1 < 12 ∧ (parseMethodDescriptor (mi r.2.1).1.desc).map (fun d => d.parameters.length + 1) = some r.2.2.1 := by decide +kernel
theorem tV_ok_13 : ∀ r ∈ tV 13, 0 < r.2.1 ∧ r.2.1 < 329 ∧ (mi r.2.1).2.2.2.2.1 = [] ∧ tbg (r.2.2.2.2.1) = some (Jvm.Cond.methodLink (cnm 13) r.1 (mi r.2.1).1) ∧ tbg (r.2.2.2.2.2.1) = some (Jvm.Cond.instanceMethod (mi r.2.1).1) ∧ tbg (r.2.2.2.2.2.2) = some (Jvm.Cond.selects ((wcl.map (fun q => q.1)).getD r.2.2.2.1 "") (mi r.2.1).1 (mi r.2.1).1) ∧ r.2.2.2.1 < 12 ∧ (parseMethodDescriptor (mi r.2.1).1.desc).map (fun d => d.parameters.length + 1) = some r.2.2.1 := by decide +kernel
theorem tV_ok_14 : ∀ r ∈ tV 14, 0 < r.2.1 ∧ r.2.1 < 329 ∧ (mi r.2.1).2.2.2.2.1 = [] ∧ tbg (r.2.2.2.2.1) = some (Jvm.Cond.methodLink (cnm 14) r.1 (mi r.2.1).1) ∧ tbg (r.2.2.2.2.2.1) = some (Jvm.Cond.instanceMethod (mi r.2.1).1) ∧ tbg (r.2.2.2.2.2.2) = some (Jvm.Cond.selects ((wcl.map (fun q => q.1)).getD r.2.2.2.1 "") (mi r.2.1).1 (mi r.2.1).1) ∧ r.2.2.2.1 < 12 ∧ (parseMethodDescriptor (mi r.2.1).1.desc).map (fun d => d.parameters.length + 1) = some r.2.2.1 := by decide +kernel
theorem tV_ok_15 : ∀ r ∈ tV 15, 0 < r.2.1 ∧ r.2.1 < 329 ∧ (mi r.2.1).2.2.2.2.1 = [] ∧ tbg (r.2.2.2.2.1) = some (Jvm.Cond.methodLink (cnm 15) r.1 (mi r.2.1).1) ∧ tbg (r.2.2.2.2.2.1) = some (Jvm.Cond.instanceMethod (mi r.2.1).1) ∧ tbg (r.2.2.2.2.2.2) = some (Jvm.Cond.selects ((wcl.map (fun q => q.1)).getD r.2.2.2.1 "") (mi r.2.1).1 (mi r.2.1).1) ∧ r.2.2.2.1 < 12 ∧ (parseMethodDescriptor (mi r.2.1).1.desc).map (fun d => d.parameters.length + 1) = some r.2.2.1 := by decide +kernel
theorem tV_ok_16 : ∀ r ∈ tV 16, 0 < r.2.1 ∧ r.2.1 < 329 ∧ (mi r.2.1).2.2.2.2.1 = [] ∧ tbg (r.2.2.2.2.1) = some (Jvm.Cond.methodLink (cnm 16) r.1 (mi r.2.1).1) ∧ tbg (r.2.2.2.2.2.1) = some (Jvm.Cond.instanceMethod (mi r.2.1).1) ∧ tbg (r.2.2.2.2.2.2) = some (Jvm.Cond.selects ((wcl.map (fun q => q.1)).getD r.2.2.2.1 "") (mi r.2.1).1 (mi r.2.1).1) ∧ r.2.2.2.1 < 12 ∧ (parseMethodDescriptor (mi r.2.1).1.desc).map (fun d => d.parameters.length + 1) = some r.2.2.1 := by decide +kernel
theorem tV_ok_17 : ∀ r ∈ tV 17, 0 < r.2.1 ∧ r.2.1 < 329 ∧ (mi r.2.1).2.2.2.2.1 = [] ∧ tbg (r.2.2.2.2.1) = some (Jvm.Cond.methodLink (cnm 17) r.1 (mi r.2.1).1) ∧ tbg (r.2.2.2.2.2.1) = some (Jvm.Cond.instanceMethod (mi r.2.1).1) ∧ tbg (r.2.2.2.2.2.2) = some (Jvm.Cond.selects ((wcl.map (fun q => q.1)).getD r.2.2.2.1 "") (mi r.2.1).1 (mi r.2.1).1) ∧ r.2.2.2.1 < 12 ∧ (parseMethodDescriptor (mi r.2.1).1.desc).map (fun d => d.parameters.length + 1) = some r.2.2.1 := by decide +kernel
theorem tV_ok_18 : ∀ r ∈ tV 18, 0 < r.2.1 ∧ r.2.1 < 329 ∧ (mi r.2.1).2.2.2.2.1 = [] ∧ tbg (r.2.2.2.2.1) = some (Jvm.Cond.methodLink (cnm 18) r.1 (mi r.2.1).1) ∧ tbg (r.2.2.2.2.2.1) = some (Jvm.Cond.instanceMethod (mi r.2.1).1) ∧ tbg (r.2.2.2.2.2.2) = some (Jvm.Cond.selects ((wcl.map (fun q => q.1)).getD r.2.2.2.1 "") (mi r.2.1).1 (mi r.2.1).1) ∧ r.2.2.2.1 < 12 ∧ (parseMethodDescriptor (mi r.2.1).1.desc).map (fun d => d.parameters.length + 1) = some r.2.2.1 := by decide +kernel
theorem tV_ok_19 : ∀ r ∈ tV 19, 0 < r.2.1 ∧ r.2.1 < 329 ∧ (mi r.2.1).2.2.2.2.1 = [] ∧ tbg (r.2.2.2.2.1) = some (Jvm.Cond.methodLink (cnm 19) r.1 (mi r.2.1).1) ∧ tbg (r.2.2.2.2.2.1) = some (Jvm.Cond.instanceMethod (mi r.2.1).1) ∧ tbg (r.2.2.2.2.2.2) = some (Jvm.Cond.selects ((wcl.map (fun q => q.1)).getD r.2.2.2.1 "") (mi r.2.1).1 (mi r.2.1).1) ∧ r.2.2.2.1 < 12 ∧ (parseMethodDescriptor (mi r.2.1).1.desc).map (fun d => d.parameters.length + 1) = some r.2.2.1 := by decide +kernel
theorem tV_ok : ∀ own, own < 20 → ∀ r ∈ tV own, 0 < r.2.1 ∧ r.2.1 < 329 ∧ (mi r.2.1).2.2.2.2.1 = [] ∧ tbg (r.2.2.2.2.1) = some (Jvm.Cond.methodLink (cnm own) r.1 (mi r.2.1).1) ∧ tbg (r.2.2.2.2.2.1) = some (Jvm.Cond.instanceMethod (mi r.2.1).1) ∧ tbg (r.2.2.2.2.2.2) = some (Jvm.Cond.selects ((wcl.map (fun q => q.1)).getD r.2.2.2.1 "") (mi r.2.1).1 (mi r.2.1).1) ∧ r.2.2.2.1 < 12 ∧ (parseMethodDescriptor (mi r.2.1).1.desc).map (fun d => d.parameters.length + 1) = some r.2.2.1 := by
  intro own h
  match own, h with
  | 0, _ => exact tV_ok_0
  | 1, _ => exact tV_ok_1
  | 2, _ => exact tV_ok_2
  | 3, _ => exact tV_ok_3
  | 4, _ => exact tV_ok_4
  | 5, _ => exact tV_ok_5
  | 6, _ => exact tV_ok_6
  | 7, _ => exact tV_ok_7
  | 8, _ => exact tV_ok_8
  | 9, _ => exact tV_ok_9
  | 10, _ => exact tV_ok_10
  | 11, _ => exact tV_ok_11
  | 12, _ => exact tV_ok_12
  | 13, _ => exact tV_ok_13
  | 14, _ => exact tV_ok_14
  | 15, _ => exact tV_ok_15
  | 16, _ => exact tV_ok_16
  | 17, _ => exact tV_ok_17
  | 18, _ => exact tV_ok_18
  | 19, _ => exact tV_ok_19
  | n + 20, h => exact absurd h (by omega)
theorem tI_ok : ∀ own, own < 20 → ∀ r ∈ tI own, 0 < r.2.1 ∧ r.2.1 < 329 ∧ (mi r.2.1).2.2.2.2.1 = [] ∧ (mi r.2.1).2.2.2.1 = none ∧ (mi r.2.1).1.name = "<init>" ∧ tbg (r.2.2.2.1) = some (Jvm.Cond.methodLink (cnm own) r.1 (mi r.2.1).1) ∧ tbg (r.2.2.2.2) = some (Jvm.Cond.instanceMethod (mi r.2.1).1) ∧ (parseMethodDescriptor (mi r.2.1).1.desc).map (fun d => d.parameters.length + 1) = some r.2.2.1 := by decide +kernel
theorem tN_ok : ∀ own, own < 20 → ∀ r ∈ tN own, 0 < r.2.1 ∧ r.2.1 < 329 ∧ (mi r.2.1).2.2.2.2.1 = [] ∧ (mi r.2.1).2.2.2.1 = none ∧ (mi r.2.1).1.name = "<init>" ∧ tbg (r.2.2.2.1) = some (Jvm.Cond.methodLinkNest (cnm own) r.1 (mi r.2.1).1 "LintelBrothers") ∧ tbg (r.2.2.2.2) = some (Jvm.Cond.instanceMethod (mi r.2.1).1) ∧ (parseMethodDescriptor (mi r.2.1).1.desc).map (fun d => d.parameters.length + 1) = some r.2.2.1 := by decide +kernel
theorem tU_ok : ∀ own, own < 20 → ∀ r ∈ tU own, 0 < r.2.1 ∧ r.2.1 < 329 ∧ (mi r.2.1).2.2.2.2.1 = [] ∧ (mi r.2.1).1.name ≠ "<init>" ∧ tbg (r.2.2.2.2.1) = some (Jvm.Cond.methodLink (cnm own) r.1 (mi r.2.1).1) ∧ tbg (r.2.2.2.2.2.1) = some (Jvm.Cond.instanceMethod (mi r.2.1).1) ∧ tbg (r.2.2.2.2.2.2.1) = some (Jvm.Cond.sameMethod (mi r.2.1).1.cls (mi r.2.1).1.cls (mi r.2.1).1.name (mi r.2.1).1.desc) ∧ tbg (r.2.2.2.2.2.2.2) = some (Jvm.Cond.superclass (cnm own) (mi r.2.1).1.cls) ∧ r.2.2.2.1 < 12 ∧ (parseMethodDescriptor (mi r.2.1).1.desc).map (fun d => d.parameters.length + 1) = some r.2.2.1 := by decide +kernel
theorem tO_ok : ∀ own, own < 20 → ∀ r ∈ tO own, tbg (r.2) = some (Jvm.Cond.methodLink (cnm own) r.1 Lib.objectInit) := by decide +kernel
theorem tO_w : tbg (1040) = some (Jvm.Cond.instanceMethod Lib.objectInit) ∧ tbg (1041) = some (Jvm.Cond.code Lib.objectInit ⟨#[0xb1]⟩ 1 none) := by decide +kernel
theorem tC_ok : ∀ own, own < 20 → ∀ r ∈ tC own, tbg (r.2) = some (Jvm.Cond.methodLink (cnm own) r.1 arraycopyName) := by decide +kernel
theorem tC_w : tbg (2115) = some (Jvm.Cond.native arraycopyName) ∧ tbg (2114) = some (Jvm.Cond.static arraycopyName) ∧ tbg (1019) = some (Jvm.Cond.initialized "java/lang/System") := by decide +kernel
theorem tM3_ok : ∀ own, own < 20 → ∀ r ∈ tM3 own, tbg (r.2) = some (Jvm.Cond.methodLink (cnm own) r.1 Lib.Math.max.name) := by decide +kernel
theorem tM3_w : tbg (3223) = some (Jvm.Cond.static Lib.Math.max.name) ∧ tbg (1021) = some (Jvm.Cond.initialized "java/lang/Math") ∧ tbg (3224) = some (Jvm.Cond.code Lib.Math.max.name Lib.Math.max.code 2 (some .int)) := by decide +kernel
theorem tM4_ok : ∀ own, own < 20 → ∀ r ∈ tM4 own, tbg (r.2) = some (Jvm.Cond.methodLink (cnm own) r.1 Lib.Math.min.name) := by decide +kernel
theorem tM4_w : tbg (2134) = some (Jvm.Cond.static Lib.Math.min.name) ∧ tbg (1021) = some (Jvm.Cond.initialized "java/lang/Math") ∧ tbg (2135) = some (Jvm.Cond.code Lib.Math.min.name Lib.Math.min.code 2 (some .int)) := by decide +kernel
theorem tM5_ok : ∀ own, own < 20 → ∀ r ∈ tM5 own, tbg (r.2) = some (Jvm.Cond.methodLink (cnm own) r.1 Lib.Math.abs.name) := by decide +kernel
theorem tM5_w : tbg (2226) = some (Jvm.Cond.static Lib.Math.abs.name) ∧ tbg (1021) = some (Jvm.Cond.initialized "java/lang/Math") ∧ tbg (2227) = some (Jvm.Cond.code Lib.Math.abs.name Lib.Math.abs.code 1 (some .int)) := by decide +kernel
theorem tF_ok_0 : ∀ r ∈ tF 0, ∃ q ∈ wcl[r.2.1]?, r.2.2.1 < q.2.2 ∧ tbg (r.2.2.2) = some (Jvm.Cond.fieldLink (cnm 0) r.1 (q.2.1 r.2.2.1).1 (q.2.1 r.2.2.1).2.1 (q.2.1 r.2.2.1).2.2.1) := by decide +kernel
theorem tF_ok_1 : ∀ r ∈ tF 1, ∃ q ∈ wcl[r.2.1]?, r.2.2.1 < q.2.2 ∧ tbg (r.2.2.2) = some (Jvm.Cond.fieldLink (cnm 1) r.1 (q.2.1 r.2.2.1).1 (q.2.1 r.2.2.1).2.1 (q.2.1 r.2.2.1).2.2.1) := by decide +kernel
theorem tF_ok_2 : ∀ r ∈ tF 2, ∃ q ∈ wcl[r.2.1]?, r.2.2.1 < q.2.2 ∧ tbg (r.2.2.2) = some (Jvm.Cond.fieldLink (cnm 2) r.1 (q.2.1 r.2.2.1).1 (q.2.1 r.2.2.1).2.1 (q.2.1 r.2.2.1).2.2.1) := by decide +kernel
theorem tF_ok_3 : ∀ r ∈ tF 3, ∃ q ∈ wcl[r.2.1]?, r.2.2.1 < q.2.2 ∧ tbg (r.2.2.2) = some (Jvm.Cond.fieldLink (cnm 3) r.1 (q.2.1 r.2.2.1).1 (q.2.1 r.2.2.1).2.1 (q.2.1 r.2.2.1).2.2.1) := by decide +kernel
theorem tF_ok_4 : ∀ r ∈ tF 4, ∃ q ∈ wcl[r.2.1]?, r.2.2.1 < q.2.2 ∧ tbg (r.2.2.2) = some (Jvm.Cond.fieldLink (cnm 4) r.1 (q.2.1 r.2.2.1).1 (q.2.1 r.2.2.1).2.1 (q.2.1 r.2.2.1).2.2.1) := by decide +kernel
theorem tF_ok_5 : ∀ r ∈ tF 5, ∃ q ∈ wcl[r.2.1]?, r.2.2.1 < q.2.2 ∧ tbg (r.2.2.2) = some (Jvm.Cond.fieldLink (cnm 5) r.1 (q.2.1 r.2.2.1).1 (q.2.1 r.2.2.1).2.1 (q.2.1 r.2.2.1).2.2.1) := by decide +kernel
theorem tF_ok_6 : ∀ r ∈ tF 6, ∃ q ∈ wcl[r.2.1]?, r.2.2.1 < q.2.2 ∧ tbg (r.2.2.2) = some (Jvm.Cond.fieldLink (cnm 6) r.1 (q.2.1 r.2.2.1).1 (q.2.1 r.2.2.1).2.1 (q.2.1 r.2.2.1).2.2.1) := by decide +kernel
theorem tF_ok_7 : ∀ r ∈ tF 7, ∃ q ∈ wcl[r.2.1]?, r.2.2.1 < q.2.2 ∧ tbg (r.2.2.2) = some (Jvm.Cond.fieldLink (cnm 7) r.1 (q.2.1 r.2.2.1).1 (q.2.1 r.2.2.1).2.1 (q.2.1 r.2.2.1).2.2.1) := by decide +kernel
theorem tF_ok_8 : ∀ r ∈ tF 8, ∃ q ∈ wcl[r.2.1]?, r.2.2.1 < q.2.2 ∧ tbg (r.2.2.2) = some (Jvm.Cond.fieldLink (cnm 8) r.1 (q.2.1 r.2.2.1).1 (q.2.1 r.2.2.1).2.1 (q.2.1 r.2.2.1).2.2.1) := by decide +kernel
theorem tF_ok_9 : ∀ r ∈ tF 9, ∃ q ∈ wcl[r.2.1]?, r.2.2.1 < q.2.2 ∧ tbg (r.2.2.2) = some (Jvm.Cond.fieldLink (cnm 9) r.1 (q.2.1 r.2.2.1).1 (q.2.1 r.2.2.1).2.1 (q.2.1 r.2.2.1).2.2.1) := by decide +kernel
theorem tF_ok_10 : ∀ r ∈ tF 10, ∃ q ∈ wcl[r.2.1]?, r.2.2.1 < q.2.2 ∧ tbg (r.2.2.2) = some (Jvm.Cond.fieldLink (cnm 10) r.1 (q.2.1 r.2.2.1).1 (q.2.1 r.2.2.1).2.1 (q.2.1 r.2.2.1).2.2.1) := by decide +kernel
theorem tF_ok_11 : ∀ r ∈ tF 11, ∃ q ∈ wcl[r.2.1]?, r.2.2.1 < q.2.2 ∧ tbg (r.2.2.2) = some (Jvm.Cond.fieldLink (cnm 11) r.1 (q.2.1 r.2.2.1).1 (q.2.1 r.2.2.1).2.1 (q.2.1 r.2.2.1).2.2.1) := by decide +kernel
theorem tF_ok_12 : ∀ r ∈ tF 12, ∃ q ∈ wcl[r.2.1]?, r.2.2.1 < q.2.2 ∧ tbg (r.2.2.2) = some (Jvm.Cond.fieldLink (cnm 12) r.1 (q.2.1 r.2.2.1).1 (q.2.1 r.2.2.1).2.1 (q.2.1 r.2.2.1).2.2.1) := by decide +kernel
theorem tF_ok_13 : ∀ r ∈ tF 13, ∃ q ∈ wcl[r.2.1]?, r.2.2.1 < q.2.2 ∧ tbg (r.2.2.2) = some (Jvm.Cond.fieldLink (cnm 13) r.1 (q.2.1 r.2.2.1).1 (q.2.1 r.2.2.1).2.1 (q.2.1 r.2.2.1).2.2.1) := by decide +kernel
theorem tF_ok_14 : ∀ r ∈ tF 14, ∃ q ∈ wcl[r.2.1]?, r.2.2.1 < q.2.2 ∧ tbg (r.2.2.2) = some (Jvm.Cond.fieldLink (cnm 14) r.1 (q.2.1 r.2.2.1).1 (q.2.1 r.2.2.1).2.1 (q.2.1 r.2.2.1).2.2.1) := by decide +kernel
theorem tF_ok_15 : ∀ r ∈ tF 15, ∃ q ∈ wcl[r.2.1]?, r.2.2.1 < q.2.2 ∧ tbg (r.2.2.2) = some (Jvm.Cond.fieldLink (cnm 15) r.1 (q.2.1 r.2.2.1).1 (q.2.1 r.2.2.1).2.1 (q.2.1 r.2.2.1).2.2.1) := by decide +kernel
theorem tF_ok_16 : ∀ r ∈ tF 16, ∃ q ∈ wcl[r.2.1]?, r.2.2.1 < q.2.2 ∧ tbg (r.2.2.2) = some (Jvm.Cond.fieldLink (cnm 16) r.1 (q.2.1 r.2.2.1).1 (q.2.1 r.2.2.1).2.1 (q.2.1 r.2.2.1).2.2.1) := by decide +kernel
theorem tF_ok_17 : ∀ r ∈ tF 17, ∃ q ∈ wcl[r.2.1]?, r.2.2.1 < q.2.2 ∧ tbg (r.2.2.2) = some (Jvm.Cond.fieldLink (cnm 17) r.1 (q.2.1 r.2.2.1).1 (q.2.1 r.2.2.1).2.1 (q.2.1 r.2.2.1).2.2.1) := by decide +kernel
theorem tF_ok_18 : ∀ r ∈ tF 18, ∃ q ∈ wcl[r.2.1]?, r.2.2.1 < q.2.2 ∧ tbg (r.2.2.2) = some (Jvm.Cond.fieldLink (cnm 18) r.1 (q.2.1 r.2.2.1).1 (q.2.1 r.2.2.1).2.1 (q.2.1 r.2.2.1).2.2.1) := by decide +kernel
theorem tF_ok_19 : ∀ r ∈ tF 19, ∃ q ∈ wcl[r.2.1]?, r.2.2.1 < q.2.2 ∧ tbg (r.2.2.2) = some (Jvm.Cond.fieldLink (cnm 19) r.1 (q.2.1 r.2.2.1).1 (q.2.1 r.2.2.1).2.1 (q.2.1 r.2.2.1).2.2.1) := by decide +kernel
theorem tF_ok : ∀ own, own < 20 → ∀ r ∈ tF own, ∃ q ∈ wcl[r.2.1]?, r.2.2.1 < q.2.2 ∧ tbg (r.2.2.2) = some (Jvm.Cond.fieldLink (cnm own) r.1 (q.2.1 r.2.2.1).1 (q.2.1 r.2.2.1).2.1 (q.2.1 r.2.2.1).2.2.1) := by
  intro own h
  match own, h with
  | 0, _ => exact tF_ok_0
  | 1, _ => exact tF_ok_1
  | 2, _ => exact tF_ok_2
  | 3, _ => exact tF_ok_3
  | 4, _ => exact tF_ok_4
  | 5, _ => exact tF_ok_5
  | 6, _ => exact tF_ok_6
  | 7, _ => exact tF_ok_7
  | 8, _ => exact tF_ok_8
  | 9, _ => exact tF_ok_9
  | 10, _ => exact tF_ok_10
  | 11, _ => exact tF_ok_11
  | 12, _ => exact tF_ok_12
  | 13, _ => exact tF_ok_13
  | 14, _ => exact tF_ok_14
  | 15, _ => exact tF_ok_15
  | 16, _ => exact tF_ok_16
  | 17, _ => exact tF_ok_17
  | 18, _ => exact tF_ok_18
  | 19, _ => exact tF_ok_19
  | n + 20, h => exact absurd h (by omega)
theorem tW_ok : ∀ own, own < 20 → ∀ r ∈ tW own, ∃ q ∈ wcl[r.2.1]?, r.2.2.1 = q.2.2 ∧ tbg (r.2.2.2.1) = some (Jvm.Cond.classLink (cnm own) r.1 q.1) ∧ tbg (r.2.2.2.2.1) = some (Jvm.Cond.instantiable q.1 q.2.2) ∧ tbg (r.2.2.2.2.2) = some (Jvm.Cond.initialized q.1) := by decide +kernel
theorem tA_ok : ∀ own, own < 20 → ∀ r ∈ tA own, tbg (r.2) = some (Jvm.Cond.classLink (cnm own) r.1 "LintelBrothers$Data") := by decide +kernel
theorem tMA_ok : ∀ own, own < 20 → ∀ r ∈ tMA own, tbg (r.2) = some (Jvm.Cond.classLink (cnm own) r.1 "[[I") := by decide +kernel
theorem ao_w : tbg (1157) = some (Jvm.Cond.arrayOver (.object "LintelBrothers$Data")) ∧ tbg (2028) = some (Jvm.Cond.arrayOver (.array .int)) := by decide +kernel
theorem tKI_ok : ∀ own, own < 20 → ∀ r ∈ tKI own, tbg (r.2.2) = some (Jvm.Cond.constant (cnm own) r.1 r.2.1) := by decide +kernel
theorem tKL_ok : ∀ own, own < 20 → ∀ r ∈ tKL own, tbg (r.2.2) = some (Jvm.Cond.constantLong (cnm own) r.1 (Int64.ofInt r.2.1)) := by decide +kernel
theorem tGS_ok : ∀ own, own < 20 → ∀ r ∈ tGS own, tbg (r.2.2) = some (match r.2.1 with | 0 => Jvm.Cond.fieldLink (cnm own) r.1 "java/lang/String" "COMPACT_STRINGS" "Z" | 1 => Jvm.Cond.fieldLink (cnm own) r.1 "java/lang/Integer" "DigitTens" "[B" | 2 => Jvm.Cond.fieldLink (cnm own) r.1 "java/lang/Integer" "DigitOnes" "[B" | _ => Jvm.Cond.fieldLink (cnm own) r.1 "jdk/internal/util/Preconditions" "SIOOBE_FORMATTER" "Ljava/util/function/BiFunction;") := by decide +kernel
