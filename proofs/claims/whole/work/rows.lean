section
-- ===== PART A: goes FIRST, ahead of the names: the tables' words, and 'selects' of the private methods out of them =====
/-- a private method of a class that the tables say can be made, by its rows of tables_1 -/
def lw_okq (q : MethodName × Nat) : Prop := (q.1.cls ≠ "java/lang/invoke/MethodHandle" ∧ q.1.cls ≠ "java/lang/invoke/VarHandle") ∧ Cond.instantiable q.1.cls q.2 ∈ tables_1 ∧ Cond.privateMethod q.1 ∈ tables_1 ∧ Cond.instanceMethod q.1 ∈ tables_1
theorem lw_p0 : lw_okq (⟨"LintelBrothers", "changesOfTrialPass", "()I"⟩, 14) := ⟨⟨by decide +kernel, by decide +kernel⟩, List.mem_of_getElem? (i := 35) (by decide +kernel), List.mem_of_getElem? (i := 389) (by decide +kernel), List.mem_of_getElem? (i := 390) (by decide +kernel)⟩
theorem lw_p1 : lw_okq (⟨"LintelBrothers$Narrowing", "takeSteps", "(LLintelBrothers$Constraints;ILLintelBrothers$Bounds;)V"⟩, 3) := ⟨⟨by decide +kernel, by decide +kernel⟩, List.mem_of_getElem? (i := 173) (by decide +kernel), List.mem_of_getElem? (i := 402) (by decide +kernel), List.mem_of_getElem? (i := 403) (by decide +kernel)⟩
theorem lw_p2 : lw_okq (⟨"LintelBrothers$Narrowing", "keepOff", "(LLintelBrothers$Bounds;III)V"⟩, 3) := ⟨⟨by decide +kernel, by decide +kernel⟩, List.mem_of_getElem? (i := 173) (by decide +kernel), List.mem_of_getElem? (i := 406) (by decide +kernel), List.mem_of_getElem? (i := 407) (by decide +kernel)⟩
theorem lw_p3 : lw_okq (⟨"LintelBrothers$Narrowing", "raiseLow", "(LLintelBrothers$Bounds;II)V"⟩, 3) := ⟨⟨by decide +kernel, by decide +kernel⟩, List.mem_of_getElem? (i := 173) (by decide +kernel), List.mem_of_getElem? (i := 410) (by decide +kernel), List.mem_of_getElem? (i := 411) (by decide +kernel)⟩
theorem lw_p4 : lw_okq (⟨"LintelBrothers$Narrowing", "sinkHigh", "(LLintelBrothers$Bounds;II)V"⟩, 3) := ⟨⟨by decide +kernel, by decide +kernel⟩, List.mem_of_getElem? (i := 173) (by decide +kernel), List.mem_of_getElem? (i := 414) (by decide +kernel), List.mem_of_getElem? (i := 415) (by decide +kernel)⟩
theorem lw_p5 : lw_okq (⟨"LintelBrothers$LongestPaths", "climbOnce", "(LLintelBrothers$Constraints;)Z"⟩, 2) := ⟨⟨by decide +kernel, by decide +kernel⟩, List.mem_of_getElem? (i := 192) (by decide +kernel), List.mem_of_getElem? (i := 446) (by decide +kernel), List.mem_of_getElem? (i := 447) (by decide +kernel)⟩
theorem lw_p6 : lw_okq (⟨"LintelBrothers$LongestPaths", "climbAlong", "(LLintelBrothers$Constraints;I)Z"⟩, 2) := ⟨⟨by decide +kernel, by decide +kernel⟩, List.mem_of_getElem? (i := 192) (by decide +kernel), List.mem_of_getElem? (i := 450) (by decide +kernel), List.mem_of_getElem? (i := 451) (by decide +kernel)⟩
theorem lw_p7 : lw_okq (⟨"LintelBrothers$LongestPaths", "raise", "(II)Z"⟩, 2) := ⟨⟨by decide +kernel, by decide +kernel⟩, List.mem_of_getElem? (i := 192) (by decide +kernel), List.mem_of_getElem? (i := 454) (by decide +kernel), List.mem_of_getElem? (i := 455) (by decide +kernel)⟩
theorem lw_p8 : lw_okq (⟨"LintelBrothers$PeaceSearch", "isBetter", "(I)Z"⟩, 3) := ⟨⟨by decide +kernel, by decide +kernel⟩, List.mem_of_getElem? (i := 208) (by decide +kernel), List.mem_of_getElem? (i := 458) (by decide +kernel), List.mem_of_getElem? (i := 459) (by decide +kernel)⟩
theorem lw_p9 : lw_okq (⟨"LintelBrothers$PeaceSearch", "tooNear", "(LLintelBrothers$Constraints;)I"⟩, 3) := ⟨⟨by decide +kernel, by decide +kernel⟩, List.mem_of_getElem? (i := 208) (by decide +kernel), List.mem_of_getElem? (i := 462) (by decide +kernel), List.mem_of_getElem? (i := 463) (by decide +kernel)⟩
theorem lw_p10 : lw_okq (⟨"LintelBrothers", "settleTrialWithoutApart", "()Z"⟩, 14) := ⟨⟨by decide +kernel, by decide +kernel⟩, List.mem_of_getElem? (i := 35) (by decide +kernel), List.mem_of_getElem? (i := 498) (by decide +kernel), List.mem_of_getElem? (i := 499) (by decide +kernel)⟩
theorem lw_p11 : lw_okq (⟨"java/lang/Throwable", "fillInStackTrace", "(I)Ljava/lang/Throwable;"⟩, 6) := ⟨⟨by decide +kernel, by decide +kernel⟩, List.mem_of_getElem? (i := 579) (by decide +kernel), List.mem_of_getElem? (i := 577) (by decide +kernel), List.mem_of_getElem? (i := 578) (by decide +kernel)⟩
theorem lw_p12 : lw_okq (⟨"LintelBrothers", "enterDoor", "(II)I"⟩, 14) := ⟨⟨by decide +kernel, by decide +kernel⟩, List.mem_of_getElem? (i := 35) (by decide +kernel), List.mem_of_getElem? (i := 608) (by decide +kernel), List.mem_of_getElem? (i := 609) (by decide +kernel)⟩
theorem lw_p13 : lw_okq (⟨"LintelBrothers", "reject", "(II)I"⟩, 14) := ⟨⟨by decide +kernel, by decide +kernel⟩, List.mem_of_getElem? (i := 35) (by decide +kernel), List.mem_of_getElem? (i := 612) (by decide +kernel), List.mem_of_getElem? (i := 613) (by decide +kernel)⟩
theorem lw_p14 : lw_okq (⟨"LintelBrothers", "checkDoor", "(I)V"⟩, 14) := ⟨⟨by decide +kernel, by decide +kernel⟩, List.mem_of_getElem? (i := 35) (by decide +kernel), List.mem_of_getElem? (i := 667) (by decide +kernel), List.mem_of_getElem? (i := 668) (by decide +kernel)⟩
theorem lw_p15 : lw_okq (⟨"LintelBrothers", "changeFrame", "(III)I"⟩, 14) := ⟨⟨by decide +kernel, by decide +kernel⟩, List.mem_of_getElem? (i := 35) (by decide +kernel), List.mem_of_getElem? (i := 688) (by decide +kernel), List.mem_of_getElem? (i := 689) (by decide +kernel)⟩
def lw_privs_1 : List (MethodName × Nat) := [(⟨"LintelBrothers", "changesOfTrialPass", "()I"⟩, 14), (⟨"LintelBrothers$Narrowing", "takeSteps", "(LLintelBrothers$Constraints;ILLintelBrothers$Bounds;)V"⟩, 3), (⟨"LintelBrothers$Narrowing", "keepOff", "(LLintelBrothers$Bounds;III)V"⟩, 3), (⟨"LintelBrothers$Narrowing", "raiseLow", "(LLintelBrothers$Bounds;II)V"⟩, 3), (⟨"LintelBrothers$Narrowing", "sinkHigh", "(LLintelBrothers$Bounds;II)V"⟩, 3), (⟨"LintelBrothers$LongestPaths", "climbOnce", "(LLintelBrothers$Constraints;)Z"⟩, 2), (⟨"LintelBrothers$LongestPaths", "climbAlong", "(LLintelBrothers$Constraints;I)Z"⟩, 2), (⟨"LintelBrothers$LongestPaths", "raise", "(II)Z"⟩, 2), (⟨"LintelBrothers$PeaceSearch", "isBetter", "(I)Z"⟩, 3), (⟨"LintelBrothers$PeaceSearch", "tooNear", "(LLintelBrothers$Constraints;)I"⟩, 3), (⟨"LintelBrothers", "settleTrialWithoutApart", "()Z"⟩, 14), (⟨"java/lang/Throwable", "fillInStackTrace", "(I)Ljava/lang/Throwable;"⟩, 6), (⟨"LintelBrothers", "enterDoor", "(II)I"⟩, 14), (⟨"LintelBrothers", "reject", "(II)I"⟩, 14), (⟨"LintelBrothers", "checkDoor", "(I)V"⟩, 14), (⟨"LintelBrothers", "changeFrame", "(III)I"⟩, 14)]
theorem lw_r1 : ∀ q ∈ lw_privs_1, lw_okq q := List.forall_mem_cons.mpr ⟨lw_p0, List.forall_mem_cons.mpr ⟨lw_p1, List.forall_mem_cons.mpr ⟨lw_p2, List.forall_mem_cons.mpr ⟨lw_p3, List.forall_mem_cons.mpr ⟨lw_p4, List.forall_mem_cons.mpr ⟨lw_p5, List.forall_mem_cons.mpr ⟨lw_p6, List.forall_mem_cons.mpr ⟨lw_p7, List.forall_mem_cons.mpr ⟨lw_p8, List.forall_mem_cons.mpr ⟨lw_p9, List.forall_mem_cons.mpr ⟨lw_p10, List.forall_mem_cons.mpr ⟨lw_p11, List.forall_mem_cons.mpr ⟨lw_p12, List.forall_mem_cons.mpr ⟨lw_p13, List.forall_mem_cons.mpr ⟨lw_p14, List.forall_mem_cons.mpr ⟨lw_p15, fun _ h => absurd h List.not_mem_nil⟩⟩⟩⟩⟩⟩⟩⟩⟩⟩⟩⟩⟩⟩⟩⟩
theorem lw_p16 : lw_okq (⟨"LintelBrothers", "narrowDoor", "(III)I"⟩, 14) := ⟨⟨by decide +kernel, by decide +kernel⟩, List.mem_of_getElem? (i := 35) (by decide +kernel), List.mem_of_getElem? (i := 699) (by decide +kernel), List.mem_of_getElem? (i := 700) (by decide +kernel)⟩
theorem lw_p17 : lw_okq (⟨"LintelBrothers", "enterConstraint", "(CIII)I"⟩, 14) := ⟨⟨by decide +kernel, by decide +kernel⟩, List.mem_of_getElem? (i := 35) (by decide +kernel), List.mem_of_getElem? (i := 773) (by decide +kernel), List.mem_of_getElem? (i := 774) (by decide +kernel)⟩
theorem lw_p18 : lw_okq (⟨"LintelBrothers", "checkedPosition", "(I)I"⟩, 14) := ⟨⟨by decide +kernel, by decide +kernel⟩, List.mem_of_getElem? (i := 35) (by decide +kernel), List.mem_of_getElem? (i := 794) (by decide +kernel), List.mem_of_getElem? (i := 795) (by decide +kernel)⟩
theorem lw_p19 : lw_okq (⟨"LintelBrothers", "takeConstraintAway", "(I)I"⟩, 14) := ⟨⟨by decide +kernel, by decide +kernel⟩, List.mem_of_getElem? (i := 35) (by decide +kernel), List.mem_of_getElem? (i := 818) (by decide +kernel), List.mem_of_getElem? (i := 819) (by decide +kernel)⟩
theorem lw_p20 : lw_okq (⟨"LintelBrothers", "passOnce", "()I"⟩, 14) := ⟨⟨by decide +kernel, by decide +kernel⟩, List.mem_of_getElem? (i := 35) (by decide +kernel), List.mem_of_getElem? (i := 891) (by decide +kernel), List.mem_of_getElem? (i := 892) (by decide +kernel)⟩
theorem lw_p21 : lw_okq (⟨"LintelBrothers", "takeOverTrial", "()V"⟩, 14) := ⟨⟨by decide +kernel, by decide +kernel⟩, List.mem_of_getElem? (i := 35) (by decide +kernel), List.mem_of_getElem? (i := 895) (by decide +kernel), List.mem_of_getElem? (i := 896) (by decide +kernel)⟩
theorem lw_p22 : lw_okq (⟨"LintelBrothers", "passUntilSettled", "()I"⟩, 14) := ⟨⟨by decide +kernel, by decide +kernel⟩, List.mem_of_getElem? (i := 35) (by decide +kernel), List.mem_of_getElem? (i := 907) (by decide +kernel), List.mem_of_getElem? (i := 908) (by decide +kernel)⟩
theorem lw_p23 : lw_okq (⟨"LintelBrothers$Data", "rankOf", "(I)I"⟩, 6) := ⟨⟨by decide +kernel, by decide +kernel⟩, List.mem_of_getElem? (i := 43) (by decide +kernel), List.mem_of_getElem? (i := 974) (by decide +kernel), List.mem_of_getElem? (i := 975) (by decide +kernel)⟩
theorem lw_p24 : lw_okq (⟨"LintelBrothers$Data", "isAhead", "(II)Z"⟩, 6) := ⟨⟨by decide +kernel, by decide +kernel⟩, List.mem_of_getElem? (i := 43) (by decide +kernel), List.mem_of_getElem? (i := 978) (by decide +kernel), List.mem_of_getElem? (i := 979) (by decide +kernel)⟩
theorem lw_p25 : lw_okq (⟨"LintelBrothers$Constraints", "rankOf", "(I)I"⟩, 7) := ⟨⟨by decide +kernel, by decide +kernel⟩, List.mem_of_getElem? (i := 71) (by decide +kernel), List.mem_of_getElem? (i := 995) (by decide +kernel), List.mem_of_getElem? (i := 996) (by decide +kernel)⟩
theorem lw_p26 : lw_okq (⟨"LintelBrothers$Script", "readCommand", "(I)Z"⟩, 6) := ⟨⟨by decide +kernel, by decide +kernel⟩, List.mem_of_getElem? (i := 260) (by decide +kernel), List.mem_of_getElem? (i := 1378) (by decide +kernel), List.mem_of_getElem? (i := 1379) (by decide +kernel)⟩
theorem lw_p27 : lw_okq (⟨"LintelBrothers$Script", "signAt", "(I)C"⟩, 6) := ⟨⟨by decide +kernel, by decide +kernel⟩, List.mem_of_getElem? (i := 260) (by decide +kernel), List.mem_of_getElem? (i := 1382) (by decide +kernel), List.mem_of_getElem? (i := 1383) (by decide +kernel)⟩
theorem lw_p28 : lw_okq (⟨"LintelBrothers$Script", "readForm", "(IILjava/lang/String;)Z"⟩, 6) := ⟨⟨by decide +kernel, by decide +kernel⟩, List.mem_of_getElem? (i := 260) (by decide +kernel), List.mem_of_getElem? (i := 1389) (by decide +kernel), List.mem_of_getElem? (i := 1390) (by decide +kernel)⟩
theorem lw_p29 : lw_okq (⟨"LintelBrothers$Script", "readDigit", "()I"⟩, 6) := ⟨⟨by decide +kernel, by decide +kernel⟩, List.mem_of_getElem? (i := 260) (by decide +kernel), List.mem_of_getElem? (i := 1409) (by decide +kernel), List.mem_of_getElem? (i := 1410) (by decide +kernel)⟩
theorem lw_p30 : lw_okq (⟨"LintelBrothers$Script", "readNumber", "()I"⟩, 6) := ⟨⟨by decide +kernel, by decide +kernel⟩, List.mem_of_getElem? (i := 260) (by decide +kernel), List.mem_of_getElem? (i := 1413) (by decide +kernel), List.mem_of_getElem? (i := 1414) (by decide +kernel)⟩
theorem lw_p31 : lw_okq (⟨"LintelBrothers$Script", "readKind", "(I)Z"⟩, 6) := ⟨⟨by decide +kernel, by decide +kernel⟩, List.mem_of_getElem? (i := 260) (by decide +kernel), List.mem_of_getElem? (i := 1417) (by decide +kernel), List.mem_of_getElem? (i := 1418) (by decide +kernel)⟩
def lw_privs_2 : List (MethodName × Nat) := [(⟨"LintelBrothers", "narrowDoor", "(III)I"⟩, 14), (⟨"LintelBrothers", "enterConstraint", "(CIII)I"⟩, 14), (⟨"LintelBrothers", "checkedPosition", "(I)I"⟩, 14), (⟨"LintelBrothers", "takeConstraintAway", "(I)I"⟩, 14), (⟨"LintelBrothers", "passOnce", "()I"⟩, 14), (⟨"LintelBrothers", "takeOverTrial", "()V"⟩, 14), (⟨"LintelBrothers", "passUntilSettled", "()I"⟩, 14), (⟨"LintelBrothers$Data", "rankOf", "(I)I"⟩, 6), (⟨"LintelBrothers$Data", "isAhead", "(II)Z"⟩, 6), (⟨"LintelBrothers$Constraints", "rankOf", "(I)I"⟩, 7), (⟨"LintelBrothers$Script", "readCommand", "(I)Z"⟩, 6), (⟨"LintelBrothers$Script", "signAt", "(I)C"⟩, 6), (⟨"LintelBrothers$Script", "readForm", "(IILjava/lang/String;)Z"⟩, 6), (⟨"LintelBrothers$Script", "readDigit", "()I"⟩, 6), (⟨"LintelBrothers$Script", "readNumber", "()I"⟩, 6), (⟨"LintelBrothers$Script", "readKind", "(I)Z"⟩, 6)]
theorem lw_r2 : ∀ q ∈ lw_privs_2, lw_okq q := List.forall_mem_cons.mpr ⟨lw_p16, List.forall_mem_cons.mpr ⟨lw_p17, List.forall_mem_cons.mpr ⟨lw_p18, List.forall_mem_cons.mpr ⟨lw_p19, List.forall_mem_cons.mpr ⟨lw_p20, List.forall_mem_cons.mpr ⟨lw_p21, List.forall_mem_cons.mpr ⟨lw_p22, List.forall_mem_cons.mpr ⟨lw_p23, List.forall_mem_cons.mpr ⟨lw_p24, List.forall_mem_cons.mpr ⟨lw_p25, List.forall_mem_cons.mpr ⟨lw_p26, List.forall_mem_cons.mpr ⟨lw_p27, List.forall_mem_cons.mpr ⟨lw_p28, List.forall_mem_cons.mpr ⟨lw_p29, List.forall_mem_cons.mpr ⟨lw_p30, List.forall_mem_cons.mpr ⟨lw_p31, fun _ h => absurd h List.not_mem_nil⟩⟩⟩⟩⟩⟩⟩⟩⟩⟩⟩⟩⟩⟩⟩⟩
theorem lw_p32 : lw_okq (⟨"LintelBrothers$Script", "readSign", "(C)Z"⟩, 6) := ⟨⟨by decide +kernel, by decide +kernel⟩, List.mem_of_getElem? (i := 260) (by decide +kernel), List.mem_of_getElem? (i := 1421) (by decide +kernel), List.mem_of_getElem? (i := 1422) (by decide +kernel)⟩
theorem lw_p33 : lw_okq (⟨"LintelBrothers", "runCommand", "(I)I"⟩, 14) := ⟨⟨by decide +kernel, by decide +kernel⟩, List.mem_of_getElem? (i := 35) (by decide +kernel), List.mem_of_getElem? (i := 1433) (by decide +kernel), List.mem_of_getElem? (i := 1434) (by decide +kernel)⟩
theorem lw_p34 : lw_okq (⟨"LintelBrothersModel", "begins", "()V"⟩, 22) := ⟨⟨by decide +kernel, by decide +kernel⟩, List.mem_of_getElem? (i := 1494) (by decide +kernel), List.mem_of_getElem? (i := 1576) (by decide +kernel), List.mem_of_getElem? (i := 1577) (by decide +kernel)⟩
theorem lw_p35 : lw_okq (⟨"LintelBrothersModel", "copies", "(II)V"⟩, 22) := ⟨⟨by decide +kernel, by decide +kernel⟩, List.mem_of_getElem? (i := 1494) (by decide +kernel), List.mem_of_getElem? (i := 1580) (by decide +kernel), List.mem_of_getElem? (i := 1581) (by decide +kernel)⟩
theorem lw_p36 : lw_okq (⟨"LintelBrothersModel", "adds", "(II)I"⟩, 22) := ⟨⟨by decide +kernel, by decide +kernel⟩, List.mem_of_getElem? (i := 1494) (by decide +kernel), List.mem_of_getElem? (i := 1584) (by decide +kernel), List.mem_of_getElem? (i := 1585) (by decide +kernel)⟩
theorem lw_p37 : lw_okq (⟨"LintelBrothersModel", "rejects", "(II)I"⟩, 22) := ⟨⟨by decide +kernel, by decide +kernel⟩, List.mem_of_getElem? (i := 1494) (by decide +kernel), List.mem_of_getElem? (i := 1594) (by decide +kernel), List.mem_of_getElem? (i := 1595) (by decide +kernel)⟩
theorem lw_p38 : lw_okq (⟨"LintelBrothersModel", "set", "(III)V"⟩, 22) := ⟨⟨by decide +kernel, by decide +kernel⟩, List.mem_of_getElem? (i := 1494) (by decide +kernel), List.mem_of_getElem? (i := 1598) (by decide +kernel), List.mem_of_getElem? (i := 1599) (by decide +kernel)⟩
theorem lw_p39 : lw_okq (⟨"LintelBrothersModel", "ends", "(IIIII)I"⟩, 22) := ⟨⟨by decide +kernel, by decide +kernel⟩, List.mem_of_getElem? (i := 1494) (by decide +kernel), List.mem_of_getElem? (i := 1602) (by decide +kernel), List.mem_of_getElem? (i := 1603) (by decide +kernel)⟩
theorem lw_p40 : lw_okq (⟨"LintelBrothersModel", "kept", "(I)I"⟩, 22) := ⟨⟨by decide +kernel, by decide +kernel⟩, List.mem_of_getElem? (i := 1494) (by decide +kernel), List.mem_of_getElem? (i := 1606) (by decide +kernel), List.mem_of_getElem? (i := 1607) (by decide +kernel)⟩
theorem lw_p41 : lw_okq (⟨"LintelBrothersModel", "frames", "(III)I"⟩, 22) := ⟨⟨by decide +kernel, by decide +kernel⟩, List.mem_of_getElem? (i := 1494) (by decide +kernel), List.mem_of_getElem? (i := 1614) (by decide +kernel), List.mem_of_getElem? (i := 1615) (by decide +kernel)⟩
theorem lw_p42 : lw_okq (⟨"LintelBrothersModel", "isDoor", "(I)Z"⟩, 22) := ⟨⟨by decide +kernel, by decide +kernel⟩, List.mem_of_getElem? (i := 1494) (by decide +kernel), List.mem_of_getElem? (i := 1618) (by decide +kernel), List.mem_of_getElem? (i := 1619) (by decide +kernel)⟩
theorem lw_p43 : lw_okq (⟨"LintelBrothersModel", "resets", "()V"⟩, 22) := ⟨⟨by decide +kernel, by decide +kernel⟩, List.mem_of_getElem? (i := 1494) (by decide +kernel), List.mem_of_getElem? (i := 1622) (by decide +kernel), List.mem_of_getElem? (i := 1623) (by decide +kernel)⟩
theorem lw_p44 : lw_okq (⟨"LintelBrothersModel", "d", "(II)I"⟩, 22) := ⟨⟨by decide +kernel, by decide +kernel⟩, List.mem_of_getElem? (i := 1494) (by decide +kernel), List.mem_of_getElem? (i := 1626) (by decide +kernel), List.mem_of_getElem? (i := 1627) (by decide +kernel)⟩
theorem lw_p45 : lw_okq (⟨"LintelBrothersModel", "unlike", "()I"⟩, 22) := ⟨⟨by decide +kernel, by decide +kernel⟩, List.mem_of_getElem? (i := 1494) (by decide +kernel), List.mem_of_getElem? (i := 1630) (by decide +kernel), List.mem_of_getElem? (i := 1631) (by decide +kernel)⟩
theorem lw_p46 : lw_okq (⟨"LintelBrothersModel", "narrowed", "(III)I"⟩, 22) := ⟨⟨by decide +kernel, by decide +kernel⟩, List.mem_of_getElem? (i := 1494) (by decide +kernel), List.mem_of_getElem? (i := 1638) (by decide +kernel), List.mem_of_getElem? (i := 1639) (by decide +kernel)⟩
theorem lw_p47 : lw_okq (⟨"LintelBrothersModel", "resetsAll", "()I"⟩, 22) := ⟨⟨by decide +kernel, by decide +kernel⟩, List.mem_of_getElem? (i := 1494) (by decide +kernel), List.mem_of_getElem? (i := 1646) (by decide +kernel), List.mem_of_getElem? (i := 1647) (by decide +kernel)⟩
def lw_privs_3 : List (MethodName × Nat) := [(⟨"LintelBrothers$Script", "readSign", "(C)Z"⟩, 6), (⟨"LintelBrothers", "runCommand", "(I)I"⟩, 14), (⟨"LintelBrothersModel", "begins", "()V"⟩, 22), (⟨"LintelBrothersModel", "copies", "(II)V"⟩, 22), (⟨"LintelBrothersModel", "adds", "(II)I"⟩, 22), (⟨"LintelBrothersModel", "rejects", "(II)I"⟩, 22), (⟨"LintelBrothersModel", "set", "(III)V"⟩, 22), (⟨"LintelBrothersModel", "ends", "(IIIII)I"⟩, 22), (⟨"LintelBrothersModel", "kept", "(I)I"⟩, 22), (⟨"LintelBrothersModel", "frames", "(III)I"⟩, 22), (⟨"LintelBrothersModel", "isDoor", "(I)Z"⟩, 22), (⟨"LintelBrothersModel", "resets", "()V"⟩, 22), (⟨"LintelBrothersModel", "d", "(II)I"⟩, 22), (⟨"LintelBrothersModel", "unlike", "()I"⟩, 22), (⟨"LintelBrothersModel", "narrowed", "(III)I"⟩, 22), (⟨"LintelBrothersModel", "resetsAll", "()I"⟩, 22)]
theorem lw_r3 : ∀ q ∈ lw_privs_3, lw_okq q := List.forall_mem_cons.mpr ⟨lw_p32, List.forall_mem_cons.mpr ⟨lw_p33, List.forall_mem_cons.mpr ⟨lw_p34, List.forall_mem_cons.mpr ⟨lw_p35, List.forall_mem_cons.mpr ⟨lw_p36, List.forall_mem_cons.mpr ⟨lw_p37, List.forall_mem_cons.mpr ⟨lw_p38, List.forall_mem_cons.mpr ⟨lw_p39, List.forall_mem_cons.mpr ⟨lw_p40, List.forall_mem_cons.mpr ⟨lw_p41, List.forall_mem_cons.mpr ⟨lw_p42, List.forall_mem_cons.mpr ⟨lw_p43, List.forall_mem_cons.mpr ⟨lw_p44, List.forall_mem_cons.mpr ⟨lw_p45, List.forall_mem_cons.mpr ⟨lw_p46, List.forall_mem_cons.mpr ⟨lw_p47, fun _ h => absurd h List.not_mem_nil⟩⟩⟩⟩⟩⟩⟩⟩⟩⟩⟩⟩⟩⟩⟩⟩
theorem lw_p48 : lw_okq (⟨"LintelBrothersModel", "binds", "(IIII)I"⟩, 22) := ⟨⟨by decide +kernel, by decide +kernel⟩, List.mem_of_getElem? (i := 1494) (by decide +kernel), List.mem_of_getElem? (i := 1654) (by decide +kernel), List.mem_of_getElem? (i := 1655) (by decide +kernel)⟩
theorem lw_p49 : lw_okq (⟨"LintelBrothersModel", "c", "(II)I"⟩, 22) := ⟨⟨by decide +kernel, by decide +kernel⟩, List.mem_of_getElem? (i := 1494) (by decide +kernel), List.mem_of_getElem? (i := 1661) (by decide +kernel), List.mem_of_getElem? (i := 1662) (by decide +kernel)⟩
theorem lw_p50 : lw_okq (⟨"LintelBrothersModel", "drops", "(I)I"⟩, 22) := ⟨⟨by decide +kernel, by decide +kernel⟩, List.mem_of_getElem? (i := 1494) (by decide +kernel), List.mem_of_getElem? (i := 1669) (by decide +kernel), List.mem_of_getElem? (i := 1670) (by decide +kernel)⟩
theorem lw_p51 : lw_okq (⟨"LintelBrothersModel", "rule", "(I)I"⟩, 22) := ⟨⟨by decide +kernel, by decide +kernel⟩, List.mem_of_getElem? (i := 1494) (by decide +kernel), List.mem_of_getElem? (i := 1673) (by decide +kernel), List.mem_of_getElem? (i := 1674) (by decide +kernel)⟩
theorem lw_p52 : lw_okq (⟨"LintelBrothersModel", "passes", "()I"⟩, 22) := ⟨⟨by decide +kernel, by decide +kernel⟩, List.mem_of_getElem? (i := 1494) (by decide +kernel), List.mem_of_getElem? (i := 1681) (by decide +kernel), List.mem_of_getElem? (i := 1682) (by decide +kernel)⟩
theorem lw_p53 : lw_okq (⟨"LintelBrothersModel", "goesThrough", "(Z)I"⟩, 22) := ⟨⟨by decide +kernel, by decide +kernel⟩, List.mem_of_getElem? (i := 1494) (by decide +kernel), List.mem_of_getElem? (i := 1685) (by decide +kernel), List.mem_of_getElem? (i := 1686) (by decide +kernel)⟩
theorem lw_p54 : lw_okq (⟨"LintelBrothersModel", "narrows", "(I)V"⟩, 22) := ⟨⟨by decide +kernel, by decide +kernel⟩, List.mem_of_getElem? (i := 1494) (by decide +kernel), List.mem_of_getElem? (i := 1689) (by decide +kernel), List.mem_of_getElem? (i := 1690) (by decide +kernel)⟩
theorem lw_p55 : lw_okq (⟨"LintelBrothersModel", "parts", "(III)V"⟩, 22) := ⟨⟨by decide +kernel, by decide +kernel⟩, List.mem_of_getElem? (i := 1494) (by decide +kernel), List.mem_of_getElem? (i := 1693) (by decide +kernel), List.mem_of_getElem? (i := 1694) (by decide +kernel)⟩
theorem lw_p56 : lw_okq (⟨"LintelBrothersModel", "isFixedNow", "(I)Z"⟩, 22) := ⟨⟨by decide +kernel, by decide +kernel⟩, List.mem_of_getElem? (i := 1494) (by decide +kernel), List.mem_of_getElem? (i := 1697) (by decide +kernel), List.mem_of_getElem? (i := 1698) (by decide +kernel)⟩
theorem lw_p57 : lw_okq (⟨"LintelBrothersModel", "becomes", "(IIZI)V"⟩, 22) := ⟨⟨by decide +kernel, by decide +kernel⟩, List.mem_of_getElem? (i := 1494) (by decide +kernel), List.mem_of_getElem? (i := 1701) (by decide +kernel), List.mem_of_getElem? (i := 1702) (by decide +kernel)⟩
theorem lw_p58 : lw_okq (⟨"LintelBrothersModel", "raises", "(II)V"⟩, 22) := ⟨⟨by decide +kernel, by decide +kernel⟩, List.mem_of_getElem? (i := 1494) (by decide +kernel), List.mem_of_getElem? (i := 1705) (by decide +kernel), List.mem_of_getElem? (i := 1706) (by decide +kernel)⟩
theorem lw_p59 : lw_okq (⟨"LintelBrothersModel", "lowers", "(II)V"⟩, 22) := ⟨⟨by decide +kernel, by decide +kernel⟩, List.mem_of_getElem? (i := 1494) (by decide +kernel), List.mem_of_getElem? (i := 1709) (by decide +kernel), List.mem_of_getElem? (i := 1710) (by decide +kernel)⟩
theorem lw_p60 : lw_okq (⟨"LintelBrothersModel", "isTorn", "(I)Z"⟩, 22) := ⟨⟨by decide +kernel, by decide +kernel⟩, List.mem_of_getElem? (i := 1494) (by decide +kernel), List.mem_of_getElem? (i := 1713) (by decide +kernel), List.mem_of_getElem? (i := 1714) (by decide +kernel)⟩
theorem lw_p61 : lw_okq (⟨"LintelBrothersModel", "settlesAll", "()I"⟩, 22) := ⟨⟨by decide +kernel, by decide +kernel⟩, List.mem_of_getElem? (i := 1494) (by decide +kernel), List.mem_of_getElem? (i := 1721) (by decide +kernel), List.mem_of_getElem? (i := 1722) (by decide +kernel)⟩
theorem lw_p62 : lw_okq (⟨"LintelBrothersModel", "settles", "(Z)I"⟩, 22) := ⟨⟨by decide +kernel, by decide +kernel⟩, List.mem_of_getElem? (i := 1494) (by decide +kernel), List.mem_of_getElem? (i := 1725) (by decide +kernel), List.mem_of_getElem? (i := 1726) (by decide +kernel)⟩
theorem lw_p63 : lw_okq (⟨"LintelBrothersModel", "told", "(I)I"⟩, 22) := ⟨⟨by decide +kernel, by decide +kernel⟩, List.mem_of_getElem? (i := 1494) (by decide +kernel), List.mem_of_getElem? (i := 1733) (by decide +kernel), List.mem_of_getElem? (i := 1734) (by decide +kernel)⟩
def lw_privs_4 : List (MethodName × Nat) := [(⟨"LintelBrothersModel", "binds", "(IIII)I"⟩, 22), (⟨"LintelBrothersModel", "c", "(II)I"⟩, 22), (⟨"LintelBrothersModel", "drops", "(I)I"⟩, 22), (⟨"LintelBrothersModel", "rule", "(I)I"⟩, 22), (⟨"LintelBrothersModel", "passes", "()I"⟩, 22), (⟨"LintelBrothersModel", "goesThrough", "(Z)I"⟩, 22), (⟨"LintelBrothersModel", "narrows", "(I)V"⟩, 22), (⟨"LintelBrothersModel", "parts", "(III)V"⟩, 22), (⟨"LintelBrothersModel", "isFixedNow", "(I)Z"⟩, 22), (⟨"LintelBrothersModel", "becomes", "(IIZI)V"⟩, 22), (⟨"LintelBrothersModel", "raises", "(II)V"⟩, 22), (⟨"LintelBrothersModel", "lowers", "(II)V"⟩, 22), (⟨"LintelBrothersModel", "isTorn", "(I)Z"⟩, 22), (⟨"LintelBrothersModel", "settlesAll", "()I"⟩, 22), (⟨"LintelBrothersModel", "settles", "(Z)I"⟩, 22), (⟨"LintelBrothersModel", "told", "(I)I"⟩, 22)]
theorem lw_r4 : ∀ q ∈ lw_privs_4, lw_okq q := List.forall_mem_cons.mpr ⟨lw_p48, List.forall_mem_cons.mpr ⟨lw_p49, List.forall_mem_cons.mpr ⟨lw_p50, List.forall_mem_cons.mpr ⟨lw_p51, List.forall_mem_cons.mpr ⟨lw_p52, List.forall_mem_cons.mpr ⟨lw_p53, List.forall_mem_cons.mpr ⟨lw_p54, List.forall_mem_cons.mpr ⟨lw_p55, List.forall_mem_cons.mpr ⟨lw_p56, List.forall_mem_cons.mpr ⟨lw_p57, List.forall_mem_cons.mpr ⟨lw_p58, List.forall_mem_cons.mpr ⟨lw_p59, List.forall_mem_cons.mpr ⟨lw_p60, List.forall_mem_cons.mpr ⟨lw_p61, List.forall_mem_cons.mpr ⟨lw_p62, List.forall_mem_cons.mpr ⟨lw_p63, fun _ h => absurd h List.not_mem_nil⟩⟩⟩⟩⟩⟩⟩⟩⟩⟩⟩⟩⟩⟩⟩⟩
theorem lw_p64 : lw_okq (⟨"LintelBrothersModel", "ofDoor", "(II)I"⟩, 22) := ⟨⟨by decide +kernel, by decide +kernel⟩, List.mem_of_getElem? (i := 1494) (by decide +kernel), List.mem_of_getElem? (i := 1741) (by decide +kernel), List.mem_of_getElem? (i := 1742) (by decide +kernel)⟩
theorem lw_p65 : lw_okq (⟨"LintelBrothersModel", "isFine", "(Z)Z"⟩, 22) := ⟨⟨by decide +kernel, by decide +kernel⟩, List.mem_of_getElem? (i := 1494) (by decide +kernel), List.mem_of_getElem? (i := 1745) (by decide +kernel), List.mem_of_getElem? (i := 1746) (by decide +kernel)⟩
theorem lw_p66 : lw_okq (⟨"LintelBrothersModel", "width", "(I)I"⟩, 22) := ⟨⟨by decide +kernel, by decide +kernel⟩, List.mem_of_getElem? (i := 1494) (by decide +kernel), List.mem_of_getElem? (i := 1765) (by decide +kernel), List.mem_of_getElem? (i := 1766) (by decide +kernel)⟩
theorem lw_p67 : lw_okq (⟨"LintelBrothersModel", "takesPart", "(I)I"⟩, 22) := ⟨⟨by decide +kernel, by decide +kernel⟩, List.mem_of_getElem? (i := 1494) (by decide +kernel), List.mem_of_getElem? (i := 1777) (by decide +kernel), List.mem_of_getElem? (i := 1778) (by decide +kernel)⟩
theorem lw_p68 : lw_okq (⟨"LintelBrothersModel", "ofRule", "(II)I"⟩, 22) := ⟨⟨by decide +kernel, by decide +kernel⟩, List.mem_of_getElem? (i := 1494) (by decide +kernel), List.mem_of_getElem? (i := 1793) (by decide +kernel), List.mem_of_getElem? (i := 1794) (by decide +kernel)⟩
theorem lw_p69 : lw_okq (⟨"LintelBrothersModel", "pairs", "(IZ)I"⟩, 22) := ⟨⟨by decide +kernel, by decide +kernel⟩, List.mem_of_getElem? (i := 1494) (by decide +kernel), List.mem_of_getElem? (i := 1813) (by decide +kernel), List.mem_of_getElem? (i := 1814) (by decide +kernel)⟩
theorem lw_p70 : lw_okq (⟨"LintelBrothersModel", "would", "()I"⟩, 22) := ⟨⟨by decide +kernel, by decide +kernel⟩, List.mem_of_getElem? (i := 1494) (by decide +kernel), List.mem_of_getElem? (i := 1828) (by decide +kernel), List.mem_of_getElem? (i := 1829) (by decide +kernel)⟩
theorem lw_p71 : lw_okq (⟨"LintelBrothersModel", "opens", "()V"⟩, 22) := ⟨⟨by decide +kernel, by decide +kernel⟩, List.mem_of_getElem? (i := 1494) (by decide +kernel), List.mem_of_getElem? (i := 1857) (by decide +kernel), List.mem_of_getElem? (i := 1858) (by decide +kernel)⟩
theorem lw_p72 : lw_okq (⟨"LintelBrothersModel", "isSolvableWith", "(IIJ)Z"⟩, 22) := ⟨⟨by decide +kernel, by decide +kernel⟩, List.mem_of_getElem? (i := 1494) (by decide +kernel), List.mem_of_getElem? (i := 1869) (by decide +kernel), List.mem_of_getElem? (i := 1870) (by decide +kernel)⟩
theorem lw_p73 : lw_okq (⟨"LintelBrothersModel", "isSolvable", "(I)Z"⟩, 22) := ⟨⟨by decide +kernel, by decide +kernel⟩, List.mem_of_getElem? (i := 1494) (by decide +kernel), List.mem_of_getElem? (i := 1873) (by decide +kernel), List.mem_of_getElem? (i := 1874) (by decide +kernel)⟩
theorem lw_p74 : lw_okq (⟨"LintelBrothersModel", "isOpen", "(I)Z"⟩, 22) := ⟨⟨by decide +kernel, by decide +kernel⟩, List.mem_of_getElem? (i := 1494) (by decide +kernel), List.mem_of_getElem? (i := 1877) (by decide +kernel), List.mem_of_getElem? (i := 1878) (by decide +kernel)⟩
theorem lw_p75 : lw_okq (⟨"LintelBrothersModel", "makesPeace", "()Z"⟩, 22) := ⟨⟨by decide +kernel, by decide +kernel⟩, List.mem_of_getElem? (i := 1494) (by decide +kernel), List.mem_of_getElem? (i := 1897) (by decide +kernel), List.mem_of_getElem? (i := 1898) (by decide +kernel)⟩
theorem lw_p76 : lw_okq (⟨"LintelBrothersModel", "isNarrower", "(II)Z"⟩, 22) := ⟨⟨by decide +kernel, by decide +kernel⟩, List.mem_of_getElem? (i := 1494) (by decide +kernel), List.mem_of_getElem? (i := 1914) (by decide +kernel), List.mem_of_getElem? (i := 1915) (by decide +kernel)⟩
theorem lw_p77 : lw_okq (⟨"LintelBrothersModel", "writesNumber", "(I)V"⟩, 22) := ⟨⟨by decide +kernel, by decide +kernel⟩, List.mem_of_getElem? (i := 1494) (by decide +kernel), List.mem_of_getElem? (i := 1952) (by decide +kernel), List.mem_of_getElem? (i := 1953) (by decide +kernel)⟩
theorem lw_p78 : lw_okq (⟨"LintelBrothersModel", "writes", "(I)V"⟩, 22) := ⟨⟨by decide +kernel, by decide +kernel⟩, List.mem_of_getElem? (i := 1494) (by decide +kernel), List.mem_of_getElem? (i := 1956) (by decide +kernel), List.mem_of_getElem? (i := 1957) (by decide +kernel)⟩
theorem lw_p79 : lw_okq (⟨"LintelBrothersModel", "parse", "()V"⟩, 22) := ⟨⟨by decide +kernel, by decide +kernel⟩, List.mem_of_getElem? (i := 1494) (by decide +kernel), List.mem_of_getElem? (i := 1976) (by decide +kernel), List.mem_of_getElem? (i := 1977) (by decide +kernel)⟩
def lw_privs_5 : List (MethodName × Nat) := [(⟨"LintelBrothersModel", "ofDoor", "(II)I"⟩, 22), (⟨"LintelBrothersModel", "isFine", "(Z)Z"⟩, 22), (⟨"LintelBrothersModel", "width", "(I)I"⟩, 22), (⟨"LintelBrothersModel", "takesPart", "(I)I"⟩, 22), (⟨"LintelBrothersModel", "ofRule", "(II)I"⟩, 22), (⟨"LintelBrothersModel", "pairs", "(IZ)I"⟩, 22), (⟨"LintelBrothersModel", "would", "()I"⟩, 22), (⟨"LintelBrothersModel", "opens", "()V"⟩, 22), (⟨"LintelBrothersModel", "isSolvableWith", "(IIJ)Z"⟩, 22), (⟨"LintelBrothersModel", "isSolvable", "(I)Z"⟩, 22), (⟨"LintelBrothersModel", "isOpen", "(I)Z"⟩, 22), (⟨"LintelBrothersModel", "makesPeace", "()Z"⟩, 22), (⟨"LintelBrothersModel", "isNarrower", "(II)Z"⟩, 22), (⟨"LintelBrothersModel", "writesNumber", "(I)V"⟩, 22), (⟨"LintelBrothersModel", "writes", "(I)V"⟩, 22), (⟨"LintelBrothersModel", "parse", "()V"⟩, 22)]
theorem lw_r5 : ∀ q ∈ lw_privs_5, lw_okq q := List.forall_mem_cons.mpr ⟨lw_p64, List.forall_mem_cons.mpr ⟨lw_p65, List.forall_mem_cons.mpr ⟨lw_p66, List.forall_mem_cons.mpr ⟨lw_p67, List.forall_mem_cons.mpr ⟨lw_p68, List.forall_mem_cons.mpr ⟨lw_p69, List.forall_mem_cons.mpr ⟨lw_p70, List.forall_mem_cons.mpr ⟨lw_p71, List.forall_mem_cons.mpr ⟨lw_p72, List.forall_mem_cons.mpr ⟨lw_p73, List.forall_mem_cons.mpr ⟨lw_p74, List.forall_mem_cons.mpr ⟨lw_p75, List.forall_mem_cons.mpr ⟨lw_p76, List.forall_mem_cons.mpr ⟨lw_p77, List.forall_mem_cons.mpr ⟨lw_p78, List.forall_mem_cons.mpr ⟨lw_p79, fun _ h => absurd h List.not_mem_nil⟩⟩⟩⟩⟩⟩⟩⟩⟩⟩⟩⟩⟩⟩⟩⟩
theorem lw_p80 : lw_okq (⟨"LintelBrothersModel", "command", "()V"⟩, 22) := ⟨⟨by decide +kernel, by decide +kernel⟩, List.mem_of_getElem? (i := 1494) (by decide +kernel), List.mem_of_getElem? (i := 1980) (by decide +kernel), List.mem_of_getElem? (i := 1981) (by decide +kernel)⟩
theorem lw_p81 : lw_okq (⟨"LintelBrothersModel", "sign", "()I"⟩, 22) := ⟨⟨by decide +kernel, by decide +kernel⟩, List.mem_of_getElem? (i := 1494) (by decide +kernel), List.mem_of_getElem? (i := 1984) (by decide +kernel), List.mem_of_getElem? (i := 1985) (by decide +kernel)⟩
theorem lw_p82 : lw_okq (⟨"LintelBrothersModel", "binding", "(I)V"⟩, 22) := ⟨⟨by decide +kernel, by decide +kernel⟩, List.mem_of_getElem? (i := 1494) (by decide +kernel), List.mem_of_getElem? (i := 1988) (by decide +kernel), List.mem_of_getElem? (i := 1989) (by decide +kernel)⟩
theorem lw_p83 : lw_okq (⟨"LintelBrothersModel", "number", "(I)I"⟩, 22) := ⟨⟨by decide +kernel, by decide +kernel⟩, List.mem_of_getElem? (i := 1494) (by decide +kernel), List.mem_of_getElem? (i := 1992) (by decide +kernel), List.mem_of_getElem? (i := 1993) (by decide +kernel)⟩
theorem lw_p84 : lw_okq (⟨"LintelBrothersModel", "behind", "(II)I"⟩, 22) := ⟨⟨by decide +kernel, by decide +kernel⟩, List.mem_of_getElem? (i := 1494) (by decide +kernel), List.mem_of_getElem? (i := 1996) (by decide +kernel), List.mem_of_getElem? (i := 1997) (by decide +kernel)⟩
theorem lw_p85 : lw_okq (⟨"LintelBrothersModel", "needs", "(I)V"⟩, 22) := ⟨⟨by decide +kernel, by decide +kernel⟩, List.mem_of_getElem? (i := 1494) (by decide +kernel), List.mem_of_getElem? (i := 2000) (by decide +kernel), List.mem_of_getElem? (i := 2001) (by decide +kernel)⟩
theorem lw_p86 : lw_okq (⟨"LintelBrothersModel", "letters", "(III)V"⟩, 22) := ⟨⟨by decide +kernel, by decide +kernel⟩, List.mem_of_getElem? (i := 1494) (by decide +kernel), List.mem_of_getElem? (i := 2004) (by decide +kernel), List.mem_of_getElem? (i := 2005) (by decide +kernel)⟩
theorem lw_p87 : lw_okq (⟨"LintelBrothersModel", "range", "(I)V"⟩, 22) := ⟨⟨by decide +kernel, by decide +kernel⟩, List.mem_of_getElem? (i := 1494) (by decide +kernel), List.mem_of_getElem? (i := 2008) (by decide +kernel), List.mem_of_getElem? (i := 2009) (by decide +kernel)⟩
theorem lw_p88 : lw_okq (⟨"LintelBrothersModel", "does", "(I)I"⟩, 22) := ⟨⟨by decide +kernel, by decide +kernel⟩, List.mem_of_getElem? (i := 1494) (by decide +kernel), List.mem_of_getElem? (i := 2012) (by decide +kernel), List.mem_of_getElem? (i := 2013) (by decide +kernel)⟩
def lw_privs_6 : List (MethodName × Nat) := [(⟨"LintelBrothersModel", "command", "()V"⟩, 22), (⟨"LintelBrothersModel", "sign", "()I"⟩, 22), (⟨"LintelBrothersModel", "binding", "(I)V"⟩, 22), (⟨"LintelBrothersModel", "number", "(I)I"⟩, 22), (⟨"LintelBrothersModel", "behind", "(II)I"⟩, 22), (⟨"LintelBrothersModel", "needs", "(I)V"⟩, 22), (⟨"LintelBrothersModel", "letters", "(III)V"⟩, 22), (⟨"LintelBrothersModel", "range", "(I)V"⟩, 22), (⟨"LintelBrothersModel", "does", "(I)I"⟩, 22)]
theorem lw_r6 : ∀ q ∈ lw_privs_6, lw_okq q := List.forall_mem_cons.mpr ⟨lw_p80, List.forall_mem_cons.mpr ⟨lw_p81, List.forall_mem_cons.mpr ⟨lw_p82, List.forall_mem_cons.mpr ⟨lw_p83, List.forall_mem_cons.mpr ⟨lw_p84, List.forall_mem_cons.mpr ⟨lw_p85, List.forall_mem_cons.mpr ⟨lw_p86, List.forall_mem_cons.mpr ⟨lw_p87, List.forall_mem_cons.mpr ⟨lw_p88, fun _ h => absurd h List.not_mem_nil⟩⟩⟩⟩⟩⟩⟩⟩⟩
def lw_privs : List (MethodName × Nat) := lw_privs_1 ++ (lw_privs_2 ++ (lw_privs_3 ++ (lw_privs_4 ++ (lw_privs_5 ++ (lw_privs_6)))))
def lw_tbl : List Cond := k2_sels lw_privs ++ tables_1
theorem lw_privs_ok : ∀ q ∈ lw_privs, lw_okq q := by
  show ∀ q ∈ lw_privs_1 ++ (lw_privs_2 ++ (lw_privs_3 ++ (lw_privs_4 ++ (lw_privs_5 ++ (lw_privs_6))))), lw_okq q
  exact List.forall_mem_append.mpr ⟨lw_r1, List.forall_mem_append.mpr ⟨lw_r2, List.forall_mem_append.mpr ⟨lw_r3, List.forall_mem_append.mpr ⟨lw_r4, List.forall_mem_append.mpr ⟨lw_r5, lw_r6⟩⟩⟩⟩⟩
/-- the streams that the claim lets the run draw from -/
abbrev lw_cs : List Choice := [Jvm.Choice.named "NaN.bits"]
theorem lw_bits : nanBits ∈ lw_cs := by first | decide | exact List.mem_cons_self | simp [lw_cs, nanBits]
end
section
/-! ===== BEGIN words of one list among another's, by their places ===== -/
theorem goodIn_r {big : List Cond} (ws : List Cond) (ps : List Nat) (hp : ws = ps.filterMap (fun i => big[i]?)) (h : ws.all goodWord = true) : GoodIn big ws := by
  intro w hw
  have h1 := List.all_eq_true.mp h w hw
  rw [hp] at hw
  obtain ⟨i, -, hi⟩ := List.mem_filterMap.mp hw
  have hm : w ∈ big := by first | exact List.mem_of_getElem? hi | exact List.getElem?_mem hi
  exact ⟨hm, good_of_word h1⟩
theorem goodIn_app {big a b : List Cond} (ha : GoodIn big a) (hb : GoodIn big b) : GoodIn big (a ++ b) := fun w h => (List.mem_append.mp h).elim (ha w) (hb w)
theorem goodIn_ca {big a b : List Cond} {c : Cond} (ha : GoodIn big (c :: a)) (hb : GoodIn big b) : GoodIn big (c :: (a ++ b)) := fun w h => (List.mem_cons.mp h).elim (fun e => ha w (List.mem_cons.mpr (Or.inl e))) (fun h => (List.mem_append.mp h).elim (fun h => ha w (List.mem_cons.mpr (Or.inr h))) (hb w))
theorem goodIn_sub {big ws : List Cond} (hm : ∀ w ∈ ws, w ∈ big) (h : ws.all goodWord = true) : GoodIn big ws := fun w hw => ⟨hm w hw, good_of_word (List.all_eq_true.mp h w hw)⟩
/-! ===== END ===== -/
/-! ===== BEGIN exceptions that leave a method, and their catching by the caller (launches without stack traces) ===== -/
section VXA
/-! The laws vx_back, vx_callV, vx_callS, vx_callSW, vx_throw0, vx_throwS follow proofs of the library, with one case more: JvmDerived/Free/Laws.lean (Back.of_free), Shelf42/LK1.lean (callV, callS), Shelf/KitTraced.lean (throwNew0V, throwNewS). -/
/-- where a method has thrown q: the class by its name, the cell, what was written, the world -/
def vx_T (XC : String → State → State → Prop) (st : State) (q : Addr) (t : State) (mc ms : Nat) (free : Addr → Prop) : Prop :=
  ∃ (E : String) (ce : Cell) (L : List Loc), XC E st t ∧ t.heap[q]? = some ce ∧ ce.vm = .none ∧ st.vm.findClass E = some ce.cls ∧ st.WarmedH t.vm ∧ st.sameButNew ({ t with vm := st.vm } : State) L mc ms ∧ ∀ z ∈ L, free z.base
def vx_Q (Qc : Array Value → State → Outcome → State → Prop) (XC : String → State → State → Prop) (mc ms : Nat) (free : Addr → Prop) : Array Value → State → Outcome → State → Prop := fun a st o t =>
  (Qc a st o t ∧ ∃ L, FrameEnd st o t L mc ms ∧ ∀ q ∈ L, free q.base) ∨ ∃ q, o = .threw q ∧ vx_T XC st q t mc ms free
/-- a callee that returns or throws -/
def vx_Met (l : Launch) (y : MethodName) (ws : List Cond) (rm : Room) (Pc : Array Value → State → Prop) (Qc : Array Value → State → Outcome → State → Prop) (XC : String → State → State → Prop) (mc ms : Nat) (free : Addr → Prop) : Prop :=
  MetFree l y (headSpec ws rm) Pc (fun _ _ _ _ _ => True) (vx_Q Qc XC mc ms free)
def vx_Post (XC : String → State → State → Prop) (mc ms : Nat) (free : Addr → Prop) : Pt → Array Value → Addr → Pt → Prop := fun A a q B =>
  ∃ (g : JFrame) (mk : MethodId) (t : State) (L : List Loc) (E : String) (ce : Cell), B.U.heap = t.heap ∧ B.U.vm = t.vm ∧ XC E (A.U.calling g mk a) t ∧ t.heap[q]? = some ce ∧ ce.vm = .none ∧ A.U.vm.findClass E = some ce.cls ∧ B.locs = A.locs ++ L ∧ (∀ z ∈ L, free z.base) ∧ B.cells = A.cells + mc ∧ B.slots = A.slots + ms
def vx_Back (l : Launch) (R : Room) (p : Program) (e : Env) (below : List Frame) (s : State) (sargs : Array Value) (y : MethodName) (len W9 : Nat)
    (Pre : Pt → Array Value → Prop) (Post : Pt → Array Value → Option Value → Pt → Prop) (PostX : Pt → Array Value → Addr → Pt → Prop) : Prop :=
  ∀ (m : MethodId) (meth : Method) (c : Code) (A : Pt) (g : JFrame) (ig : Instr) (mk : MethodId) (a : Array Value),
    Stand p l e R s m sargs below meth c A.U A.locs A.cells A.slots → g.method = m → g.locals.size = c.maxLocals → decode c.code g.pc = .ok (ig, len) →
    2 * g.monitorRoom + (g.stack.map fun v => v.category).sum ≤ W9 → A.U.methodNamed? y = some mk → Pre A a →
    (∃ (v : Option Value) (B : Pt), Stand p l e R s m sargs below meth c B.U B.locs B.cells B.slots ∧ Post A a v B ∧
      Steps p.tables e below (doInvoke e (A.U.setTop g) [] mk a).1 (B.U.setTop { g with pc := g.pc + len, stack := v.toList ++ g.stack })) ∨
    (∃ (q : Addr) (B : Pt), Stand p l e R s m sargs below meth c B.U B.locs B.cells B.slots ∧ PostX A a q B ∧
      Steps p.tables e below (doInvoke e (A.U.setTop g) [] mk a).1 ((B.U.setTop g).pushFrame (.throwing q)))
section Payer
variable {l : Launch} {R : Room} {p : Program} {e : Env} {below : List Frame} {s : State} {sargs : Array Value} {y : MethodName} {len W9 : Nat}
theorem vx_back {ws : List Cond} {rm : Room} {Pc : Array Value → State → Prop} {Qc : Array Value → State → Outcome → State → Prop} {XC : String → State → State → Prop} {mc ms : Nat} {free : Addr → Prop} {bytes : ByteArray} {maxL : Nat} {ret : Option FieldType}
    (hM : vx_Met l y ws rm Pc Qc XC mc ms free) (hblind : FrameBlind Pc) (hrc : rm.cells = mc) (hrs : rm.slots = ms)
    (hframes : rm.frames + 1 ≤ R.frames) (hlocals : W9 + (maxL + 11) + rm.locals ≤ R.locals)
    (hws : ∀ w ∈ ws, ∀ a' U, s.WarmedH U.vm → w.before a' U = true) (hcode : Cond.code y bytes maxL ret ∈ ws) (hinit : ∀ a' U, s.WarmedH U.vm → (Cond.initialized y.cls).before a' U = true) :
    vx_Back l R p e below s sargs y len W9 (PreOf R mc ms Pc) (PostOf Qc mc ms free) (vx_Post XC mc ms free) := by
  intro m meth c A g ig mk a X hg hsize hdg hW hn hp
  have h1 : (headSpec ws rm).pre.before a A.U = true := atoms_intro fun w hw => hws w hw _ _ X.warmed
  have h2 : (Cond.code y bytes maxL ret).before a A.U = true := hws _ hcode _ _ X.warmed
  have h3 : (Cond.initialized y.cls).before a A.U = true := hinit _ _ X.warmed
  have h4 : A.cells + (headSpec ws rm).room.cells ≤ R.cells := by rw [show (headSpec ws rm).room.cells = mc from hrc]; exact hp.1
  have h5 : A.slots + (headSpec ws rm).room.slots ≤ R.slots := by rw [show (headSpec ws rm).room.slots = ms from hrs]; exact hp.2.1
  have hPc : Pc a (A.U.calling g mk a) := hblind _ _ _ _ hp.2.2
  obtain ⟨U, Ls, c0, s0⟩ := A
  dsimp only [Pt.U, Pt.locs, Pt.cells, Pt.slots] at h1 h2 h3 h4 h5 X hn hPc ⊢
  obtain ⟨methY, cY, hmY, hcY, -, hlY, -, -, -, -⟩ := Cond.code_spec hn h2
  obtain ⟨kY, hkY, -⟩ := className_of_methodNamed hn
  have hinitY : kY.init = .initialized := Cond.initialized_spec (findClass_of_methodNamed hn) hkY h3
  have h : At U g.method c below := by rw [hg]; exact X.here
  have hlocals9 : W9 + (maxL + 11) + (headSpec ws rm).room.locals ≤ R.locals := hlocals
  have happ : (headSpec ws rm).appliesLoose y e.platform (U.calling g mk a) = true :=
    Spec.appliesLoose_calling (g := g) h hdg hn hkY hinitY
      (X.room_calling (g := g) (R' := (headSpec ws rm).room) hsize hmY hcY hframes (by rw [hlY]; omega) h4 h5) h1
  obtain ⟨mid, hmid⟩ := h.above
  have hfr : (U.setTop g).frames = (.java g :: mid) ++ below := by rw [State.frames_setTop' g h.top, hmid]; rfl
  obtain ⟨o, s₂, hsteps, -, hend, hq⟩ := Steps.callFree hM p X.admits X.cas X.clock (acts := []) hfr happ hPc trivial
  have hq' : vx_Q Qc XC mc ms free a (U.calling g mk a) o s₂ := hq
  rw [State.frames_setTop' g h.top] at hend
  obtain ⟨g₀, hg0⟩ := Option.isSome_iff_exists.mp h.top
  obtain ⟨r, hr⟩ := State.topJava?_eq_some.mp hg0
  have hr' : (({ U with heap := s₂.heap, slotsUsed := s₂.slotsUsed } : State).setVm s₂.vm).frames = .java g₀ :: r := hr
  rcases hq' with ⟨hqc, L, hfe, hL⟩ | ⟨q, rfl, E, ce, L, hx, hce, hcv, hcl, hW₂, hsm, hL⟩
  · obtain ⟨⟨v, rfl⟩, hW₂, e2, q2, q3, q4, q5, q6⟩ := id hfe
    have e3 : s₂ = ({ (U.calling g mk a).setFrames s₂.frames with heap := s₂.heap, slotsUsed := s₂.slotsUsed } : State).setVm s₂.vm := by
      have : s₂ = ({ s₂ with vm := (U.calling g mk a).vm } : State).setVm s₂.vm := rfl
      rw [e2] at this
      exact this
    obtain ⟨c₂, i₂, len₂, hc₂, hd₂, hf₂⟩ := hend
    have hW' : U.WarmedH s₂.vm := hW₂
    have hcc : c₂ = c := by
      have h1 : s₂.code? g.method = U.code? g.method := by
        rw [State.code?_eq, State.code?_eq, hW'.alike.method?]
      exact Option.some.inj (hc₂.symm.trans (h1.trans h.code))
    subst hcc
    have hlen : len₂ = len := by rw [hdg] at hd₂; cases hd₂; rfl
    subst hlen
    have hs₂ : s₂ = (({ U with heap := s₂.heap, slotsUsed := s₂.slotsUsed } : State).setVm s₂.vm).setTop { g with pc := g.pc + len₂, stack := v.toList ++ g.stack } := by
      refine e3.trans ?_
      rw [hf₂, State.calling_eq h.top, State.setFrames_setFrames, State.setTop_of_frames _ hr', hr]
      rfl
    have hsame : U.sameButNew ({ U with heap := s₂.heap, slotsUsed := s₂.slotsUsed } : State) L mc ms := by
      refine ⟨?_, q2, q3, q4, q5, q6⟩
      obtain ⟨t, ht, -⟩ := State.frames_cons hr
      show ({ U with heap := s₂.heap, slotsUsed := s₂.slotsUsed } : State) = { U.setFrames U.frames with heap := s₂.heap, slotsUsed := s₂.slotsUsed }
      rw [State.setFrames_self ht]
    subst hg
    refine Or.inl ⟨v, ⟨(({ U with heap := s₂.heap, slotsUsed := s₂.slotsUsed } : State).setVm s₂.vm), Ls ++ L, c0 + mc, s0 + ms⟩,
      ⟨X.admits, X.cas, X.clock, X.frames, X.room, X.hears, X.method, X.code, (X.here.setHeapUsed s₂.heap s₂.slotsUsed).setVm hW'.alike, X.tail, State.WarmedH.trans X.warmed hW', X.limits, X.bytes, X.same.trans (hsame.setVm s.vm)⟩,
      ⟨g, mk, s₂, L, rfl, rfl, hqc, rfl, hL, rfl, rfl⟩, ?_⟩
    show Steps p.tables e below _ ((({ U with heap := s₂.heap, slotsUsed := s₂.slotsUsed } : State).setVm s₂.vm).setTop { g with pc := g.pc + len₂, stack := v.toList ++ g.stack })
    rw [← hs₂]
    exact hsteps
  · obtain ⟨e2, q2, q3, q4, q5, q6⟩ := id hsm
    have e3 : s₂ = ({ (U.calling g mk a).setFrames s₂.frames with heap := s₂.heap, slotsUsed := s₂.slotsUsed } : State).setVm s₂.vm := by
      have : s₂ = ({ s₂ with vm := (U.calling g mk a).vm } : State).setVm s₂.vm := rfl
      rw [e2] at this
      exact this
    have hf₂ : s₂.frames = .throwing q :: .java g :: U.frames.tail := hend
    have hW' : U.WarmedH s₂.vm := hW₂
    have hs₂ : s₂ = ((({ U with heap := s₂.heap, slotsUsed := s₂.slotsUsed } : State).setVm s₂.vm).setTop g).pushFrame (.throwing q) := by
      refine e3.trans ?_
      rw [hf₂, State.calling_eq h.top, State.setFrames_setFrames, State.pushFrame, State.frames_setTop _ hr', State.setTop_of_frames _ hr', State.setFrames_setFrames, hr]
      rfl
    have hsame : U.sameButNew ({ U with heap := s₂.heap, slotsUsed := s₂.slotsUsed } : State) L mc ms := by
      refine ⟨?_, q2, q3, q4, q5, q6⟩
      obtain ⟨t, ht, -⟩ := State.frames_cons hr
      show ({ U with heap := s₂.heap, slotsUsed := s₂.slotsUsed } : State) = { U.setFrames U.frames with heap := s₂.heap, slotsUsed := s₂.slotsUsed }
      rw [State.setFrames_self ht]
    subst hg
    refine Or.inr ⟨q, ⟨(({ U with heap := s₂.heap, slotsUsed := s₂.slotsUsed } : State).setVm s₂.vm), Ls ++ L, c0 + mc, s0 + ms⟩,
      ⟨X.admits, X.cas, X.clock, X.frames, X.room, X.hears, X.method, X.code, (X.here.setHeapUsed s₂.heap s₂.slotsUsed).setVm hW'.alike, X.tail, State.WarmedH.trans X.warmed hW', X.limits, X.bytes, X.same.trans (hsame.setVm s.vm)⟩,
      ⟨g, mk, s₂, L, E, ce, rfl, rfl, hx, hce, hcv, hcl, rfl, hL, rfl, rfl⟩, ?_⟩
    show Steps p.tables e below _ (((({ U with heap := s₂.heap, slotsUsed := s₂.slotsUsed } : State).setVm s₂.vm).setTop g).pushFrame (.throwing q))
    rw [← hs₂]
    exact hsteps
end Payer
section Calls
variable {p : Program} {l : Launch} {e : Env} {R : Room} {s : State} {m : MethodId} {args : Array Value} {below : List Frame} {meth : Method} {c : Code} {T : State} {locs : List Loc} {cells slots : Nat}
theorem vx_callV (X : Stand p l e R s m args below meth c T locs cells slots) (hexec : p.tables.exec = Jvm.exec) {own C : String} {index : Nat} {y : MethodName} {bytes : ByteArray} {maxL : Nat} {ret : Option FieldType}
    (hown : s.vm.findClass own = some m.cls) (hlink : (Cond.methodLink own index y).before args s = true) (hinst : (Cond.instanceMethod y).before args s = true) (hsel : (Cond.selects C y y).before args s = true)
    (hcode : (Cond.code y bytes maxL ret).before args s = true) (hy : y.cls ≠ "java/lang/invoke/MethodHandle" ∧ y.cls ≠ "java/lang/invoke/VarHandle")
    {W9 : Nat} {Pre : Pt → Array Value → Prop} {Post : Pt → Array Value → Option Value → Pt → Prop} {PostX : Pt → Array Value → Addr → Pt → Prop} (hK : vx_Back l R p e below s args y 3 W9 Pre Post PostX)
    {b : Addr} {cellB : Cell} (hcell : T.heap[b]? = some cellB) (hobj : cellB.vm.isStatics = false) (hcls : s.vm.findClass C = some cellB.cls)
    {g : JFrame} (hg : g.method = m) (hsize : g.locals.size = c.maxLocals) {argsL rest : List Value} (hlen : ∀ sig, parseMethodDescriptor y.desc = some sig → argsL.length = sig.parameters.length)
    (hstack : g.stack = argsL.reverse ++ .ref b :: rest) (hW : 2 * g.monitorRoom + (rest.map fun v => v.category).sum ≤ W9) (hdg : decode c.code g.pc = .ok (.invokevirtual index, 3))
    (hpre : ∀ vm₁, s.WarmedH vm₁ → Pre ⟨T.setVm vm₁, locs, cells, slots⟩ (Value.ref b :: argsL).toArray) :
    (∃ (v : Option Value) (vm₁ : Vm) (B : Pt), s.WarmedH vm₁ ∧ Stand p l e R s m args below meth c B.U B.locs B.cells B.slots ∧ Post ⟨T.setVm vm₁, locs, cells, slots⟩ (Value.ref b :: argsL).toArray v B ∧
      ∀ target, Steps p.tables e below (B.U.setTop { g with pc := g.pc + 3, stack := v.toList ++ rest }) target → Steps p.tables e below (T.setTop g) target) ∨
    (∃ (q : Addr) (vm₁ : Vm) (B : Pt), s.WarmedH vm₁ ∧ Stand p l e R s m args below meth c B.U B.locs B.cells B.slots ∧ PostX ⟨T.setVm vm₁, locs, cells, slots⟩ (Value.ref b :: argsL).toArray q B ∧
      Steps p.tables e below (T.setTop g) ((B.U.setTop { g with stack := rest }).pushFrame (.throwing q))) := by
  obtain ⟨mk, methM, hnamed, hmethM, hstM, habM⟩ := Cond.instanceMethod_spec hinst
  obtain ⟨methM', cM, hmethM', -, -, -, -, -, -, hsigM⟩ := Cond.code_spec hnamed hcode
  cases hmethM.symm.trans hmethM'
  obtain ⟨c2, r2, m2, q1, q2, q3, q4, kP, hkP, hkPi⟩ := Cond.selects_spec hsel
  cases hcls.symm.trans q1
  cases (State.methodFound?_of_named hnamed hy).symm.trans q2
  cases hnamed.symm.trans q3
  have hselP : selectMethod e.platform s.vm cellB.cls mk = .method mk := by rw [Launch.admits_selectMethod X.admits]; exact q4
  obtain ⟨vm₁, X₁, hstep₁⟩ := X.invokevirtual hexec hown hlink hnamed hmethM hstM hkP hkPi hy (a := b) (cell := cellB) hcell
    (fun z h => by rw [h] at hobj; cases hobj) hselP hmethM habM hkP hkPi (g := g) hg (argsL := argsL) (rest := rest) (hlen _ hsigM) hstack hdg
  rcases hK m meth c ⟨T.setVm vm₁, locs, cells, slots⟩ { g with stack := rest } (.invokevirtual index) mk (Value.ref b :: argsL).toArray X₁ hg hsize hdg hW (X₁.named hnamed) (hpre vm₁ X₁.warmed) with ⟨v, B, X', hpost, hsteps⟩ | ⟨q, B, X', hpost, hsteps⟩
  · exact Or.inl ⟨v, vm₁, B, X₁.warmed, X', hpost, fun target h => hstep₁ _ fun acts => by rw [doInvoke_state]; exact hsteps.trans h⟩
  · exact Or.inr ⟨q, vm₁, B, X₁.warmed, X', hpost, hstep₁ _ fun acts => by rw [doInvoke_state]; exact hsteps⟩
theorem vx_callS (X : Stand p l e R s m args below meth c T locs cells slots) (hexec : p.tables.exec = Jvm.exec) {own : String} {index : Nat} {y : MethodName} {bytes : ByteArray} {maxL : Nat} {ret : Option FieldType}
    (hown : s.vm.findClass own = some m.cls) (hlink : (Cond.methodLink own index y).before args s = true) (hstat : (Cond.static y).before args s = true) (hinit : (Cond.initialized y.cls).before args s = true)
    (hcode : (Cond.code y bytes maxL ret).before args s = true) (hy : y.cls ≠ "java/lang/invoke/MethodHandle" ∧ y.cls ≠ "java/lang/invoke/VarHandle")
    {W9 : Nat} {Pre : Pt → Array Value → Prop} {Post : Pt → Array Value → Option Value → Pt → Prop} {PostX : Pt → Array Value → Addr → Pt → Prop} (hK : vx_Back l R p e below s args y 3 W9 Pre Post PostX)
    {g : JFrame} (hg : g.method = m) (hsize : g.locals.size = c.maxLocals) {argsL rest : List Value} (hlen : ∀ sig, parseMethodDescriptor y.desc = some sig → argsL.length = sig.parameters.length)
    (hstack : g.stack = argsL.reverse ++ rest) (hW : 2 * g.monitorRoom + (rest.map fun v => v.category).sum ≤ W9) (hdg : decode c.code g.pc = .ok (.invokestatic index, 3))
    (hpre : ∀ vm₁, s.WarmedH vm₁ → Pre ⟨T.setVm vm₁, locs, cells, slots⟩ argsL.toArray) :
    (∃ (v : Option Value) (vm₁ : Vm) (B : Pt), s.WarmedH vm₁ ∧ Stand p l e R s m args below meth c B.U B.locs B.cells B.slots ∧ Post ⟨T.setVm vm₁, locs, cells, slots⟩ argsL.toArray v B ∧
      ∀ target, Steps p.tables e below (B.U.setTop { g with pc := g.pc + 3, stack := v.toList ++ rest }) target → Steps p.tables e below (T.setTop g) target) ∨
    (∃ (q : Addr) (vm₁ : Vm) (B : Pt), s.WarmedH vm₁ ∧ Stand p l e R s m args below meth c B.U B.locs B.cells B.slots ∧ PostX ⟨T.setVm vm₁, locs, cells, slots⟩ argsL.toArray q B ∧
      Steps p.tables e below (T.setTop g) ((B.U.setTop { g with stack := rest }).pushFrame (.throwing q))) := by
  obtain ⟨mk, hnamed⟩ := Cond.code_named hcode
  obtain ⟨methM, cM, hmethM, -, -, -, -, -, -, hsigM⟩ := Cond.code_spec hnamed hcode
  have hstatic : methM.isStatic = true := Cond.static_spec hnamed hmethM hstat
  obtain ⟨kP, hkP, -⟩ := className_of_methodNamed hnamed
  have hinitP : kP.init = .initialized := Cond.initialized_spec (findClass_of_methodNamed hnamed) hkP hinit
  obtain ⟨vm₁, X₁, hstep₁⟩ := X.invokestatic hexec hown hlink hnamed hmethM hstatic hkP hinitP hy (g := g) hg (argsL := argsL) (rest := rest) (hlen _ hsigM) hstack hdg
  rcases hK m meth c ⟨T.setVm vm₁, locs, cells, slots⟩ { g with stack := rest } (.invokestatic index) mk argsL.toArray X₁ hg hsize hdg hW (X₁.named hnamed) (hpre vm₁ X₁.warmed) with ⟨v, B, X', hpost, hsteps⟩ | ⟨q, B, X', hpost, hsteps⟩
  · exact Or.inl ⟨v, vm₁, B, X₁.warmed, X', hpost, fun target h => hstep₁ _ fun acts => by rw [doInvoke_state]; exact hsteps.trans h⟩
  · exact Or.inr ⟨q, vm₁, B, X₁.warmed, X', hpost, hstep₁ _ fun acts => by rw [doInvoke_state]; exact hsteps⟩
end Calls
theorem vx_cls {s : State} {T : State} {vm₁ : Vm} {E : String} {k : ClassId} (hW : s.WarmedH vm₁) (h : (T.setVm vm₁).vm.findClass E = some k) : s.vm.findClass E = some k := by
  have h1 : vm₁.findClass E = some k := h
  rw [hW.alike.findClass] at h1
  exact h1
/-- the method's frame g, with q thrown over it -/
def vx_W (p : Program) (l : Launch) (e : Env) (R : Room) (s : State) (m : MethodId) (args : Array Value) (below : List Frame) (meth : Method) (c : Code) (H : Heap) (locs : List Loc) (cells slots : Nat) (Q : State → Prop) (g : JFrame) (q : Addr) : Prop :=
  ∀ T : State, T.heap = H → Stand p l e R s m args below meth c T locs cells slots → ∃ t, Steps p.tables e below ((T.setTop g).pushFrame (.throwing q)) t ∧ Q t
def vx_Run (p : Program) (l : Launch) (e : Env) (R : Room) (s : State) (m : MethodId) (args : Array Value) (below : List Frame) (meth : Method) (c : Code) (H : Heap) (locs : List Loc) (cells slots mc ms : Nat) (g : JFrame) (rest : List Value) (Qa : State → Outcome → State → Prop) (XC : String → State → State → Prop) (free : Addr → Prop) : Prop :=
  ∀ T : State, T.heap = H → Stand p l e R s m args below meth c T locs cells slots →
    (∃ (v : Option Value) (st₀ t T' : State) (L : List Loc), st₀.heap = H ∧ Stand p l e R s m args below meth c T' (locs ++ L) (cells + mc) (slots + ms) ∧ (∀ q ∈ L, free q.base) ∧ T'.heap = t.heap ∧ T'.vm = t.vm ∧ Qa st₀ (.returned v) t ∧
      Goes p e below T g T' { g with pc := g.pc + 3, stack := v.toList ++ rest }) ∨
    (∃ (q : Addr) (st₀ t T' : State) (L : List Loc) (E : String) (ce : Cell), st₀.heap = H ∧ Stand p l e R s m args below meth c T' (locs ++ L) (cells + mc) (slots + ms) ∧ (∀ z ∈ L, free z.base) ∧ T'.heap = t.heap ∧ T'.vm = t.vm ∧ XC E st₀ t ∧ t.heap[q]? = some ce ∧ ce.vm = .none ∧ s.vm.findClass E = some ce.cls ∧
      Steps p.tables e below (T.setTop g) ((T'.setTop { g with stack := rest }).pushFrame (.throwing q)))
def vx_X {S : Type} (px : S → Prop) (B : String → S → State → Prop) (A : Nat → Prop) : String → State → State → Prop := fun E st t => ∃ u : S, px u ∧ B E u t ∧ va_F A st t
section Runs
variable {p : Program} {l : Launch} {e : Env} {R : Room} {s : State} {m : MethodId} {args : Array Value} {below : List Frame} {meth : Method} {c : Code} {H : Heap} {locs : List Loc} {cells slots : Nat}
variable {y : MethodName} {bytes cc : ByteArray} {maxL nL mc ms n index : Nat} {ret : Option FieldType} {ws : List Cond} {rm : Room} {Pc : Array Value → State → Prop} {Qc : Array Value → State → Outcome → State → Prop} {XC : String → State → State → Prop} {free : Addr → Prop} {Ts : List Cond} {own C : String} {b : Addr} {As rest : List Value} {g : JFrame}
theorem vx_callBack (cb : CallB R s args own index y bytes maxL ret ws rm mc ms n) (hM : vx_Met l y ws rm Pc Qc XC mc ms free) (hbl : FrameBlind Pc) : vx_Back l R p e below s args y 3 8 (PreOf R mc ms Pc) (PostOf Qc mc ms free) (vx_Post XC mc ms free) := by
  obtain ⟨hrc, hrs, hfr, hlo, hws, hcw, -, hini, -⟩ := cb
  exact vx_back (bytes := bytes) (maxL := maxL) (ret := ret) hM hbl hrc hrs hfr hlo hws hcw (fun a' U hW => word_at hW (Or.inl (by first | rfl | simp [Cond.onTables, Cond.keeps, Cond.steady])) hini)
theorem vx_runV (S : CallFix p m c cc nL s args Ts own) (hM : vx_Met l y ws rm Pc Qc XC mc ms free) (cw : CallW R s args own C index y bytes maxL ret ws rm mc ms n) (hp : PreV s H C b Pc As)
    (hg : g.method = m) (hn : As.length = n) (hsize : g.locals.size = nL) (hstack : g.stack = As.reverse ++ .ref b :: rest) (hW : 2 * g.monitorRoom + (rest.map fun v => v.category).sum ≤ 8) (hdg : decode cc g.pc = .ok (.invokevirtual index, 3)) (hf : cells + mc ≤ R.cells ∧ slots + ms ≤ R.slots) :
    vx_Run p l e R s m args below meth c H locs cells slots mc ms g rest (Qc (Value.ref b :: As).toArray) XC free := by
  have hK : vx_Back l R p e below s args y 3 8 (PreOf R mc ms Pc) (PostOf Qc mc ms free) (vx_Post XC mc ms free) := vx_callBack cw.1 hM hp.1
  obtain ⟨⟨-, -, -, -, -, -, hcode, -, hy, hlen, hl⟩, hin, hse⟩ := cw
  obtain ⟨hx, hb, hml, ho, -⟩ := S
  obtain ⟨-, ⟨cellB, hcB, hoB, hclB⟩, hPc⟩ := hp
  intro T hT X
  rcases vx_callV X hx (C := C) (bytes := bytes) (maxL := maxL) (ret := ret) ho hl hin hse hcode hy hK (by rw [hT]; exact hcB) hoB hclB hg (hsize.trans hml.symm) (argsL := As) (rest := rest) (fun sig h => hn.trans (hlen sig h)) hstack hW (by rw [hb]; exact hdg)
    (fun vm₁ hW₁ => ⟨hf.1, hf.2, hPc (T.setVm vm₁) hT hW₁⟩) with ⟨v, vm₁, ⟨U', l2, c2, s2⟩, hW₁, X', ⟨g', mk, t, L, e1, e2, hq, h1, hL, h2, h3⟩, st⟩ | ⟨q, vm₁, ⟨U', l2, c2, s2⟩, hW₁, X', ⟨g', mk, t, L, E, ce, e1, e2, hq, hce, hcv, hcl, h1, hL, h2, h3⟩, st⟩
  · dsimp only [Pt.U, Pt.locs, Pt.cells, Pt.slots] at X' e1 e2 h1 h2 h3 st
    subst h1; subst h2; subst h3
    exact Or.inl ⟨v, (T.setVm vm₁).calling g' mk (Value.ref b :: As).toArray, t, U', L, hT, X', hL, e1, e2, hq, st⟩
  · dsimp only [Pt.U, Pt.locs, Pt.cells, Pt.slots] at X' e1 e2 h1 h2 h3 st hcl
    subst h1; subst h2; subst h3
    exact Or.inr ⟨q, (T.setVm vm₁).calling g' mk (Value.ref b :: As).toArray, t, U', L, E, ce, hT, X', hL, e1, e2, hq, hce, hcv, vx_cls hW₁ hcl, st⟩
theorem vx_runS (S : CallFix p m c cc nL s args Ts own) (hM : vx_Met l y ws rm Pc Qc XC mc ms free) (cw : CallB R s args own index y bytes maxL ret ws rm mc ms n ∧ (Cond.static y).before args s = true) (hp : PreS s H Pc As)
    (hg : g.method = m) (hn : As.length = n) (hsize : g.locals.size = nL) (hstack : g.stack = As.reverse ++ rest) (hW : 2 * g.monitorRoom + (rest.map fun v => v.category).sum ≤ 8) (hdg : decode cc g.pc = .ok (.invokestatic index, 3)) (hf : cells + mc ≤ R.cells ∧ slots + ms ≤ R.slots) :
    vx_Run p l e R s m args below meth c H locs cells slots mc ms g rest (Qc As.toArray) XC free := by
  have hK : vx_Back l R p e below s args y 3 8 (PreOf R mc ms Pc) (PostOf Qc mc ms free) (vx_Post XC mc ms free) := vx_callBack cw.1 hM hp.1
  obtain ⟨⟨-, -, -, -, -, -, hcode, hini, hy, hlen, hl⟩, hstt⟩ := cw
  obtain ⟨hx, hb, hml, ho, -⟩ := S
  intro T hT X
  rcases vx_callS X hx (bytes := bytes) (maxL := maxL) (ret := ret) ho hl hstt hini hcode hy hK hg (hsize.trans hml.symm) (argsL := As) (rest := rest) (fun sig h => hn.trans (hlen sig h)) hstack hW (by rw [hb]; exact hdg)
    (fun vm₁ hW₁ => ⟨hf.1, hf.2, hp.2 (T.setVm vm₁) hT hW₁⟩) with ⟨v, vm₁, ⟨U', l2, c2, s2⟩, hW₁, X', ⟨g', mk, t, L, e1, e2, hq, h1, hL, h2, h3⟩, st⟩ | ⟨q, vm₁, ⟨U', l2, c2, s2⟩, hW₁, X', ⟨g', mk, t, L, E, ce, e1, e2, hq, hce, hcv, hcl, h1, hL, h2, h3⟩, st⟩
  · dsimp only [Pt.U, Pt.locs, Pt.cells, Pt.slots] at X' e1 e2 h1 h2 h3 st
    subst h1; subst h2; subst h3
    exact Or.inl ⟨v, (T.setVm vm₁).calling g' mk As.toArray, t, U', L, hT, X', hL, e1, e2, hq, st⟩
  · dsimp only [Pt.U, Pt.locs, Pt.cells, Pt.slots] at X' e1 e2 h1 h2 h3 st hcl
    subst h1; subst h2; subst h3
    exact Or.inr ⟨q, (T.setVm vm₁).calling g' mk As.toArray, t, U', L, E, ce, hT, X', hL, e1, e2, hq, hce, hcv, vx_cls hW₁ hcl, st⟩
end Runs
section Rows
variable {p : Program} {l : Launch} {e : Env} {R : Room} {s : State} {m : MethodId} {args : Array Value} {below : List Frame} {meth : Method} {c : Code} {H : Heap} {locs : List Loc} {cells slots : Nat} {Q : State → Prop}
variable {mc ms : Nat} {free : Addr → Prop} {A0 A1 : Nat → Prop} {H0 : Heap} {a : Array Value} {pc : Nat} {ls : Array Slot} {st0 rest : List Value}
theorem vx_keep {st₀ t T' : State} {L : List Loc} (h0 : st₀.heap = H) (e1 : T'.heap = t.heap) (hS : va_S A0 H0 H locs) (hA : ∀ q, q < H.size → A1 q → A0 q) (hf : ∀ q, free q → A0 q) (hL : ∀ q ∈ L, free q.base) (hF : va_F A1 st₀ t) :
    H.size ≤ T'.heap.size ∧ (∀ q : Nat, q < H.size → ¬ A1 q → T'.heap[q]? = H[q]?) ∧ va_S A0 H0 T'.heap (locs ++ L) := by
  obtain ⟨hz, hk⟩ := hF
  rw [h0] at hz hk
  exact ⟨by rw [e1]; exact hz, fun q h1 h2 => by rw [e1]; exact hk q h1 h2,
    ⟨Nat.le_trans hS.1 (by rw [e1]; exact hz), fun q h1 h2 => by rw [e1, hk q (Nat.lt_of_lt_of_le h1 hS.1) (fun z => h2 (hA q (Nat.lt_of_lt_of_le h1 hS.1) z))]; exact hS.2.1 q h1 h2, fun q hq => by
      rcases List.mem_append.mp hq with h | h
      · exact hS.2.2 q h
      · exact hf _ (hL q h)⟩⟩
theorem vx_calli {S SX : Type} {post : Int32 → S → Prop} {px : SX → Prop} {B : S → State → Prop} {BX : String → SX → State → Prop} {AX : Nat → Prop} (hr : vx_Run p l e R s m args below meth c H locs cells slots mc ms (F0 m pc ls st0) rest (va_Qi post B A1 a) (vx_X px BX AX) free) (hS : va_S A0 H0 H locs) (hA : ∀ q, q < H.size → A1 q → A0 q) (hf : ∀ q, free q → A0 q) (hAX : ∀ q, q < H.size → AX q → A0 q)
    (kx : ∀ (E : String) (ce : Cell) (q9 : Addr) (u : SX) (t : State) (H1 : Heap) (locs1 : List Loc), t.heap = H1 → s.vm.Alike t.vm → px u → BX E u t → H.size ≤ H1.size → (∀ q : Nat, q < H.size → ¬ AX q → H1[q]? = H[q]?) → va_S A0 H0 H1 locs1 → H1[q9]? = some ce → ce.vm = .none → s.vm.findClass E = some ce.cls → vx_W p l e R s m args below meth c H1 locs1 (cells + mc) (slots + ms) Q (F0 m pc ls rest) q9)
    (kk : ∀ (r : Int32) (u : S) (t : State) (H1 : Heap) (locs1 : List Loc), t.heap = H1 → s.vm.Alike t.vm → post r u → B u t → H.size ≤ H1.size → (∀ q : Nat, q < H.size → ¬ A1 q → H1[q]? = H[q]?) → va_S A0 H0 H1 locs1 → W p l e R s m args below meth c H1 locs1 (cells + mc) (slots + ms) Q (F0 m (pc + 3) ls (.int r :: rest))) : W p l e R s m args below meth c H locs cells slots Q (F0 m pc ls st0) := by
  intro T hT X
  rcases hr T hT X with ⟨v, st₀, t, T', L, h0, X', hL, e1, e2, ⟨⟨r, u, hv, hp, hb⟩, hF⟩, st⟩ | ⟨q, st₀, t, T', L, E, ce, h0, X', hL, e1, e2, ⟨u, hp, hb, hF⟩, hce, hcv, hcl, st⟩
  · cases hv
    obtain ⟨k1, k2, k3⟩ := vx_keep h0 e1 hS hA hf hL hF
    obtain ⟨t2, a1, b1⟩ := kk r u t T'.heap (locs ++ L) e1.symm (by rw [← e2]; exact X'.warmed.alike) hp hb k1 k2 k3 T' rfl X'
    exact ⟨t2, st t2 a1, b1⟩
  · obtain ⟨k1, k2, k3⟩ := vx_keep h0 e1 hS hAX hf hL hF
    obtain ⟨t2, a1, b1⟩ := kx E ce q u t T'.heap (locs ++ L) e1.symm (by rw [← e2]; exact X'.warmed.alike) hp hb k1 k2 k3 (by rw [e1]; exact hce) hcv hcl T' rfl X'
    exact ⟨t2, st.trans a1, b1⟩
theorem vx_calll {S SX : Type} {post : Int64 → S → Prop} {px : SX → Prop} {B : S → State → Prop} {BX : String → SX → State → Prop} {AX : Nat → Prop} (hr : vx_Run p l e R s m args below meth c H locs cells slots mc ms (F0 m pc ls st0) rest (va_Ql post B A1 a) (vx_X px BX AX) free) (hS : va_S A0 H0 H locs) (hA : ∀ q, q < H.size → A1 q → A0 q) (hf : ∀ q, free q → A0 q) (hAX : ∀ q, q < H.size → AX q → A0 q)
    (kx : ∀ (E : String) (ce : Cell) (q9 : Addr) (u : SX) (t : State) (H1 : Heap) (locs1 : List Loc), t.heap = H1 → s.vm.Alike t.vm → px u → BX E u t → H.size ≤ H1.size → (∀ q : Nat, q < H.size → ¬ AX q → H1[q]? = H[q]?) → va_S A0 H0 H1 locs1 → H1[q9]? = some ce → ce.vm = .none → s.vm.findClass E = some ce.cls → vx_W p l e R s m args below meth c H1 locs1 (cells + mc) (slots + ms) Q (F0 m pc ls rest) q9)
    (kk : ∀ (r : Int64) (u : S) (t : State) (H1 : Heap) (locs1 : List Loc), t.heap = H1 → s.vm.Alike t.vm → post r u → B u t → H.size ≤ H1.size → (∀ q : Nat, q < H.size → ¬ A1 q → H1[q]? = H[q]?) → va_S A0 H0 H1 locs1 → W p l e R s m args below meth c H1 locs1 (cells + mc) (slots + ms) Q (F0 m (pc + 3) ls (.long r :: rest))) : W p l e R s m args below meth c H locs cells slots Q (F0 m pc ls st0) := by
  intro T hT X
  rcases hr T hT X with ⟨v, st₀, t, T', L, h0, X', hL, e1, e2, ⟨⟨r, u, hv, hp, hb⟩, hF⟩, st⟩ | ⟨q, st₀, t, T', L, E, ce, h0, X', hL, e1, e2, ⟨u, hp, hb, hF⟩, hce, hcv, hcl, st⟩
  · cases hv
    obtain ⟨k1, k2, k3⟩ := vx_keep h0 e1 hS hA hf hL hF
    obtain ⟨t2, a1, b1⟩ := kk r u t T'.heap (locs ++ L) e1.symm (by rw [← e2]; exact X'.warmed.alike) hp hb k1 k2 k3 T' rfl X'
    exact ⟨t2, st t2 a1, b1⟩
  · obtain ⟨k1, k2, k3⟩ := vx_keep h0 e1 hS hAX hf hL hF
    obtain ⟨t2, a1, b1⟩ := kx E ce q u t T'.heap (locs ++ L) e1.symm (by rw [← e2]; exact X'.warmed.alike) hp hb k1 k2 k3 (by rw [e1]; exact hce) hcv hcl T' rfl X'
    exact ⟨t2, st.trans a1, b1⟩
theorem vx_callf {S SX : Type} {post : UInt32 → S → Prop} {px : SX → Prop} {B : S → State → Prop} {BX : String → SX → State → Prop} {AX : Nat → Prop} (hr : vx_Run p l e R s m args below meth c H locs cells slots mc ms (F0 m pc ls st0) rest (va_Qf post B A1 a) (vx_X px BX AX) free) (hS : va_S A0 H0 H locs) (hA : ∀ q, q < H.size → A1 q → A0 q) (hf : ∀ q, free q → A0 q) (hAX : ∀ q, q < H.size → AX q → A0 q)
    (kx : ∀ (E : String) (ce : Cell) (q9 : Addr) (u : SX) (t : State) (H1 : Heap) (locs1 : List Loc), t.heap = H1 → s.vm.Alike t.vm → px u → BX E u t → H.size ≤ H1.size → (∀ q : Nat, q < H.size → ¬ AX q → H1[q]? = H[q]?) → va_S A0 H0 H1 locs1 → H1[q9]? = some ce → ce.vm = .none → s.vm.findClass E = some ce.cls → vx_W p l e R s m args below meth c H1 locs1 (cells + mc) (slots + ms) Q (F0 m pc ls rest) q9)
    (kk : ∀ (r : UInt32) (u : S) (t : State) (H1 : Heap) (locs1 : List Loc), t.heap = H1 → s.vm.Alike t.vm → post r u → B u t → H.size ≤ H1.size → (∀ q : Nat, q < H.size → ¬ A1 q → H1[q]? = H[q]?) → va_S A0 H0 H1 locs1 → W p l e R s m args below meth c H1 locs1 (cells + mc) (slots + ms) Q (F0 m (pc + 3) ls (.float r :: rest))) : W p l e R s m args below meth c H locs cells slots Q (F0 m pc ls st0) := by
  intro T hT X
  rcases hr T hT X with ⟨v, st₀, t, T', L, h0, X', hL, e1, e2, ⟨⟨r, u, hv, hp, hb⟩, hF⟩, st⟩ | ⟨q, st₀, t, T', L, E, ce, h0, X', hL, e1, e2, ⟨u, hp, hb, hF⟩, hce, hcv, hcl, st⟩
  · cases hv
    obtain ⟨k1, k2, k3⟩ := vx_keep h0 e1 hS hA hf hL hF
    obtain ⟨t2, a1, b1⟩ := kk r u t T'.heap (locs ++ L) e1.symm (by rw [← e2]; exact X'.warmed.alike) hp hb k1 k2 k3 T' rfl X'
    exact ⟨t2, st t2 a1, b1⟩
  · obtain ⟨k1, k2, k3⟩ := vx_keep h0 e1 hS hAX hf hL hF
    obtain ⟨t2, a1, b1⟩ := kx E ce q u t T'.heap (locs ++ L) e1.symm (by rw [← e2]; exact X'.warmed.alike) hp hb k1 k2 k3 (by rw [e1]; exact hce) hcv hcl T' rfl X'
    exact ⟨t2, st.trans a1, b1⟩
theorem vx_calld {S SX : Type} {post : UInt64 → S → Prop} {px : SX → Prop} {B : S → State → Prop} {BX : String → SX → State → Prop} {AX : Nat → Prop} (hr : vx_Run p l e R s m args below meth c H locs cells slots mc ms (F0 m pc ls st0) rest (va_Qd post B A1 a) (vx_X px BX AX) free) (hS : va_S A0 H0 H locs) (hA : ∀ q, q < H.size → A1 q → A0 q) (hf : ∀ q, free q → A0 q) (hAX : ∀ q, q < H.size → AX q → A0 q)
    (kx : ∀ (E : String) (ce : Cell) (q9 : Addr) (u : SX) (t : State) (H1 : Heap) (locs1 : List Loc), t.heap = H1 → s.vm.Alike t.vm → px u → BX E u t → H.size ≤ H1.size → (∀ q : Nat, q < H.size → ¬ AX q → H1[q]? = H[q]?) → va_S A0 H0 H1 locs1 → H1[q9]? = some ce → ce.vm = .none → s.vm.findClass E = some ce.cls → vx_W p l e R s m args below meth c H1 locs1 (cells + mc) (slots + ms) Q (F0 m pc ls rest) q9)
    (kk : ∀ (r : UInt64) (u : S) (t : State) (H1 : Heap) (locs1 : List Loc), t.heap = H1 → s.vm.Alike t.vm → post r u → B u t → H.size ≤ H1.size → (∀ q : Nat, q < H.size → ¬ A1 q → H1[q]? = H[q]?) → va_S A0 H0 H1 locs1 → W p l e R s m args below meth c H1 locs1 (cells + mc) (slots + ms) Q (F0 m (pc + 3) ls (.double r :: rest))) : W p l e R s m args below meth c H locs cells slots Q (F0 m pc ls st0) := by
  intro T hT X
  rcases hr T hT X with ⟨v, st₀, t, T', L, h0, X', hL, e1, e2, ⟨⟨r, u, hv, hp, hb⟩, hF⟩, st⟩ | ⟨q, st₀, t, T', L, E, ce, h0, X', hL, e1, e2, ⟨u, hp, hb, hF⟩, hce, hcv, hcl, st⟩
  · cases hv
    obtain ⟨k1, k2, k3⟩ := vx_keep h0 e1 hS hA hf hL hF
    obtain ⟨t2, a1, b1⟩ := kk r u t T'.heap (locs ++ L) e1.symm (by rw [← e2]; exact X'.warmed.alike) hp hb k1 k2 k3 T' rfl X'
    exact ⟨t2, st t2 a1, b1⟩
  · obtain ⟨k1, k2, k3⟩ := vx_keep h0 e1 hS hAX hf hL hF
    obtain ⟨t2, a1, b1⟩ := kx E ce q u t T'.heap (locs ++ L) e1.symm (by rw [← e2]; exact X'.warmed.alike) hp hb k1 k2 k3 (by rw [e1]; exact hce) hcv hcl T' rfl X'
    exact ⟨t2, st.trans a1, b1⟩
theorem vx_callv {S SX : Type} {post : S → Prop} {px : SX → Prop} {B : S → State → Prop} {BX : String → SX → State → Prop} {AX : Nat → Prop} (hr : vx_Run p l e R s m args below meth c H locs cells slots mc ms (F0 m pc ls st0) rest (va_Qv post B A1 a) (vx_X px BX AX) free) (hS : va_S A0 H0 H locs) (hA : ∀ q, q < H.size → A1 q → A0 q) (hf : ∀ q, free q → A0 q) (hAX : ∀ q, q < H.size → AX q → A0 q)
    (kx : ∀ (E : String) (ce : Cell) (q9 : Addr) (u : SX) (t : State) (H1 : Heap) (locs1 : List Loc), t.heap = H1 → s.vm.Alike t.vm → px u → BX E u t → H.size ≤ H1.size → (∀ q : Nat, q < H.size → ¬ AX q → H1[q]? = H[q]?) → va_S A0 H0 H1 locs1 → H1[q9]? = some ce → ce.vm = .none → s.vm.findClass E = some ce.cls → vx_W p l e R s m args below meth c H1 locs1 (cells + mc) (slots + ms) Q (F0 m pc ls rest) q9)
    (kk : ∀ (u : S) (t : State) (H1 : Heap) (locs1 : List Loc), t.heap = H1 → s.vm.Alike t.vm → post u → B u t → H.size ≤ H1.size → (∀ q : Nat, q < H.size → ¬ A1 q → H1[q]? = H[q]?) → va_S A0 H0 H1 locs1 → W p l e R s m args below meth c H1 locs1 (cells + mc) (slots + ms) Q (F0 m (pc + 3) ls (rest))) : W p l e R s m args below meth c H locs cells slots Q (F0 m pc ls st0) := by
  intro T hT X
  rcases hr T hT X with ⟨v, st₀, t, T', L, h0, X', hL, e1, e2, ⟨⟨u, hv, hp, hb⟩, hF⟩, st⟩ | ⟨q, st₀, t, T', L, E, ce, h0, X', hL, e1, e2, ⟨u, hp, hb, hF⟩, hce, hcv, hcl, st⟩
  · cases hv
    obtain ⟨k1, k2, k3⟩ := vx_keep h0 e1 hS hA hf hL hF
    obtain ⟨t2, a1, b1⟩ := kk u t T'.heap (locs ++ L) e1.symm (by rw [← e2]; exact X'.warmed.alike) hp hb k1 k2 k3 T' rfl X'
    exact ⟨t2, st t2 a1, b1⟩
  · obtain ⟨k1, k2, k3⟩ := vx_keep h0 e1 hS hAX hf hL hF
    obtain ⟨t2, a1, b1⟩ := kx E ce q u t T'.heap (locs ++ L) e1.symm (by rw [← e2]; exact X'.warmed.alike) hp hb k1 k2 k3 (by rw [e1]; exact hce) hcv hcl T' rfl X'
    exact ⟨t2, st.trans a1, b1⟩
/-- caught by the row x of this method's table; the rows ahead don't take it -/
theorem vx_catch {own name : String} {E : String} {ce : Cell} {q : Addr} (hown : s.vm.findClass own = some m.cls) (pre : List ExceptionTableEntry) (x : ExceptionTableEntry) (suf : List ExceptionTableEntry) (hsplit : c.exceptionTable.toList = pre ++ x :: suf)
    (hpass : ∀ z ∈ pre, covers z pc = false ∨ (z.catchType ≠ 0 ∧ ∃ nm : String, (Cond.classLink own z.catchType nm).before args s = true ∧ va_Nc E nm s)) (hx : covers x pc = true) (h0 : x.catchType ≠ 0)
    (hlink : (Cond.classLink own x.catchType name).before args s = true) (hcast : (Cond.castable E name).before args s = true) (hcell : H[q]? = some ce) (hv : ce.vm = .none) (hcl : s.vm.findClass E = some ce.cls)
    (kk : W p l e R s m args below meth c H locs cells slots Q (F0 m x.handlerPc ls [.ref q])) : vx_W p l e R s m args below meth c H locs cells slots Q (F0 m pc ls rest) q := by
  intro T hT X
  have hpl : e.platform.magicAccessors = ({} : Platform).magicAccessors := by rw [X.admits.platform]
  obtain ⟨c3, c4, hc3, hc4, hasg⟩ := Cond.castable_spec hcast
  cases Option.some.inj (hc3.symm.trans hcl)
  obtain ⟨c5, hc5, hcl5⟩ := Cond.classLink_spec hown hlink e.platform hpl
  cases Option.some.inj (hc4.symm.trans hc5)
  obtain ⟨vm', X', st⟩ := X.thenCaughtThrough q (g := F0 m pc ls rest) rfl (Steps.refl _) (by rw [hT]; exact hcell) (by rw [hv]; rfl) (by obtain ⟨k9, h9, -⟩ := Vm.findClass_spec hcl; exact ⟨k9, h9⟩) pre x suf hsplit
    (fun z hz => by
      rcases hpass z hz with h | ⟨hz0, nm, hl1, hn1⟩
      · exact Or.inl h
      · obtain ⟨c6, hc6, hcl6⟩ := Cond.classLink_spec hown hl1 e.platform hpl
        obtain ⟨a8, b8, h1, h2, h3⟩ := hn1
        cases Option.some.inj (h1.symm.trans hcl)
        cases Option.some.inj (h2.symm.trans hc6)
        exact Or.inr ⟨hz0, _, hcl6, h3⟩) hx (Or.inr ⟨h0, c4, hcl5, hasg⟩)
  obtain ⟨t, a1, b1⟩ := kk (T.setVm vm') hT X'
  exact ⟨t, st.trans a1, b1⟩
end Rows
section Ends
variable {p : Program} {l : Launch} {e : Env} {R : Room} {s : State} {m : MethodId} {args : Array Value} {below : List Frame} {meth : Method} {c : Code} {H : Heap} {locs : List Loc} {cells slots : Nat} {Q : State → Prop}
variable {mc ms : Nat} {free : Addr → Prop} {A0 A1 : Nat → Prop} {H0 : Heap} {a : Array Value} {ls : Array Slot} {st0 rest : List Value}
variable {Qc : Array Value → State → Outcome → State → Prop} {XC : String → State → State → Prop}
/-- what a body that may throw owes at its end -/
def vx_MQ (below : List Frame) (Qc : Array Value → State → Outcome → State → Prop) (XC : String → State → State → Prop) (a : Array Value) (s : State) (mc ms : Nat) (free : Addr → Prop) : State → Prop := fun t =>
  ∃ o, t.status = .running ∧ Ended t below o ∧ vx_Q Qc XC mc ms free a s o t
theorem vx_ret {g : JFrame} {mc ms : Nat} (k : W p l e R s m args below meth c H locs cells slots (MQ below Qc args s mc ms free) g) : W p l e R s m args below meth c H locs cells slots (vx_MQ below Qc XC args s mc ms free) g := by
  intro T hT X
  obtain ⟨t, a1, o, b1, b2, b3, b4⟩ := k T hT X
  exact ⟨t, a1, o, b1, b2, Or.inl ⟨b3, b4⟩⟩
/-- not caught here: it goes on to the caller -/
theorem vx_widen {g : JFrame} {q : Addr} {k n : Nat} (h1 : cells ≤ k) (h2 : slots ≤ n) (kk : vx_W p l e R s m args below meth c H locs k n Q g q) : vx_W p l e R s m args below meth c H locs cells slots Q g q := fun T hT X => kk T hT (stand_widen X h1 h2)
theorem vx_out {pc : Nat} {E : String} {ce : Cell} {q : Addr} {mc ms : Nat} (hout : ∀ x ∈ c.exceptionTable.toList, covers x pc = false) (hlocks : meth.locks = false) (hcell : H[q]? = some ce) (hv : ce.vm = .none) (hcl : s.vm.findClass E = some ce.cls)
    (hx : ∀ t : State, t.heap = H → s.vm.Alike t.vm → XC E s t) (hf : ∀ z ∈ locs, free z.base) (hc : cells ≤ mc) (hs : slots ≤ ms) :
    vx_W p l e R s m args below meth c H locs cells slots (vx_MQ below Qc XC args s mc ms free) (F0 m pc ls rest) q := by
  intro T hT X
  obtain ⟨st1, hrun, hend, hW, hsm⟩ := X.leaveThrown q (g := F0 m pc ls rest) rfl rfl rfl hout hlocks
  have hcell9 : (T.setFrames (.throwing q :: below)).heap[q]? = some ce := by
    show T.heap[q]? = some ce
    rw [hT]; exact hcell
  exact ⟨_, st1, .threw q, hrun, hend, Or.inr ⟨q, rfl, E, ce, locs, hx _ hT hW.alike, hcell9, hv, hcl, hW, hsm.mono hc hs, hf⟩⟩
theorem vx_frame {U : State} {k n : Nat} (h : s.sameButNew ({ U with vm := s.vm } : State) locs k n) : s.heap.size ≤ U.heap.size ∧ ∀ q : Nat, q < s.heap.size → (∀ z ∈ locs, z.base ≠ q) → U.heap[q]? = s.heap[q]? := by
  obtain ⟨-, h2, -, -, -, h6⟩ := h
  refine ⟨h2, fun q hq hz => ?_⟩
  obtain ⟨c9, e1, e2, e3, e4⟩ := h6 q _ (Array.getElem?_eq_getElem hq)
  have hs : c9.slots = (s.heap[q]).slots := Array.ext_getElem? fun i => e4 i fun hm => hz _ hm rfl
  have h9 : c9 = s.heap[q] := by
    rw [hs] at e2
    exact e2
  have e5 : U.heap[q]? = some c9 := e1
  rw [e5, h9, Array.getElem?_eq_getElem hq]
/-- the words of a throw but the four that speak of the heap -/
def vx_no (w : Cond) : Bool := decide (w ≠ .isRef (.static Bundle.tN "UNASSIGNED_STACK" Bundle.steD)) && decide (w ≠ .isRef (.static Bundle.tN "SUPPRESSED_SENTINEL" Bundle.listD)) && decide (w ≠ .laysStatic Bundle.tN "UNASSIGNED_STACK" Bundle.steD) && decide (w ≠ .laysStatic Bundle.tN "SUPPRESSED_SENTINEL" Bundle.listD)
def vx_at0 (own : String) (ic : Nat) (X : String) (names : List String) : List Cond := (Bundle.ownAtoms0 own ic X names).filter vx_no
def vx_atS (own : String) (ic : Nat) (X : String) (names : List String) : List Cond := (Bundle.ownAtoms own ic X names).filter vx_no
/-- a word that the tables alone decide, or a good one -/
def vx_ot (w : Cond) : Bool := w.onTables || goodWord w
theorem vx_ot_at {args a' : Array Value} {s U : State} {w : Cond} (hW : s.WarmedH U.vm) (hvm : s.vm = U.vm) (hg : vx_ot w = true) (h : w.before args s = true) : w.before a' U = true := by
  simp only [vx_ot, Bool.or_eq_true] at hg
  rcases hg with hg | hg
  · exact va_tabs hg hvm h
  · exact word_at hW (good_of_word hg) h
/-- a list's words: the good ones out of the method's own list, the others by premises of their own -/
theorem vx_hat {args : Array Value} {s : State} {L B : List Cond} (h1 : ∀ w ∈ L.filter goodWord, w.before args s = true) (h2 : ∀ w ∈ L.filter (fun w => !goodWord w), w ∈ B) (h3 : ∀ w ∈ B, w.before args s = true) : ∀ w ∈ L, w.before args s = true := by
  intro w hw
  by_cases g : goodWord w = true
  · exact h1 w (List.mem_filter.mpr ⟨hw, g⟩)
  · refine h3 w (h2 w (List.mem_filter.mpr ⟨hw, ?_⟩))
    show (!goodWord w) = true
    cases hgw : goodWord w
    · rfl
    · exact absurd hgw g
theorem vx_c {args : Array Value} {s : State} {w : Cond} {B : List Cond} (h : w.before args s = true) (t : ∀ w ∈ B, w.before args s = true) : ∀ w' ∈ w :: B, w'.before args s = true := fun w' h' => (List.mem_cons.mp h').elim (fun e => by rw [e]; exact h) (t w')
theorem vx_n {args : Array Value} {s : State} : ∀ w ∈ ([] : List Cond), w.before args s = true := fun _ h => nomatch h
theorem vx_own {args : Array Value} {s : State} {L : List Cond} (h1 : ∀ w ∈ L.filter vx_no, w.before args s = true)
    (hU : (Cond.isRef (.static Bundle.tN "UNASSIGNED_STACK" Bundle.steD)).before args s = true) (hN : (Cond.isRef (.static Bundle.tN "SUPPRESSED_SENTINEL" Bundle.listD)).before args s = true)
    (lU : (Cond.laysStatic Bundle.tN "UNASSIGNED_STACK" Bundle.steD).before args s = true) (lN : (Cond.laysStatic Bundle.tN "SUPPRESSED_SENTINEL" Bundle.listD).before args s = true) : ∀ w ∈ L, w.before args s = true := by
  intro w hw
  by_cases e1 : w = .isRef (.static Bundle.tN "UNASSIGNED_STACK" Bundle.steD)
  · rw [e1]; exact hU
  · by_cases e2 : w = .isRef (.static Bundle.tN "SUPPRESSED_SENTINEL" Bundle.listD)
    · rw [e2]; exact hN
    · by_cases e3 : w = .laysStatic Bundle.tN "UNASSIGNED_STACK" Bundle.steD
      · rw [e3]; exact lU
      · by_cases e4 : w = .laysStatic Bundle.tN "SUPPRESSED_SENTINEL" Bundle.listD
        · rw [e4]; exact lN
        · exact h1 w (List.mem_filter.mpr ⟨hw, by unfold vx_no; rw [decide_eq_true e1, decide_eq_true e2, decide_eq_true e3, decide_eq_true e4]; rfl⟩)
/-- where a static field lies, its class's statics cell in H -/
def vx_L (C n d : String) (A : Nat → Prop) (U : State) (H : Heap) : Prop := ∃ (c : ClassId) (k : Class) (i : Nat) (f : Field) (a : Nat) (cell : Cell), U.vm.findClass C = some c ∧ U.fieldFound? C n d = some (c, k, i, f) ∧ f.isStatic = true ∧ k.statics = some a ∧ H[a]? = some cell ∧ cell.vm.isStatics = true ∧ cell.cls = c ∧ f.slot < cell.slots.size ∧ k.staticTypes[f.slot]? = some f.type ∧ ¬ A a
theorem vx_L.moved {C n d : String} {A : Nat → Prop} {u U : State} {H : Heap} (hvm : u.vm.Alike U.vm) (h : vx_L C n d A u H) : vx_L C n d A U H := by
  obtain ⟨c, k, i, f, a, cell, h1, h2, h3, h4, h5, h6, h7, h8, h9, h10⟩ := h
  obtain ⟨k', hi', he⟩ := State.fieldFound?_setVm hvm h2
  exact ⟨c, k', i, f, a, cell, by rw [hvm.findClass]; exact h1, hi', h3, by rw [he]; exact h4, h5, h6, h7, h8, by rw [he]; exact h9, h10⟩
theorem vx_L.kept {C n d : String} {A : Nat → Prop} {U : State} {H H1 : Heap} (h : vx_L C n d A U H) (hq : ∀ a : Nat, a < H.size → ¬ A a → H1[a]? = H[a]?) : vx_L C n d A U H1 := by
  obtain ⟨c, k, i, f, a, cell, h1, h2, h3, h4, h5, h6, h7, h8, h9, h10⟩ := h
  exact ⟨c, k, i, f, a, cell, h1, h2, h3, h4, by rw [hq a (Array.getElem?_eq_some_iff.mp h5).1 h10]; exact h5, h6, h7, h8, h9, h10⟩
theorem vx_L.narrow {C n d : String} {A B : Nat → Prop} {U : State} {H : Heap} (h : vx_L C n d A U H) (hAB : ∀ q, B q → A q) : vx_L C n d B U H := by
  obtain ⟨c, k, i, f, a, cell, h1, h2, h3, h4, h5, h6, h7, h8, h9, h10⟩ := h
  exact ⟨c, k, i, f, a, cell, h1, h2, h3, h4, h5, h6, h7, h8, h9, fun z => h10 (hAB _ z)⟩
theorem vx_L.word {C n d : String} {A : Nat → Prop} {s : State} {args : Array Value} (h : vx_L C n d A s s.heap) : (Cond.laysStatic C n d).before args s = true := by
  obtain ⟨c, k, i, f, a, cell, h1, h2, h3, h4, h5, h6, h7, h8, h9, -⟩ := h
  show (Cond.laysStatic C n d).holds args s none s [] = true
  exact Cond.laysStatic_of h1 h2 h3 h4 h5 h6 h7 h8 h9
/-- .. and what it holds: null or some reference -/
def vx_Zq (C n d : String) (A : Nat → Prop) (U : State) (H : Heap) : Prop := va_Zq C n d A U H ∧ vx_L C n d A U H
theorem vx_Zq.moved {C n d : String} {A : Nat → Prop} {u U : State} {H : Heap} (hvm : u.vm.Alike U.vm) (h : vx_Zq C n d A u H) : vx_Zq C n d A U H := ⟨va_Zq.moved hvm h.1, vx_L.moved hvm h.2⟩
theorem vx_Zq.kept {C n d : String} {A : Nat → Prop} {U : State} {H H1 : Heap} (h : vx_Zq C n d A U H) (hq : ∀ a : Nat, a < H.size → ¬ A a → H1[a]? = H[a]?) : vx_Zq C n d A U H1 := ⟨va_Zq.kept h.1 hq, vx_L.kept h.2 hq⟩
theorem vx_Zq.narrow {C n d : String} {A B : Nat → Prop} {U : State} {H : Heap} (h : vx_Zq C n d A U H) (hAB : ∀ q, B q → A q) : vx_Zq C n d B U H := ⟨va_Zq.narrow h.1 hAB, vx_L.narrow h.2 hAB⟩
theorem vx_Zqof {args : Array Value} {s : State} {C n d : String} {A : Nat → Prop} (hl : (Cond.laysStatic C n d).before args s = true) (hini : (Cond.initialized C).before args s = true) (h : (Cond.isRef (.static C n d)).before args s = true) (hA : ∀ a : Nat, a < s.heap.size → ¬ A a) : vx_Zq C n d A s s.heap := by
  refine ⟨va_Zqof hl hini h hA, ?_⟩
  obtain ⟨c, k, i, f, a, cell, h1, h2, h3, h4, h5, h6, h7, h8, h9⟩ := Cond.laysStatic_spec hl
  exact ⟨c, k, i, f, a, cell, h1, h2, h3, h4, h5, h6, h7, h8, h9, hA a (Array.getElem?_eq_some_iff.mp h5).1⟩
theorem vx_isRef {C n d : String} {v : Value} {A : Nat → Prop} {s : State} {args : Array Value} (h : va_Z C n d v A s s.heap) (hv : v.isRef = true) : (Cond.isRef (.static C n d)).before args s = true := by
  obtain ⟨cf, kf, fi, f, a, cell, h1, h2, h3, h4, h5, h6, h7, -⟩ := h
  have he : (Term.static C n d).eval args s none [] s = some v := by
    simp [Term.eval, State.fieldNamed?, h1, h2, h4, h5, h6, h7]
  simp only [Cond.before, Cond.holds, Cond.value, he]
  cases v <;> simp_all [Value.isRef]
theorem vx_isRefq {C n d : String} {A : Nat → Prop} {s : State} {args : Array Value} (h : va_Zq C n d A s s.heap) : (Cond.isRef (.static C n d)).before args s = true := by
  rcases h with h | ⟨t, h⟩
  · exact vx_isRef h rfl
  · exact vx_isRef h rfl
/-- the same frame, seen from here: as if the method were called anew in this heap -/
theorem vx_rebase {T : State} (X : Stand p l e R s m args below meth c T locs cells slots) {R' : Room} (hf : R'.frames ≤ R.frames) (hl : R'.locals ≤ R.locals) (hc : cells + R'.cells ≤ R.cells) (hs : slots + R'.slots ≤ R.slots) :
    Stand p l e R' ((T.setVm s.vm).setFrames (.invoking m args :: below)) m args below meth c T [] 0 0 := by
  have htop : (T.setVm s.vm).topJava?.isSome := X.here.top
  have hF : ((T.setVm s.vm).setFrames (.invoking m args :: below)).frames = .invoking m args :: below := State.frames_setFrames _ (State.cur_lt_of_top htop)
  obtain ⟨g₀, hg0⟩ := Option.isSome_iff_exists.mp htop
  obtain ⟨r, hr⟩ := State.topJava?_eq_some.mp hg0
  have hl9 : e.platform.stackLimits (T.setVm s.vm).me = e.platform.stackLimits s.me := X.limits
  have hb9 : (T.setVm s.vm).me.stackBytes = s.me.stackBytes := X.bytes
  refine ⟨X.admits, X.cas, X.clock, hF, ?_, X.hears, X.method, X.code, X.here, X.tail, X.warmed, ?_, ?_, ?_⟩
  · have h := X.room
    have hU : ((T.setVm s.vm).setFrames (.invoking m args :: below)).localsInUse = s.localsInUse := by
      rw [State.localsInUse_invoking hF (meth := meth) (c := c) X.method X.code, State.localsInUse_invoking X.frames X.method X.code]
    simp only [State.hasRoom, Bool.and_eq_true, decide_eq_true_eq] at h ⊢
    obtain ⟨⟨⟨⟨h1, h2, h3, h4, h5, h6⟩, h7⟩, h8⟩, h9⟩ := h
    rw [X.frames, List.length_cons] at h2 h3
    have q1 := X.heapSize
    have q2 := X.used
    simp only [hF, hU, List.length_cons, State.stackLimits_setFrames, State.stackBytes_setFrames, hl9, hb9]
    refine ⟨⟨⟨⟨by omega, by omega, by omega, by omega, by omega, h6⟩, ?_⟩, ?_⟩, X.book⟩
    · show T.heap.size + R'.cells ≤ e.platform.maxCells
      omega
    · show T.slotsUsed + R'.slots ≤ e.platform.maxSlots
      omega
  · rw [State.stackLimits_setFrames]; rfl
  · rw [State.stackBytes_setFrames]; rfl
  · refine ⟨?_, Nat.le_refl _, Nat.le_refl _, ?_, ?_, fun a c9 h9 => ⟨c9, h9, rfl, rfl, fun _ _ => rfl⟩⟩
    · obtain ⟨t, ht, -⟩ := State.frames_cons hr
      show T.setVm s.vm = { ((T.setVm s.vm).setFrames (.invoking m args :: below)).setFrames (T.setVm s.vm).frames with heap := T.heap, slotsUsed := T.slotsUsed }
      rw [State.setFrames_setFrames, State.setFrames_self ht]
      rfl
    · show T.slotsUsed = T.slotsUsed + ((T.heap.toList.drop T.heap.size).map (·.slots.size)).sum
      rw [List.drop_eq_nil_of_le (Nat.le_of_eq Array.length_toList)]
      rfl
    · show ((T.heap.toList.drop T.heap.size).map (·.slots.size)).sum ≤ 0
      rw [List.drop_eq_nil_of_le (Nat.le_of_eq Array.length_toList)]
      exact Nat.le_refl _
/-- 'throw new E()': new; dup; invokespecial; athrow -/
theorem vx_throw0 {cc : ByteArray} {pc : Nat} (hexec : p.tables.exec = Jvm.exec) (hb : c.code = cc) (hl : l.stackTraces = false) {own cls : String} {names : List String} {ik ic mc ms : Nat} {A : Nat → Prop}
    (hown : s.vm.findClass own = some m.cls) (hcls : Bundle.fit cls = true) (hnames : ∀ n ∈ names, Bundle.fit n = true)
    (hk : (Cond.classLink own ik cls).before args s = true) (hini : (Cond.initialized cls).before args s = true) (hat : ∀ w ∈ vx_at0 own ic cls names, w.before args s = true)
    (hgood : ∀ w ∈ Cond.classLink own ik cls :: Cond.initialized cls :: vx_at0 own ic cls names, vx_ot w = true)
    (hU : vx_Zq Bundle.tN "UNASSIGNED_STACK" Bundle.steD A s s.heap) (hN : vx_Zq Bundle.tN "SUPPRESSED_SENTINEL" Bundle.listD A s s.heap) (hS : va_S A s.heap H locs) (hsize : ls.size = c.maxLocals)
    (d0 : decode cc pc = .ok (.new ik, 3)) (d3 : decode cc (pc + 3) = .ok (.dup, 1)) (d4 : decode cc (pc + 4) = .ok (.invokespecial ic, 3)) (d7 : decode cc (pc + 7) = .ok (.athrow, 1))
    (hout : ∀ x ∈ c.exceptionTable.toList, covers x (pc + 7) = false)
    (hRframes : names.length + 3 < R.frames) (hRlocals : (rest.map fun v => v.category).sum + (13 * (names.length + 1) + 42) ≤ R.locals) (hRcells : cells + 1 ≤ R.cells) (hRslots : slots + 6 ≤ R.slots) (hlocks : meth.locks = false)
    (hx : ∀ t : State, s.vm.Alike t.vm → H.size ≤ t.heap.size → (∀ q : Nat, q < H.size → t.heap[q]? = H[q]?) → XC cls s t)
    (hf : ∀ z ∈ locs, free z.base) (hc : cells + 1 ≤ mc) (hs : slots + 6 ≤ ms) :
    W p l e R s m args below meth c H locs cells slots (vx_MQ below Qc XC args s mc ms free) (F0 m pc ls rest) := by
  intro T hT X
  have htr : e.platform.stackTraces = false := (show e.platform.stackTraces = l.stackTraces by rw [X.admits.platform]).trans hl
  have Y := vx_rebase X (R' := { frames := R.frames, locals := R.locals, cells := 1, slots := 6 }) (Nat.le_refl _) (Nat.le_refl _) hRcells hRslots
  obtain ⟨s', hA⟩ : ∃ z, z = (T.setVm s.vm).setFrames (.invoking m args :: below) := ⟨_, rfl⟩
  rw [← hA] at Y
  have hvm : s'.vm = s.vm := by rw [hA]; rfl
  have hhp : s'.heap = H := by rw [hA]; exact hT
  have hW0 : s.WarmedH s'.vm := by rw [hvm]; exact State.WarmedH.refl s
  have hat' : ∀ w ∈ vx_at0 own ic cls names, w.before args s' = true := fun w hw => vx_ot_at hW0 hvm.symm (hgood w (List.mem_cons_of_mem _ (List.mem_cons_of_mem _ hw))) (hat w hw)
  have hk' : (Cond.classLink own ik cls).before args s' = true := vx_ot_at hW0 hvm.symm (hgood _ List.mem_cons_self) hk
  have hini' : (Cond.initialized cls).before args s' = true := vx_ot_at hW0 hvm.symm (hgood _ (List.mem_cons_of_mem _ List.mem_cons_self)) hini
  have hU' : vx_Zq Bundle.tN "UNASSIGNED_STACK" Bundle.steD A s' s'.heap := by rw [hhp]; exact vx_Zq.moved hW0.alike (hU.kept hS.2.1)
  have hN' : vx_Zq Bundle.tN "SUPPRESSED_SENTINEL" Bundle.listD A s' s'.heap := by rw [hhp]; exact vx_Zq.moved hW0.alike (hN.kept hS.2.1)
  have h : ∀ w ∈ Bundle.ownAtoms0 own ic cls names, w.before args s' = true := vx_own hat' (vx_isRefq hU'.1) (vx_isRefq hN'.1) hU'.2.word hN'.2.word
  have hown' : s'.vm.findClass own = some m.cls := by rw [hvm]; exact hown
  have hins : (Cond.instantiable cls 6).before args s' = true := h _ (by simp [Bundle.ownAtoms0])
  obtain ⟨vm₁, cX, kX, hfX, hkX, -, -, X₁, st1⟩ := Y.newCold hexec (own := own) (C := cls) (index := ik) (n := 6) hown' hk' hins hini'
    (g := F0 m pc ls rest) rfl (by rw [hb]; exact d0) (Nat.le_refl _) (Nat.le_refl _)
  generalize hT1 : (T.setVm vm₁).pushCell { cls := cX, slots := kX.instanceTypes.map defaultValue, vm := .none } = T1 at X₁ st1
  have hcat : (Value.ref T.heap.size).category = 1 := rfl
  have hcellA : T1.heap[T.heap.size]? = some (freshCell cX kX) := by rw [← hT1]; exact State.heap_pushCell_size _ _
  have d3' : decode c.code (pc + 3) = .ok (.dup, 1) := by rw [hb]; exact d3
  obtain ⟨U, hsteps, hrun, hend, hW, hsame, ce, hce, hO⟩ := X₁.ctorThrow0 hexec htr (own := own) (cls := cls) (names := names) (ic := ic) hown' hcls hnames h (fun x hx => nomatch hx) hfX hkX hcellA (by rw [hhp, hT]; exact Nat.le_refl _)
    (g := { method := m, pc := pc + 4, locals := ls, stack := .ref T.heap.size :: .ref T.heap.size :: rest, locked := none }) rfl hsize rfl rfl (rest := rest) rfl
    (by rw [hb]; exact d4) (by rw [hb]; exact d7) hout hRframes (by simp only [List.map_cons, List.sum_cons, hcat]; omega) hlocks
  obtain ⟨f1, f2⟩ := vx_frame hsame
  rw [hhp] at f1 f2
  have hWs : s.WarmedH U.vm := State.WarmedH.trans hW0 hW
  have hcl : s.vm.findClass cls = some ce.cls := by
    have h9 := hO.cls
    rw [hvm] at h9
    exact h9
  have hall : s.sameButNew ({ U with vm := s.vm } : State) locs mc ms := by
    subst hA
    obtain ⟨e1, e2⟩ := hsame
    rw [State.setFrames_setFrames] at e1
    have h2 : (T.setVm s.vm).sameButNew ({ U with vm := s.vm } : State) [] (0 + 1) (0 + 6) := ⟨e1, e2⟩
    have h3 := X.same.trans h2
    rw [List.append_nil] at h3
    exact h3.mono hc hs
  refine ⟨U, ?_, .threw T.heap.size, hrun, hend, Or.inr ⟨T.heap.size, rfl, cls, ce, locs, hx U hWs.alike f1 (fun q hq => f2 q hq (fun z hz => nomatch hz)), hce, hO.vm, hcl, hWs, hall, hf⟩⟩
  refine st1 _ ?_
  show Steps p.tables e below (T1.setTop { method := m, pc := pc + 3, locals := ls, stack := .ref T.heap.size :: rest, locked := none }) _
  jvm_step X₁.here [X₁.here.top, hexec, d3', Value.category]
  exact hsteps
/-- 'throw new E("text")': new; dup; ldc; invokespecial; athrow -/
theorem vx_throwS {cc : ByteArray} {pc : Nat} (hexec : p.tables.exec = Jvm.exec) (hb : c.code = cc) (hl : l.stackTraces = false) {own cls text : String} {names : List String} {ik is ic mc ms sa : Nat} {A : Nat → Prop}
    (hown : s.vm.findClass own = some m.cls) (hcls : Bundle.fit cls = true) (hnames : ∀ n ∈ names, Bundle.fit n = true)
    (hk : (Cond.classLink own ik cls).before args s = true) (hini : (Cond.initialized cls).before args s = true) (hstr : vk_R own is text sa s) (hat : ∀ w ∈ vx_atS own ic cls names, w.before args s = true)
    (hgood : ∀ w ∈ Cond.classLink own ik cls :: Cond.initialized cls :: vx_atS own ic cls names, vx_ot w = true)
    (hU : vx_Zq Bundle.tN "UNASSIGNED_STACK" Bundle.steD A s s.heap) (hN : vx_Zq Bundle.tN "SUPPRESSED_SENTINEL" Bundle.listD A s s.heap) (hS : va_S A s.heap H locs) (hsize : ls.size = c.maxLocals)
    (d0 : decode cc pc = .ok (.new ik, 3)) (d3 : decode cc (pc + 3) = .ok (.dup, 1)) (d4 : decode cc (pc + 4) = .ok (.ldc is, 2)) (d6 : decode cc (pc + 6) = .ok (.invokespecial ic, 3)) (d9 : decode cc (pc + 9) = .ok (.athrow, 1))
    (hout : ∀ x ∈ c.exceptionTable.toList, covers x (pc + 9) = false)
    (hRframes : names.length + 3 < R.frames) (hRlocals : (rest.map fun v => v.category).sum + (13 * (names.length + 1) + 43) ≤ R.locals) (hRcells : cells + 1 ≤ R.cells) (hRslots : slots + 6 ≤ R.slots) (hlocks : meth.locks = false)
    (hx : ∀ t : State, s.vm.Alike t.vm → H.size ≤ t.heap.size → (∀ q : Nat, q < H.size → t.heap[q]? = H[q]?) → XC cls s t)
    (hf : ∀ z ∈ locs, free z.base) (hc : cells + 1 ≤ mc) (hs : slots + 6 ≤ ms) :
    W p l e R s m args below meth c H locs cells slots (vx_MQ below Qc XC args s mc ms free) (F0 m pc ls rest) := by
  intro T hT X
  have htr : e.platform.stackTraces = false := (show e.platform.stackTraces = l.stackTraces by rw [X.admits.platform]).trans hl
  have Y := vx_rebase X (R' := { frames := R.frames, locals := R.locals, cells := 1, slots := 6 }) (Nat.le_refl _) (Nat.le_refl _) hRcells hRslots
  obtain ⟨s', hA⟩ : ∃ z, z = (T.setVm s.vm).setFrames (.invoking m args :: below) := ⟨_, rfl⟩
  rw [← hA] at Y
  have hvm : s'.vm = s.vm := by rw [hA]; rfl
  have hhp : s'.heap = H := by rw [hA]; exact hT
  have hW0 : s.WarmedH s'.vm := by rw [hvm]; exact State.WarmedH.refl s
  have hat' : ∀ w ∈ vx_atS own ic cls names, w.before args s' = true := fun w hw => vx_ot_at hW0 hvm.symm (hgood w (List.mem_cons_of_mem _ (List.mem_cons_of_mem _ hw))) (hat w hw)
  have hk' : (Cond.classLink own ik cls).before args s' = true := vx_ot_at hW0 hvm.symm (hgood _ List.mem_cons_self) hk
  have hini' : (Cond.initialized cls).before args s' = true := vx_ot_at hW0 hvm.symm (hgood _ (List.mem_cons_of_mem _ List.mem_cons_self)) hini
  have hU' : vx_Zq Bundle.tN "UNASSIGNED_STACK" Bundle.steD A s' s'.heap := by rw [hhp]; exact vx_Zq.moved hW0.alike (hU.kept hS.2.1)
  have hN' : vx_Zq Bundle.tN "SUPPRESSED_SENTINEL" Bundle.listD A s' s'.heap := by rw [hhp]; exact vx_Zq.moved hW0.alike (hN.kept hS.2.1)
  have h : ∀ w ∈ Bundle.ownAtoms own ic cls names, w.before args s' = true := vx_own hat' (vx_isRefq hU'.1) (vx_isRefq hN'.1) hU'.2.word hN'.2.word
  have hown' : s'.vm.findClass own = some m.cls := by rw [hvm]; exact hown
  have hins : (Cond.instantiable cls 6).before args s' = true := h _ (by simp [Bundle.ownAtoms])
  obtain ⟨vm₁, cX, kX, hfX, hkX, -, -, X₁, st1⟩ := Y.newCold hexec (own := own) (C := cls) (index := ik) (n := 6) hown' hk' hins hini'
    (g := F0 m pc ls rest) rfl (by rw [hb]; exact d0) (Nat.le_refl _) (Nat.le_refl _)
  generalize hT1 : (T.setVm vm₁).pushCell { cls := cX, slots := kX.instanceTypes.map defaultValue, vm := .none } = T1 at X₁ st1
  have hcat : (Value.ref T.heap.size).category = 1 := rfl
  have hcellA : T1.heap[T.heap.size]? = some (freshCell cX kX) := by rw [← hT1]; exact State.heap_pushCell_size _ _
  have d3' : decode c.code (pc + 3) = .ok (.dup, 1) := by rw [hb]; exact d3
  have d4' : decode c.code (pc + 4) = .ok (.ldc is, 2) := by rw [hb]; exact d4
  have hstr' : vk_R own is text sa s' := vk_R.warm hW0 hstr
  obtain ⟨U, hsteps, hrun, hend, hW, hsame, ce, hce, hO⟩ := X₁.ctorThrowS hexec htr (own := own) (cls := cls) (names := names) (ic := ic) hown' hcls hnames h (fun x hx => nomatch hx) hfX hkX hcellA (by rw [hhp, hT]; exact Nat.le_refl _) (msg := .ref sa) rfl
    (g := { method := m, pc := pc + 6, locals := ls, stack := .ref sa :: .ref T.heap.size :: .ref T.heap.size :: rest, locked := none }) rfl hsize rfl rfl (rest := rest) rfl
    (by rw [hb]; exact d6) (by rw [hb]; exact d9) hout hRframes (by simp only [List.map_cons, List.sum_cons, hcat]; omega) hlocks
  obtain ⟨f1, f2⟩ := vx_frame hsame
  rw [hhp] at f1 f2
  have hWs : s.WarmedH U.vm := State.WarmedH.trans hW0 hW
  have hcl : s.vm.findClass cls = some ce.cls := by
    have h9 := hO.cls
    rw [hvm] at h9
    exact h9
  have hall : s.sameButNew ({ U with vm := s.vm } : State) locs mc ms := by
    subst hA
    obtain ⟨e1, e2⟩ := hsame
    rw [State.setFrames_setFrames] at e1
    have h2 : (T.setVm s.vm).sameButNew ({ U with vm := s.vm } : State) [] (0 + 1) (0 + 6) := ⟨e1, e2⟩
    have h3 := X.same.trans h2
    rw [List.append_nil] at h3
    exact h3.mono hc hs
  refine ⟨U, ?_, .threw T.heap.size, hrun, hend, Or.inr ⟨T.heap.size, rfl, cls, ce, locs, hx U hWs.alike f1 (fun q hq => f2 q hq (fun z hz => nomatch hz)), hce, hO.vm, hcl, hWs, hall, hf⟩⟩
  refine st1 _ ?_
  show Steps p.tables e below (T1.setTop { method := m, pc := pc + 3, locals := ls, stack := .ref T.heap.size :: rest, locked := none }) _
  jvm_step X₁.here [X₁.here.top, hexec, d3', Value.category]
  exact X₁.ldcString hexec (own := own) (text := text) (index := is) (a := sa) hown' hstr'.1 hstr'.2
    (g := { method := m, pc := pc + 4, locals := ls, stack := .ref T.heap.size :: .ref T.heap.size :: rest, locked := none }) rfl d4' _ hsteps
/-- 'throw new E("text")', the text by a wide index -/
theorem vx_throwSW {cc : ByteArray} {pc : Nat} (hexec : p.tables.exec = Jvm.exec) (hb : c.code = cc) (hl : l.stackTraces = false) {own cls text : String} {names : List String} {ik is ic mc ms sa : Nat} {A : Nat → Prop}
    (hown : s.vm.findClass own = some m.cls) (hcls : Bundle.fit cls = true) (hnames : ∀ n ∈ names, Bundle.fit n = true)
    (hk : (Cond.classLink own ik cls).before args s = true) (hini : (Cond.initialized cls).before args s = true) (hstr : vk_R own is text sa s) (hat : ∀ w ∈ vx_atS own ic cls names, w.before args s = true)
    (hgood : ∀ w ∈ Cond.classLink own ik cls :: Cond.initialized cls :: vx_atS own ic cls names, vx_ot w = true)
    (hU : vx_Zq Bundle.tN "UNASSIGNED_STACK" Bundle.steD A s s.heap) (hN : vx_Zq Bundle.tN "SUPPRESSED_SENTINEL" Bundle.listD A s s.heap) (hS : va_S A s.heap H locs) (hsize : ls.size = c.maxLocals)
    (d0 : decode cc pc = .ok (.new ik, 3)) (d3 : decode cc (pc + 3) = .ok (.dup, 1)) (d4 : decode cc (pc + 4) = .ok (.ldc_w is, 3)) (d7 : decode cc (pc + 7) = .ok (.invokespecial ic, 3)) (d10 : decode cc (pc + 10) = .ok (.athrow, 1))
    (hout : ∀ x ∈ c.exceptionTable.toList, covers x (pc + 10) = false)
    (hRframes : names.length + 3 < R.frames) (hRlocals : (rest.map fun v => v.category).sum + (13 * (names.length + 1) + 43) ≤ R.locals) (hRcells : cells + 1 ≤ R.cells) (hRslots : slots + 6 ≤ R.slots) (hlocks : meth.locks = false)
    (hx : ∀ t : State, s.vm.Alike t.vm → H.size ≤ t.heap.size → (∀ q : Nat, q < H.size → t.heap[q]? = H[q]?) → XC cls s t)
    (hf : ∀ z ∈ locs, free z.base) (hc : cells + 1 ≤ mc) (hs : slots + 6 ≤ ms) :
    W p l e R s m args below meth c H locs cells slots (vx_MQ below Qc XC args s mc ms free) (F0 m pc ls rest) := by
  intro T hT X
  have htr : e.platform.stackTraces = false := (show e.platform.stackTraces = l.stackTraces by rw [X.admits.platform]).trans hl
  have Y := vx_rebase X (R' := { frames := R.frames, locals := R.locals, cells := 1, slots := 6 }) (Nat.le_refl _) (Nat.le_refl _) hRcells hRslots
  obtain ⟨s', hA⟩ : ∃ z, z = (T.setVm s.vm).setFrames (.invoking m args :: below) := ⟨_, rfl⟩
  rw [← hA] at Y
  have hvm : s'.vm = s.vm := by rw [hA]; rfl
  have hhp : s'.heap = H := by rw [hA]; exact hT
  have hW0 : s.WarmedH s'.vm := by rw [hvm]; exact State.WarmedH.refl s
  have hat' : ∀ w ∈ vx_atS own ic cls names, w.before args s' = true := fun w hw => vx_ot_at hW0 hvm.symm (hgood w (List.mem_cons_of_mem _ (List.mem_cons_of_mem _ hw))) (hat w hw)
  have hk' : (Cond.classLink own ik cls).before args s' = true := vx_ot_at hW0 hvm.symm (hgood _ List.mem_cons_self) hk
  have hini' : (Cond.initialized cls).before args s' = true := vx_ot_at hW0 hvm.symm (hgood _ (List.mem_cons_of_mem _ List.mem_cons_self)) hini
  have hU' : vx_Zq Bundle.tN "UNASSIGNED_STACK" Bundle.steD A s' s'.heap := by rw [hhp]; exact vx_Zq.moved hW0.alike (hU.kept hS.2.1)
  have hN' : vx_Zq Bundle.tN "SUPPRESSED_SENTINEL" Bundle.listD A s' s'.heap := by rw [hhp]; exact vx_Zq.moved hW0.alike (hN.kept hS.2.1)
  have h : ∀ w ∈ Bundle.ownAtoms own ic cls names, w.before args s' = true := vx_own hat' (vx_isRefq hU'.1) (vx_isRefq hN'.1) hU'.2.word hN'.2.word
  have hown' : s'.vm.findClass own = some m.cls := by rw [hvm]; exact hown
  have hins : (Cond.instantiable cls 6).before args s' = true := h _ (by simp [Bundle.ownAtoms])
  obtain ⟨vm₁, cX, kX, hfX, hkX, -, -, X₁, st1⟩ := Y.newCold hexec (own := own) (C := cls) (index := ik) (n := 6) hown' hk' hins hini'
    (g := F0 m pc ls rest) rfl (by rw [hb]; exact d0) (Nat.le_refl _) (Nat.le_refl _)
  generalize hT1 : (T.setVm vm₁).pushCell { cls := cX, slots := kX.instanceTypes.map defaultValue, vm := .none } = T1 at X₁ st1
  have hcat : (Value.ref T.heap.size).category = 1 := rfl
  have hcellA : T1.heap[T.heap.size]? = some (freshCell cX kX) := by rw [← hT1]; exact State.heap_pushCell_size _ _
  have d3' : decode c.code (pc + 3) = .ok (.dup, 1) := by rw [hb]; exact d3
  have d4' : decode c.code (pc + 4) = .ok (.ldc_w is, 3) := by rw [hb]; exact d4
  have hstr' : vk_R own is text sa s' := vk_R.warm hW0 hstr
  obtain ⟨U, hsteps, hrun, hend, hW, hsame, ce, hce, hO⟩ := X₁.ctorThrowS hexec htr (own := own) (cls := cls) (names := names) (ic := ic) hown' hcls hnames h (fun x hx => nomatch hx) hfX hkX hcellA (by rw [hhp, hT]; exact Nat.le_refl _) (msg := .ref sa) rfl
    (g := { method := m, pc := pc + 7, locals := ls, stack := .ref sa :: .ref T.heap.size :: .ref T.heap.size :: rest, locked := none }) rfl hsize rfl rfl (rest := rest) rfl
    (by rw [hb]; exact d7) (by rw [hb]; exact d10) hout hRframes (by simp only [List.map_cons, List.sum_cons, hcat]; omega) hlocks
  obtain ⟨f1, f2⟩ := vx_frame hsame
  rw [hhp] at f1 f2
  have hWs : s.WarmedH U.vm := State.WarmedH.trans hW0 hW
  have hcl : s.vm.findClass cls = some ce.cls := by
    have h9 := hO.cls
    rw [hvm] at h9
    exact h9
  have hall : s.sameButNew ({ U with vm := s.vm } : State) locs mc ms := by
    subst hA
    obtain ⟨e1, e2⟩ := hsame
    rw [State.setFrames_setFrames] at e1
    have h2 : (T.setVm s.vm).sameButNew ({ U with vm := s.vm } : State) [] (0 + 1) (0 + 6) := ⟨e1, e2⟩
    have h3 := X.same.trans h2
    rw [List.append_nil] at h3
    exact h3.mono hc hs
  refine ⟨U, ?_, .threw T.heap.size, hrun, hend, Or.inr ⟨T.heap.size, rfl, cls, ce, locs, hx U hWs.alike f1 (fun q hq => f2 q hq (fun z hz => nomatch hz)), hce, hO.vm, hcl, hWs, hall, hf⟩⟩
  refine st1 _ ?_
  show Steps p.tables e below (T1.setTop { method := m, pc := pc + 3, locals := ls, stack := .ref T.heap.size :: rest, locked := none }) _
  jvm_step X₁.here [X₁.here.top, hexec, d3', Value.category]
  exact X₁.ldcStringW hexec (own := own) (text := text) (index := is) (a := sa) hown' hstr'.1 hstr'.2
    (g := { method := m, pc := pc + 4, locals := ls, stack := .ref T.heap.size :: .ref T.heap.size :: rest, locked := none }) rfl d4' _ hsteps
end Ends
section Bodies
variable {l : Launch}
theorem vx_ofW {y : MethodName} {ws ws' : List Cond} {rm : Room} {Pc : Array Value → State → Prop} {Qc : Array Value → State → Outcome → State → Prop} {XC : String → State → State → Prop} {mc ms : Nat} {free : Addr → Prop} {cc : ByteArray} {maxL : Nat} {ret : Option FieldType}
    (hy : plainName y.cls = true) (hw : ws = Cond.code y cc maxL ret :: ws')
    (body : ∀ p e s m args below meth c s₁, BodyLoose p l y (headSpec ws rm) cc maxL ret e s m args below meth c s₁ → c.maxLocals = maxL → (∀ x ∈ c.exceptionTable.toList, False) → Pc args s →
      W p l e (headSpec ws rm).room s m args below meth c s.heap [] 0 0 (vx_MQ below Qc XC args s mc ms free) (entryFrame m args maxL)) : vx_Met l y ws rm Pc Qc XC mc ms free := by
  refine MetFree.of_bodyS (code := cc) (maxLocals := maxL) (ret := ret) hy ?_ ?_
  · intro args s m h hn
    obtain ⟨meth, c, h1, h2, h3, h4, h5, h6, -, -⟩ := Cond.code_spec hn (atoms_spec (ws := ws) h _ (by rw [hw]; exact List.mem_cons_self))
    exact ⟨meth, c, h1, h2, h3, h4, h5, h6⟩
  · intro p e s m args below meth c s₁ B hml hP _
    have hh0 : s₁.heap = s.heap := by rw [B.state]; rfl
    have ht : ∀ x ∈ c.exceptionTable.toList, False := by
      obtain ⟨meth9, c9, h1, h2, -, -, -, -, h7, -⟩ := Cond.code_spec B.named (atoms_spec (ws := ws) B.pre _ (by rw [hw]; exact List.mem_cons_self))
      cases Option.some.inj (h1.symm.trans B.method)
      cases Option.some.inj (h2.symm.trans (Stand.of_body B).code)
      intro x hx
      rw [Array.isEmpty_iff.mp h7] at hx
      cases hx
    obtain ⟨t, a1, o, b1, b2, b3⟩ := body p e s m args below meth c s₁ B hml ht hP s₁ hh0 (Stand.of_body B)
    exact ⟨t, o, a1, b1, b2, b3⟩
/-- the table of a body with handlers -/
theorem vx_table {p : Program} {x y : MethodName} {S : Spec} {cc bytes : ByteArray} {maxL maxL' : Nat} {ret ret' : Option FieldType} {e : Env} {s s₁ : State} {m : MethodId} {args : Array Value} {below : List Frame} {meth : Method} {c : Code} {hh : List (Nat × Nat × Nat × Nat)}
    (B : BodyLoose p l y S cc maxL ret e s m args below meth c s₁) (h : (Cond.codeWith y bytes maxL' ret' hh).before args s = true) : c.exceptionTable.toList = tableOf hh := by
  obtain ⟨m9, meth9, c9, hn9, h1, h2, -, -, h6, -⟩ := Cond.codeWith_spec h
  cases Option.some.inj (hn9.symm.trans B.named)
  cases Option.some.inj (h1.symm.trans B.method)
  cases Option.some.inj (h2.symm.trans (Stand.of_body B).code)
  rw [← h6, table_eq]
end Bodies
end VXA
/-! ===== END ===== -/
/-! ===== BEGIN a static call of a method with an exception table ===== -/
section VXS
variable {p : Program} {l : Launch} {e : Env} {R : Room} {s : State} {m : MethodId} {args : Array Value} {below : List Frame} {meth : Method} {c : Code} {T : State} {H : Heap} {locs : List Loc} {cells slots : Nat}
abbrev vx_CSW (R : Room) (s : State) (args : Array Value) (own : String) (index : Nat) (y : MethodName) (bytes : ByteArray) (maxL : Nat) (ret : Option FieldType) (hh : List (Nat × Nat × Nat × Nat)) (ws : List Cond) (rm : Room) (mc ms n : Nat) : Prop :=
  (rm.cells = mc ∧ rm.slots = ms ∧ rm.frames + 1 ≤ R.frames ∧ 8 + (maxL + 11) + rm.locals ≤ R.locals ∧ (∀ w ∈ ws, ∀ (a' : Array Value) (U : State), s.WarmedH U.vm → w.before a' U = true) ∧ Cond.codeWith y bytes maxL ret hh ∈ ws) ∧
  (Cond.codeWith y bytes maxL ret hh).before args s = true ∧ (Cond.initialized y.cls).before args s = true ∧ (y.cls ≠ "java/lang/invoke/MethodHandle" ∧ y.cls ≠ "java/lang/invoke/VarHandle") ∧
  (∀ sig, parseMethodDescriptor y.desc = some sig → n = sig.parameters.length) ∧ (Cond.methodLink own index y).before args s = true ∧ (Cond.static y).before args s = true
theorem vx_cwSW {own : String} {index maxL mc ms : Nat} {y : MethodName} {bytes : ByteArray} {ret : Option FieldType} {hh : List (Nat × Nat × Nat × Nat)} {Ts ws ws' : List Cond} {rm : Room} (n : Nat) (ht : ∀ w ∈ Ts, w.before args s = true) (hT : GoodIn Ts (va_wsS own index y ws)) (hw : ws = Cond.codeWith y bytes maxL ret hh :: ws') (hrc : rm.cells = mc) (hrs : rm.slots = ms)
    (hd : y.cls ≠ "java/lang/invoke/MethodHandle" ∧ y.cls ≠ "java/lang/invoke/VarHandle" ∧ (parseMethodDescriptor y.desc).map (fun d => d.parameters.length) = some n) (hR : rm.frames + 1 ≤ R.frames ∧ 8 + (maxL + 11) + rm.locals ≤ R.locals) :
    vx_CSW R s args own index y bytes maxL ret hh ws rm mc ms n := by
  have ok : ∀ w ∈ va_wsS own index y ws, w.before args s = true := fun w h => ht w (hT w h).1
  have hG : GoodIn Ts ws := fun w h => hT w (by unfold va_wsS; exact List.mem_append_right _ h)
  have hc : Cond.codeWith y bytes maxL ret hh ∈ ws := by rw [hw]; exact List.mem_cons_self
  refine ⟨⟨hrc, hrs, hR.1, hR.2, pay_in ht hG, hc⟩, ht _ (hG _ hc).1, ok _ (by simp [va_wsS]), ⟨hd.1, hd.2.1⟩, fun sig h => ?_, ok _ (by simp [va_wsS]), ok _ (by simp [va_wsS])⟩
  have h2 := hd.2.2
  rw [h] at h2
  exact (Option.some.inj h2).symm
theorem vx_callSW (X : Stand p l e R s m args below meth c T locs cells slots) (hexec : p.tables.exec = Jvm.exec) {own : String} {index : Nat} {y : MethodName} {bytes : ByteArray} {maxL : Nat} {ret : Option FieldType} {hh : List (Nat × Nat × Nat × Nat)}
    (hown : s.vm.findClass own = some m.cls) (hlink : (Cond.methodLink own index y).before args s = true) (hstat : (Cond.static y).before args s = true) (hinit : (Cond.initialized y.cls).before args s = true)
    (hcode : (Cond.codeWith y bytes maxL ret hh).before args s = true) (hy : y.cls ≠ "java/lang/invoke/MethodHandle" ∧ y.cls ≠ "java/lang/invoke/VarHandle")
    {W9 : Nat} {Pre : Pt → Array Value → Prop} {Post : Pt → Array Value → Option Value → Pt → Prop} (hK : Back l R p e below s args y 3 W9 Pre Post)
    {g : JFrame} (hg : g.method = m) (hsize : g.locals.size = c.maxLocals) {argsL rest : List Value} (hlen : ∀ sig, parseMethodDescriptor y.desc = some sig → argsL.length = sig.parameters.length)
    (hstack : g.stack = argsL.reverse ++ rest) (hW : 2 * g.monitorRoom + (rest.map fun v => v.category).sum ≤ W9) (hdg : decode c.code g.pc = .ok (.invokestatic index, 3))
    (hpre : ∀ vm₁, s.WarmedH vm₁ → Pre ⟨T.setVm vm₁, locs, cells, slots⟩ argsL.toArray) :
    ∃ (v : Option Value) (vm₁ : Vm) (B : Pt), s.WarmedH vm₁ ∧ Stand p l e R s m args below meth c B.U B.locs B.cells B.slots ∧ Post ⟨T.setVm vm₁, locs, cells, slots⟩ argsL.toArray v B ∧
      ∀ target, Steps p.tables e below (B.U.setTop { g with pc := g.pc + 3, stack := v.toList ++ rest }) target → Steps p.tables e below (T.setTop g) target := by
  obtain ⟨mk, methM, cM, hnamed, hmethM, -, -, -, -, -, -, hsigM⟩ := Cond.codeWith_spec hcode
  have hstatic : methM.isStatic = true := Cond.static_spec hnamed hmethM hstat
  obtain ⟨kP, hkP, -⟩ := className_of_methodNamed hnamed
  have hinitP : kP.init = .initialized := Cond.initialized_spec (findClass_of_methodNamed hnamed) hkP hinit
  obtain ⟨vm₁, X₁, hstep₁⟩ := X.invokestatic hexec hown hlink hnamed hmethM hstatic hkP hinitP hy (g := g) hg (argsL := argsL) (rest := rest) (hlen _ hsigM) hstack hdg
  obtain ⟨v, B, X', hpost, hsteps⟩ := hK m meth c ⟨T.setVm vm₁, locs, cells, slots⟩ { g with stack := rest } (.invokestatic index) mk argsL.toArray X₁ hg hsize hdg hW (X₁.named hnamed) (hpre vm₁ X₁.warmed)
  exact ⟨v, vm₁, B, X₁.warmed, X', hpost, fun target h => hstep₁ _ fun acts => by rw [doInvoke_state]; exact hsteps.trans h⟩
theorem vx_runSW {y : MethodName} {bytes cc : ByteArray} {maxL nL mc ms n index : Nat} {ret : Option FieldType} {hh : List (Nat × Nat × Nat × Nat)} {ws : List Cond} {rm : Room} {Pc : Array Value → State → Prop} {Qc : Array Value → State → Outcome → State → Prop} {free : Addr → Prop} {Ts : List Cond} {own : String} {As rest : List Value} {g : JFrame}
    (S : CallFix p m c cc nL s args Ts own) (hM : Met l y ws rm Pc Qc mc ms free) (cw : vx_CSW R s args own index y bytes maxL ret hh ws rm mc ms n) (hp : PreS s H Pc As)
    (hg : g.method = m) (hn : As.length = n) (hsize : g.locals.size = nL) (hstack : g.stack = As.reverse ++ rest) (hW : 2 * g.monitorRoom + (rest.map fun v => v.category).sum ≤ 8) (hdg : decode cc g.pc = .ok (.invokestatic index, 3)) (hf : cells + mc ≤ R.cells ∧ slots + ms ≤ R.slots) :
    va_Run p l e R s m args below meth c H locs cells slots mc ms g rest (Qc As.toArray) (free) := by
  obtain ⟨⟨hrc, hrs, hfr, hlo, hws, hcw⟩, hcode, hini, hy, hlen, hl, hstt⟩ := cw
  have hK : Back l R p e below s args y 3 8 (PreOf R mc ms Pc) (PostOf Qc mc ms free) := va_backW (hh := hh) (bytes := bytes) (maxL := maxL) (ret := ret) hM hp.1 hrc hrs hfr hlo hws hcw (fun a' U hW => word_at hW (Or.inl (by first | rfl | simp [Cond.onTables, Cond.keeps, Cond.steady])) hini)
  obtain ⟨hx, hb, hml, ho, -⟩ := S
  intro T hT X
  obtain ⟨v, vm₁, ⟨U', l2, c2, s2⟩, hW₁, X', ⟨g', mk, t, L, e1, e2, hq, h1, hL, h2, h3⟩, st⟩ := vx_callSW X hx (hh := hh) (bytes := bytes) (maxL := maxL) (ret := ret) ho hl hstt hini hcode hy hK hg (hsize.trans hml.symm) (argsL := As) (rest := rest) (fun sig h => hn.trans (hlen sig h)) hstack hW (by rw [hb]; exact hdg)
    (fun vm₁ hW₁ => ⟨hf.1, hf.2, hp.2 (T.setVm vm₁) hT hW₁⟩)
  dsimp only [Pt.U, Pt.locs, Pt.cells, Pt.slots] at X' e1 e2 h1 h2 h3 st
  subst h1; subst h2; subst h3
  exact ⟨v, (T.setVm vm₁).calling g' mk As.toArray, t, U', L, hT, X', hL, e1, e2, hq, st⟩
/-- not caught here, past rows that name other classes: it goes on to the caller -/
theorem vx_outP {p : Program} {l : Launch} {e : Env} {R : Room} {s : State} {m : MethodId} {args : Array Value} {below : List Frame} {meth : Method} {c : Code} {H : Heap} {locs : List Loc} {cells slots : Nat} {free : Addr → Prop} {ls : Array Slot} {rest : List Value} {Qc : Array Value → State → Outcome → State → Prop} {XC : String → State → State → Prop}
    {pc : Nat} {own E : String} {ce : Cell} {q : Addr} {mc ms : Nat} (hown : s.vm.findClass own = some m.cls) (hlocks : meth.locks = false)
    (hpass : ∀ z ∈ c.exceptionTable.toList, covers z pc = false ∨ (z.catchType ≠ 0 ∧ ∃ nm : String, (Cond.classLink own z.catchType nm).before args s = true ∧ va_Nc E nm s)) (hcell : H[q]? = some ce) (hv : ce.vm = .none) (hcl : s.vm.findClass E = some ce.cls)
    (hx : ∀ t : State, t.heap = H → s.vm.Alike t.vm → XC E s t) (hf : ∀ z ∈ locs, free z.base) (hc : cells ≤ mc) (hs : slots ≤ ms) :
    vx_W p l e R s m args below meth c H locs cells slots (vx_MQ below Qc XC args s mc ms free) (F0 m pc ls rest) q := by
  intro T hT X
  have hpl : e.platform.magicAccessors = ({} : Platform).magicAccessors := by rw [X.admits.platform]
  obtain ⟨vm', hW', X', st⟩ := X.outThrough hlocks q (g := F0 m pc ls rest) rfl rfl rfl (cell := ce) (by rw [hT]; exact hcell) (by rw [hv]; rfl)
    (by obtain ⟨k9, h9, -⟩ := Vm.findClass_spec hcl; exact ⟨k9, h9⟩) (fun z hz => by
      rcases hpass z hz with h | ⟨hz0, nm, hl1, hn1⟩
      · exact Or.inl h
      · obtain ⟨c6, hc6, hcl6⟩ := Cond.classLink_spec hown hl1 e.platform hpl
        obtain ⟨a8, b8, h1, h2, h3⟩ := hn1
        cases Option.some.inj (h1.symm.trans hcl)
        cases Option.some.inj (h2.symm.trans hc6)
        exact Or.inr ⟨hz0, _, hcl6, h3⟩)
  obtain ⟨g₀, hfr⟩ := X'.frames_eq
  have hcell9 : ((T.setVm vm').setFrames (.throwing q :: below)).heap[q]? = some ce := by
    show T.heap[q]? = some ce
    rw [hT]; exact hcell
  have hend : Ended ((T.setVm vm').setFrames (.throwing q :: below)) below (.threw q) := State.frames_setFrames _ (State.cur_lt_of_frames hfr)
  refine ⟨(T.setVm vm').setFrames (.throwing q :: below), ?_, .threw q, X'.here.running, hend, Or.inr ⟨q, rfl, E, ce, locs, hx _ hT (X'.ends _).1.alike, hcell9, hv, hcl, (X'.ends _).1, (X'.ends _).2.mono hc hs, hf⟩⟩
  rw [X.pushThrowing_eq]
  exact st
/-- a thing of a world lies in the heap -/
theorem vx_lt {D : va_G} {cl : List vw_C} {ws : va_W} {H1 : Heap} (h : va_P D cl ws H1) {k : Nat} {q : Nat × va_E} (hk : ws[k]? = some q) : q.1 < H1.size := (h k q hk).lt
end VXS
/-! ===== END ===== -/
/-! ===== BEGIN methods with a table of their own: called by a name, returning or throwing ===== -/
section VXH
/-! vx_backW, vx_callVX, vx_callSX, vx_callVW, vx_runVW, vx_runVX, vx_runSX, vx_ofWH follow the same proofs as their sisters above (Free/Laws.lean, Shelf42/LK1.lean); vx_outP calls Shelf42/NT130.lean (outThrough). -/
section
variable {l : Launch} {R : Room} {p : Program} {e : Env} {below : List Frame} {s : State} {sargs : Array Value} {y : MethodName} {len W9 : Nat}
theorem vx_backW {ws : List Cond} {rm : Room} {Pc : Array Value → State → Prop} {Qc : Array Value → State → Outcome → State → Prop} {XC : String → State → State → Prop} {mc ms : Nat} {free : Addr → Prop} {bytes : ByteArray} {maxL : Nat} {ret : Option FieldType} {hh : List (Nat × Nat × Nat × Nat)}
    (hM : vx_Met l y ws rm Pc Qc XC mc ms free) (hblind : FrameBlind Pc) (hrc : rm.cells = mc) (hrs : rm.slots = ms)
    (hframes : rm.frames + 1 ≤ R.frames) (hlocals : W9 + (maxL + 11) + rm.locals ≤ R.locals)
    (hws : ∀ w ∈ ws, ∀ a' U, s.WarmedH U.vm → w.before a' U = true) (hcode : Cond.codeWith y bytes maxL ret hh ∈ ws) (hinit : ∀ a' U, s.WarmedH U.vm → (Cond.initialized y.cls).before a' U = true) :
    vx_Back l R p e below s sargs y len W9 (PreOf R mc ms Pc) (PostOf Qc mc ms free) (vx_Post XC mc ms free) := by
  intro m meth c A g ig mk a X hg hsize hdg hW hn hp
  have h1 : (headSpec ws rm).pre.before a A.U = true := atoms_intro fun w hw => hws w hw _ _ X.warmed
  have h2 : (Cond.codeWith y bytes maxL ret hh).before a A.U = true := hws _ hcode _ _ X.warmed
  have h3 : (Cond.initialized y.cls).before a A.U = true := hinit _ _ X.warmed
  have h4 : A.cells + (headSpec ws rm).room.cells ≤ R.cells := by rw [show (headSpec ws rm).room.cells = mc from hrc]; exact hp.1
  have h5 : A.slots + (headSpec ws rm).room.slots ≤ R.slots := by rw [show (headSpec ws rm).room.slots = ms from hrs]; exact hp.2.1
  have hPc : Pc a (A.U.calling g mk a) := hblind _ _ _ _ hp.2.2
  obtain ⟨U, Ls, c0, s0⟩ := A
  dsimp only [Pt.U, Pt.locs, Pt.cells, Pt.slots] at h1 h2 h3 h4 h5 X hn hPc ⊢
  obtain ⟨m9, methY, cY, hn9, hmY, hcY, -, hlY, -⟩ := Cond.codeWith_spec h2
  cases Option.some.inj (hn9.symm.trans hn)
  obtain ⟨kY, hkY, -⟩ := className_of_methodNamed hn
  have hinitY : kY.init = .initialized := Cond.initialized_spec (findClass_of_methodNamed hn) hkY h3
  have h : At U g.method c below := by rw [hg]; exact X.here
  have hlocals9 : W9 + (maxL + 11) + (headSpec ws rm).room.locals ≤ R.locals := hlocals
  have happ : (headSpec ws rm).appliesLoose y e.platform (U.calling g mk a) = true :=
    Spec.appliesLoose_calling (g := g) h hdg hn hkY hinitY
      (X.room_calling (g := g) (R' := (headSpec ws rm).room) hsize hmY hcY hframes (by rw [hlY]; omega) h4 h5) h1
  obtain ⟨mid, hmid⟩ := h.above
  have hfr : (U.setTop g).frames = (.java g :: mid) ++ below := by rw [State.frames_setTop' g h.top, hmid]; rfl
  obtain ⟨o, s₂, hsteps, -, hend, hq⟩ := Steps.callFree hM p X.admits X.cas X.clock (acts := []) hfr happ hPc trivial
  have hq' : vx_Q Qc XC mc ms free a (U.calling g mk a) o s₂ := hq
  rw [State.frames_setTop' g h.top] at hend
  obtain ⟨g₀, hg0⟩ := Option.isSome_iff_exists.mp h.top
  obtain ⟨r, hr⟩ := State.topJava?_eq_some.mp hg0
  have hr' : (({ U with heap := s₂.heap, slotsUsed := s₂.slotsUsed } : State).setVm s₂.vm).frames = .java g₀ :: r := hr
  rcases hq' with ⟨hqc, L, hfe, hL⟩ | ⟨q, rfl, E, ce, L, hx, hce, hcv, hcl, hW₂, hsm, hL⟩
  · obtain ⟨⟨v, rfl⟩, hW₂, e2, q2, q3, q4, q5, q6⟩ := id hfe
    have e3 : s₂ = ({ (U.calling g mk a).setFrames s₂.frames with heap := s₂.heap, slotsUsed := s₂.slotsUsed } : State).setVm s₂.vm := by
      have : s₂ = ({ s₂ with vm := (U.calling g mk a).vm } : State).setVm s₂.vm := rfl
      rw [e2] at this
      exact this
    obtain ⟨c₂, i₂, len₂, hc₂, hd₂, hf₂⟩ := hend
    have hW' : U.WarmedH s₂.vm := hW₂
    have hcc : c₂ = c := by
      have h1 : s₂.code? g.method = U.code? g.method := by
        rw [State.code?_eq, State.code?_eq, hW'.alike.method?]
      exact Option.some.inj (hc₂.symm.trans (h1.trans h.code))
    subst hcc
    have hlen : len₂ = len := by rw [hdg] at hd₂; cases hd₂; rfl
    subst hlen
    have hs₂ : s₂ = (({ U with heap := s₂.heap, slotsUsed := s₂.slotsUsed } : State).setVm s₂.vm).setTop { g with pc := g.pc + len₂, stack := v.toList ++ g.stack } := by
      refine e3.trans ?_
      rw [hf₂, State.calling_eq h.top, State.setFrames_setFrames, State.setTop_of_frames _ hr', hr]
      rfl
    have hsame : U.sameButNew ({ U with heap := s₂.heap, slotsUsed := s₂.slotsUsed } : State) L mc ms := by
      refine ⟨?_, q2, q3, q4, q5, q6⟩
      obtain ⟨t, ht, -⟩ := State.frames_cons hr
      show ({ U with heap := s₂.heap, slotsUsed := s₂.slotsUsed } : State) = { U.setFrames U.frames with heap := s₂.heap, slotsUsed := s₂.slotsUsed }
      rw [State.setFrames_self ht]
    subst hg
    refine Or.inl ⟨v, ⟨(({ U with heap := s₂.heap, slotsUsed := s₂.slotsUsed } : State).setVm s₂.vm), Ls ++ L, c0 + mc, s0 + ms⟩,
      ⟨X.admits, X.cas, X.clock, X.frames, X.room, X.hears, X.method, X.code, (X.here.setHeapUsed s₂.heap s₂.slotsUsed).setVm hW'.alike, X.tail, State.WarmedH.trans X.warmed hW', X.limits, X.bytes, X.same.trans (hsame.setVm s.vm)⟩,
      ⟨g, mk, s₂, L, rfl, rfl, hqc, rfl, hL, rfl, rfl⟩, ?_⟩
    show Steps p.tables e below _ ((({ U with heap := s₂.heap, slotsUsed := s₂.slotsUsed } : State).setVm s₂.vm).setTop { g with pc := g.pc + len₂, stack := v.toList ++ g.stack })
    rw [← hs₂]
    exact hsteps
  · obtain ⟨e2, q2, q3, q4, q5, q6⟩ := id hsm
    have e3 : s₂ = ({ (U.calling g mk a).setFrames s₂.frames with heap := s₂.heap, slotsUsed := s₂.slotsUsed } : State).setVm s₂.vm := by
      have : s₂ = ({ s₂ with vm := (U.calling g mk a).vm } : State).setVm s₂.vm := rfl
      rw [e2] at this
      exact this
    have hf₂ : s₂.frames = .throwing q :: .java g :: U.frames.tail := hend
    have hW' : U.WarmedH s₂.vm := hW₂
    have hs₂ : s₂ = ((({ U with heap := s₂.heap, slotsUsed := s₂.slotsUsed } : State).setVm s₂.vm).setTop g).pushFrame (.throwing q) := by
      refine e3.trans ?_
      rw [hf₂, State.calling_eq h.top, State.setFrames_setFrames, State.pushFrame, State.frames_setTop _ hr', State.setTop_of_frames _ hr', State.setFrames_setFrames, hr]
      rfl
    have hsame : U.sameButNew ({ U with heap := s₂.heap, slotsUsed := s₂.slotsUsed } : State) L mc ms := by
      refine ⟨?_, q2, q3, q4, q5, q6⟩
      obtain ⟨t, ht, -⟩ := State.frames_cons hr
      show ({ U with heap := s₂.heap, slotsUsed := s₂.slotsUsed } : State) = { U.setFrames U.frames with heap := s₂.heap, slotsUsed := s₂.slotsUsed }
      rw [State.setFrames_self ht]
    subst hg
    refine Or.inr ⟨q, ⟨(({ U with heap := s₂.heap, slotsUsed := s₂.slotsUsed } : State).setVm s₂.vm), Ls ++ L, c0 + mc, s0 + ms⟩,
      ⟨X.admits, X.cas, X.clock, X.frames, X.room, X.hears, X.method, X.code, (X.here.setHeapUsed s₂.heap s₂.slotsUsed).setVm hW'.alike, X.tail, State.WarmedH.trans X.warmed hW', X.limits, X.bytes, X.same.trans (hsame.setVm s.vm)⟩,
      ⟨g, mk, s₂, L, E, ce, rfl, rfl, hx, hce, hcv, hcl, rfl, hL, rfl, rfl⟩, ?_⟩
    show Steps p.tables e below _ (((({ U with heap := s₂.heap, slotsUsed := s₂.slotsUsed } : State).setVm s₂.vm).setTop g).pushFrame (.throwing q))
    rw [← hs₂]
    exact hsteps
end
variable {p : Program} {l : Launch} {e : Env} {R : Room} {s : State} {m : MethodId} {args : Array Value} {below : List Frame} {meth : Method} {c : Code} {T : State} {H : Heap} {locs : List Loc} {cells slots : Nat}
theorem vx_callVX (X : Stand p l e R s m args below meth c T locs cells slots) (hexec : p.tables.exec = Jvm.exec) {own C : String} {index : Nat} {y : MethodName} {bytes : ByteArray} {maxL : Nat} {ret : Option FieldType} {hh : List (Nat × Nat × Nat × Nat)}
    (hown : s.vm.findClass own = some m.cls) (hlink : (Cond.methodLink own index y).before args s = true) (hinst : (Cond.instanceMethod y).before args s = true) (hsel : (Cond.selects C y y).before args s = true)
    (hcode : (Cond.codeWith y bytes maxL ret hh).before args s = true) (hy : y.cls ≠ "java/lang/invoke/MethodHandle" ∧ y.cls ≠ "java/lang/invoke/VarHandle")
    {W9 : Nat} {Pre : Pt → Array Value → Prop} {Post : Pt → Array Value → Option Value → Pt → Prop} {PostX : Pt → Array Value → Addr → Pt → Prop} (hK : vx_Back l R p e below s args y 3 W9 Pre Post PostX)
    {b : Addr} {cellB : Cell} (hcell : T.heap[b]? = some cellB) (hobj : cellB.vm.isStatics = false) (hcls : s.vm.findClass C = some cellB.cls)
    {g : JFrame} (hg : g.method = m) (hsize : g.locals.size = c.maxLocals) {argsL rest : List Value} (hlen : ∀ sig, parseMethodDescriptor y.desc = some sig → argsL.length = sig.parameters.length)
    (hstack : g.stack = argsL.reverse ++ .ref b :: rest) (hW : 2 * g.monitorRoom + (rest.map fun v => v.category).sum ≤ W9) (hdg : decode c.code g.pc = .ok (.invokevirtual index, 3))
    (hpre : ∀ vm₁, s.WarmedH vm₁ → Pre ⟨T.setVm vm₁, locs, cells, slots⟩ (Value.ref b :: argsL).toArray) :
    (∃ (v : Option Value) (vm₁ : Vm) (B : Pt), s.WarmedH vm₁ ∧ Stand p l e R s m args below meth c B.U B.locs B.cells B.slots ∧ Post ⟨T.setVm vm₁, locs, cells, slots⟩ (Value.ref b :: argsL).toArray v B ∧
      ∀ target, Steps p.tables e below (B.U.setTop { g with pc := g.pc + 3, stack := v.toList ++ rest }) target → Steps p.tables e below (T.setTop g) target) ∨
    (∃ (q : Addr) (vm₁ : Vm) (B : Pt), s.WarmedH vm₁ ∧ Stand p l e R s m args below meth c B.U B.locs B.cells B.slots ∧ PostX ⟨T.setVm vm₁, locs, cells, slots⟩ (Value.ref b :: argsL).toArray q B ∧
      Steps p.tables e below (T.setTop g) ((B.U.setTop { g with stack := rest }).pushFrame (.throwing q))) := by
  obtain ⟨mk, methM, hnamed, hmethM, hstM, habM⟩ := Cond.instanceMethod_spec hinst
  obtain ⟨m8, methM', cM, hn8, hmethM', -, -, -, -, -, -, hsigM⟩ := Cond.codeWith_spec hcode
  cases Option.some.inj (hn8.symm.trans hnamed)
  cases hmethM.symm.trans hmethM'
  obtain ⟨c2, r2, m2, q1, q2, q3, q4, kP, hkP, hkPi⟩ := Cond.selects_spec hsel
  cases hcls.symm.trans q1
  cases (State.methodFound?_of_named hnamed hy).symm.trans q2
  cases hnamed.symm.trans q3
  have hselP : selectMethod e.platform s.vm cellB.cls mk = .method mk := by rw [Launch.admits_selectMethod X.admits]; exact q4
  obtain ⟨vm₁, X₁, hstep₁⟩ := X.invokevirtual hexec hown hlink hnamed hmethM hstM hkP hkPi hy (a := b) (cell := cellB) hcell
    (fun z h => by rw [h] at hobj; cases hobj) hselP hmethM habM hkP hkPi (g := g) hg (argsL := argsL) (rest := rest) (hlen _ hsigM) hstack hdg
  rcases hK m meth c ⟨T.setVm vm₁, locs, cells, slots⟩ { g with stack := rest } (.invokevirtual index) mk (Value.ref b :: argsL).toArray X₁ hg hsize hdg hW (X₁.named hnamed) (hpre vm₁ X₁.warmed) with ⟨v, B, X', hpost, hsteps⟩ | ⟨q, B, X', hpost, hsteps⟩
  · exact Or.inl ⟨v, vm₁, B, X₁.warmed, X', hpost, fun target h => hstep₁ _ fun acts => by rw [doInvoke_state]; exact hsteps.trans h⟩
  · exact Or.inr ⟨q, vm₁, B, X₁.warmed, X', hpost, hstep₁ _ fun acts => by rw [doInvoke_state]; exact hsteps⟩
theorem vx_callSX (X : Stand p l e R s m args below meth c T locs cells slots) (hexec : p.tables.exec = Jvm.exec) {own : String} {index : Nat} {y : MethodName} {bytes : ByteArray} {maxL : Nat} {ret : Option FieldType} {hh : List (Nat × Nat × Nat × Nat)}
    (hown : s.vm.findClass own = some m.cls) (hlink : (Cond.methodLink own index y).before args s = true) (hstat : (Cond.static y).before args s = true) (hinit : (Cond.initialized y.cls).before args s = true)
    (hcode : (Cond.codeWith y bytes maxL ret hh).before args s = true) (hy : y.cls ≠ "java/lang/invoke/MethodHandle" ∧ y.cls ≠ "java/lang/invoke/VarHandle")
    {W9 : Nat} {Pre : Pt → Array Value → Prop} {Post : Pt → Array Value → Option Value → Pt → Prop} {PostX : Pt → Array Value → Addr → Pt → Prop} (hK : vx_Back l R p e below s args y 3 W9 Pre Post PostX)
    {g : JFrame} (hg : g.method = m) (hsize : g.locals.size = c.maxLocals) {argsL rest : List Value} (hlen : ∀ sig, parseMethodDescriptor y.desc = some sig → argsL.length = sig.parameters.length)
    (hstack : g.stack = argsL.reverse ++ rest) (hW : 2 * g.monitorRoom + (rest.map fun v => v.category).sum ≤ W9) (hdg : decode c.code g.pc = .ok (.invokestatic index, 3))
    (hpre : ∀ vm₁, s.WarmedH vm₁ → Pre ⟨T.setVm vm₁, locs, cells, slots⟩ argsL.toArray) :
    (∃ (v : Option Value) (vm₁ : Vm) (B : Pt), s.WarmedH vm₁ ∧ Stand p l e R s m args below meth c B.U B.locs B.cells B.slots ∧ Post ⟨T.setVm vm₁, locs, cells, slots⟩ argsL.toArray v B ∧
      ∀ target, Steps p.tables e below (B.U.setTop { g with pc := g.pc + 3, stack := v.toList ++ rest }) target → Steps p.tables e below (T.setTop g) target) ∨
    (∃ (q : Addr) (vm₁ : Vm) (B : Pt), s.WarmedH vm₁ ∧ Stand p l e R s m args below meth c B.U B.locs B.cells B.slots ∧ PostX ⟨T.setVm vm₁, locs, cells, slots⟩ argsL.toArray q B ∧
      Steps p.tables e below (T.setTop g) ((B.U.setTop { g with stack := rest }).pushFrame (.throwing q))) := by
  obtain ⟨mk, methM, cM, hnamed, hmethM, -, -, -, -, -, -, hsigM⟩ := Cond.codeWith_spec hcode
  have hstatic : methM.isStatic = true := Cond.static_spec hnamed hmethM hstat
  obtain ⟨kP, hkP, -⟩ := className_of_methodNamed hnamed
  have hinitP : kP.init = .initialized := Cond.initialized_spec (findClass_of_methodNamed hnamed) hkP hinit
  obtain ⟨vm₁, X₁, hstep₁⟩ := X.invokestatic hexec hown hlink hnamed hmethM hstatic hkP hinitP hy (g := g) hg (argsL := argsL) (rest := rest) (hlen _ hsigM) hstack hdg
  rcases hK m meth c ⟨T.setVm vm₁, locs, cells, slots⟩ { g with stack := rest } (.invokestatic index) mk argsL.toArray X₁ hg hsize hdg hW (X₁.named hnamed) (hpre vm₁ X₁.warmed) with ⟨v, B, X', hpost, hsteps⟩ | ⟨q, B, X', hpost, hsteps⟩
  · exact Or.inl ⟨v, vm₁, B, X₁.warmed, X', hpost, fun target h => hstep₁ _ fun acts => by rw [doInvoke_state]; exact hsteps.trans h⟩
  · exact Or.inr ⟨q, vm₁, B, X₁.warmed, X', hpost, hstep₁ _ fun acts => by rw [doInvoke_state]; exact hsteps⟩
theorem vx_callVW (X : Stand p l e R s m args below meth c T locs cells slots) (hexec : p.tables.exec = Jvm.exec) {own C : String} {index : Nat} {y : MethodName} {bytes : ByteArray} {maxL : Nat} {ret : Option FieldType} {hh : List (Nat × Nat × Nat × Nat)}
    (hown : s.vm.findClass own = some m.cls) (hlink : (Cond.methodLink own index y).before args s = true) (hinst : (Cond.instanceMethod y).before args s = true) (hsel : (Cond.selects C y y).before args s = true)
    (hcode : (Cond.codeWith y bytes maxL ret hh).before args s = true) (hy : y.cls ≠ "java/lang/invoke/MethodHandle" ∧ y.cls ≠ "java/lang/invoke/VarHandle")
    {W9 : Nat} {Pre : Pt → Array Value → Prop} {Post : Pt → Array Value → Option Value → Pt → Prop} (hK : Back l R p e below s args y 3 W9 Pre Post)
    {b : Addr} {cellB : Cell} (hcell : T.heap[b]? = some cellB) (hobj : cellB.vm.isStatics = false) (hcls : s.vm.findClass C = some cellB.cls)
    {g : JFrame} (hg : g.method = m) (hsize : g.locals.size = c.maxLocals) {argsL rest : List Value} (hlen : ∀ sig, parseMethodDescriptor y.desc = some sig → argsL.length = sig.parameters.length)
    (hstack : g.stack = argsL.reverse ++ .ref b :: rest) (hW : 2 * g.monitorRoom + (rest.map fun v => v.category).sum ≤ W9) (hdg : decode c.code g.pc = .ok (.invokevirtual index, 3))
    (hpre : ∀ vm₁, s.WarmedH vm₁ → Pre ⟨T.setVm vm₁, locs, cells, slots⟩ (Value.ref b :: argsL).toArray) :
    ∃ (v : Option Value) (vm₁ : Vm) (B : Pt), s.WarmedH vm₁ ∧ Stand p l e R s m args below meth c B.U B.locs B.cells B.slots ∧ Post ⟨T.setVm vm₁, locs, cells, slots⟩ (Value.ref b :: argsL).toArray v B ∧
      ∀ target, Steps p.tables e below (B.U.setTop { g with pc := g.pc + 3, stack := v.toList ++ rest }) target → Steps p.tables e below (T.setTop g) target := by
  obtain ⟨mk, methM, hnamed, hmethM, hstM, habM⟩ := Cond.instanceMethod_spec hinst
  obtain ⟨m8, methM', cM, hn8, hmethM', -, -, -, -, -, -, hsigM⟩ := Cond.codeWith_spec hcode
  cases Option.some.inj (hn8.symm.trans hnamed)
  cases hmethM.symm.trans hmethM'
  obtain ⟨c2, r2, m2, q1, q2, q3, q4, kP, hkP, hkPi⟩ := Cond.selects_spec hsel
  cases hcls.symm.trans q1
  cases (State.methodFound?_of_named hnamed hy).symm.trans q2
  cases hnamed.symm.trans q3
  have hselP : selectMethod e.platform s.vm cellB.cls mk = .method mk := by rw [Launch.admits_selectMethod X.admits]; exact q4
  obtain ⟨vm₁, X₁, hstep₁⟩ := X.invokevirtual hexec hown hlink hnamed hmethM hstM hkP hkPi hy (a := b) (cell := cellB) hcell
    (fun z h => by rw [h] at hobj; cases hobj) hselP hmethM habM hkP hkPi (g := g) hg (argsL := argsL) (rest := rest) (hlen _ hsigM) hstack hdg
  obtain ⟨v, B, X', hpost, hsteps⟩ := hK m meth c ⟨T.setVm vm₁, locs, cells, slots⟩ { g with stack := rest } (.invokevirtual index) mk (Value.ref b :: argsL).toArray X₁ hg hsize hdg hW (X₁.named hnamed) (hpre vm₁ X₁.warmed)
  exact ⟨v, vm₁, B, X₁.warmed, X', hpost, fun target h => hstep₁ _ fun acts => by rw [doInvoke_state]; exact hsteps.trans h⟩
abbrev vx_CVW (R : Room) (s : State) (args : Array Value) (own C : String) (index : Nat) (y : MethodName) (bytes : ByteArray) (maxL : Nat) (ret : Option FieldType) (hh : List (Nat × Nat × Nat × Nat)) (ws : List Cond) (rm : Room) (mc ms n : Nat) : Prop :=
  (rm.cells = mc ∧ rm.slots = ms ∧ rm.frames + 1 ≤ R.frames ∧ 8 + (maxL + 11) + rm.locals ≤ R.locals ∧ (∀ w ∈ ws, ∀ (a' : Array Value) (U : State), s.WarmedH U.vm → w.before a' U = true) ∧ Cond.codeWith y bytes maxL ret hh ∈ ws) ∧
  (Cond.codeWith y bytes maxL ret hh).before args s = true ∧ (Cond.initialized y.cls).before args s = true ∧ (y.cls ≠ "java/lang/invoke/MethodHandle" ∧ y.cls ≠ "java/lang/invoke/VarHandle") ∧
  (∀ sig, parseMethodDescriptor y.desc = some sig → n = sig.parameters.length) ∧ (Cond.methodLink own index y).before args s = true ∧ (Cond.instanceMethod y).before args s = true ∧ (Cond.selects C y y).before args s = true
theorem vx_cwVW {own C : String} {index maxL mc ms : Nat} {y : MethodName} {bytes : ByteArray} {ret : Option FieldType} {hh : List (Nat × Nat × Nat × Nat)} {Ts ws ws' : List Cond} {rm : Room} (n : Nat) (ht : ∀ w ∈ Ts, w.before args s = true) (hT : GoodIn Ts (wsV own index C y ws)) (hw : ws = Cond.codeWith y bytes maxL ret hh :: ws') (hrc : rm.cells = mc) (hrs : rm.slots = ms)
    (hd : y.cls = C ∧ y.cls ≠ "java/lang/invoke/MethodHandle" ∧ y.cls ≠ "java/lang/invoke/VarHandle" ∧ (parseMethodDescriptor y.desc).map (fun d => d.parameters.length) = some n) (hR : rm.frames + 1 ≤ R.frames ∧ 8 + (maxL + 11) + rm.locals ≤ R.locals) :
    vx_CVW R s args own C index y bytes maxL ret hh ws rm mc ms n := by
  obtain ⟨hC, hd⟩ := hd
  subst hC
  have ok : ∀ w ∈ wsV own index y.cls y ws, w.before args s = true := fun w h => ht w (hT w h).1
  have hG : GoodIn Ts ws := fun w h => hT w (by unfold wsV; exact List.mem_append_right _ h)
  have hc : Cond.codeWith y bytes maxL ret hh ∈ ws := by rw [hw]; exact List.mem_cons_self
  refine ⟨⟨hrc, hrs, hR.1, hR.2, pay_in ht hG, hc⟩, ht _ (hG _ hc).1, ok _ (by simp [wsV]), ⟨hd.1, hd.2.1⟩, fun sig h => ?_, ok _ (by simp [wsV]), ok _ (by simp [wsV]), ok _ (by simp [wsV])⟩
  have h2 := hd.2.2
  rw [h] at h2
  exact (Option.some.inj h2).symm
theorem vx_runVW {y : MethodName} {bytes cc : ByteArray} {maxL nL mc ms n index : Nat} {ret : Option FieldType} {hh : List (Nat × Nat × Nat × Nat)} {ws : List Cond} {rm : Room} {Pc : Array Value → State → Prop} {Qc : Array Value → State → Outcome → State → Prop} {free : Addr → Prop} {Ts : List Cond} {own C : String} {b : Addr} {As rest : List Value} {g : JFrame}
    (S : CallFix p m c cc nL s args Ts own) (hM : Met l y ws rm Pc Qc mc ms free) (cw : vx_CVW R s args own C index y bytes maxL ret hh ws rm mc ms n) (hp : PreV s H C b Pc As)
    (hg : g.method = m) (hn : As.length = n) (hsize : g.locals.size = nL) (hstack : g.stack = As.reverse ++ .ref b :: rest) (hW : 2 * g.monitorRoom + (rest.map fun v => v.category).sum ≤ 8) (hdg : decode cc g.pc = .ok (.invokevirtual index, 3)) (hf : cells + mc ≤ R.cells ∧ slots + ms ≤ R.slots) :
    va_Run p l e R s m args below meth c H locs cells slots mc ms g rest (Qc (Value.ref b :: As).toArray) free := by
  obtain ⟨⟨hrc, hrs, hfr, hlo, hws, hcw⟩, hcode, hini, hy, hlen, hl, hin, hse⟩ := cw
  have hK : Back l R p e below s args y 3 8 (PreOf R mc ms Pc) (PostOf Qc mc ms free) := va_backW (hh := hh) (bytes := bytes) (maxL := maxL) (ret := ret) hM hp.1 hrc hrs hfr hlo hws hcw (fun a' U hW => word_at hW (Or.inl (by first | rfl | simp [Cond.onTables, Cond.keeps, Cond.steady])) hini)
  obtain ⟨hx, hb, hml, ho, -⟩ := S
  obtain ⟨-, ⟨cellB, hcB, hoB, hclB⟩, hPc⟩ := hp
  intro T hT X
  obtain ⟨v, vm₁, ⟨U', l2, c2, s2⟩, hW₁, X', ⟨g', mk, t, L, e1, e2, hq, h1, hL, h2, h3⟩, st⟩ := vx_callVW X hx (C := C) (hh := hh) (bytes := bytes) (maxL := maxL) (ret := ret) ho hl hin hse hcode hy hK (by rw [hT]; exact hcB) hoB hclB hg (hsize.trans hml.symm) (argsL := As) (rest := rest) (fun sig h => hn.trans (hlen sig h)) hstack hW (by rw [hb]; exact hdg)
    (fun vm₁ hW₁ => ⟨hf.1, hf.2, hPc (T.setVm vm₁) hT hW₁⟩)
  dsimp only [Pt.U, Pt.locs, Pt.cells, Pt.slots] at X' e1 e2 h1 h2 h3 st
  subst h1; subst h2; subst h3
  exact ⟨v, (T.setVm vm₁).calling g' mk (Value.ref b :: As).toArray, t, U', L, hT, X', hL, e1, e2, hq, st⟩
section
variable {y : MethodName} {bytes cc : ByteArray} {maxL nL mc ms n index : Nat} {ret : Option FieldType} {ws : List Cond} {rm : Room} {Pc : Array Value → State → Prop} {Qc : Array Value → State → Outcome → State → Prop} {XC : String → State → State → Prop} {free : Addr → Prop} {Ts : List Cond} {own C : String} {b : Addr} {As rest : List Value} {g : JFrame}
theorem vx_runVX {hh : List (Nat × Nat × Nat × Nat)} (S : CallFix p m c cc nL s args Ts own) (hM : vx_Met l y ws rm Pc Qc XC mc ms free) (cw : vx_CVW R s args own C index y bytes maxL ret hh ws rm mc ms n) (hp : PreV s H C b Pc As)
    (hg : g.method = m) (hn : As.length = n) (hsize : g.locals.size = nL) (hstack : g.stack = As.reverse ++ .ref b :: rest) (hW : 2 * g.monitorRoom + (rest.map fun v => v.category).sum ≤ 8) (hdg : decode cc g.pc = .ok (.invokevirtual index, 3)) (hf : cells + mc ≤ R.cells ∧ slots + ms ≤ R.slots) :
    vx_Run p l e R s m args below meth c H locs cells slots mc ms g rest (Qc (Value.ref b :: As).toArray) XC free := by
  obtain ⟨⟨hrc, hrs, hfr, hlo, hws, hcw⟩, hcode, hini, hy, hlen, hl, hin, hse⟩ := cw
  have hK : vx_Back l R p e below s args y 3 8 (PreOf R mc ms Pc) (PostOf Qc mc ms free) (vx_Post XC mc ms free) := vx_backW (hh := hh) (bytes := bytes) (maxL := maxL) (ret := ret) hM hp.1 hrc hrs hfr hlo hws hcw (fun a' U hW => word_at hW (Or.inl (by first | rfl | simp [Cond.onTables, Cond.keeps, Cond.steady])) hini)
  obtain ⟨hx, hb, hml, ho, -⟩ := S
  obtain ⟨-, ⟨cellB, hcB, hoB, hclB⟩, hPc⟩ := hp
  intro T hT X
  rcases vx_callVX X hx (C := C) (hh := hh) (bytes := bytes) (maxL := maxL) (ret := ret) ho hl hin hse hcode hy hK (by rw [hT]; exact hcB) hoB hclB hg (hsize.trans hml.symm) (argsL := As) (rest := rest) (fun sig h => hn.trans (hlen sig h)) hstack hW (by rw [hb]; exact hdg)
    (fun vm₁ hW₁ => ⟨hf.1, hf.2, hPc (T.setVm vm₁) hT hW₁⟩) with ⟨v, vm₁, ⟨U', l2, c2, s2⟩, hW₁, X', ⟨g', mk, t, L, e1, e2, hq, h1, hL, h2, h3⟩, st⟩ | ⟨q, vm₁, ⟨U', l2, c2, s2⟩, hW₁, X', ⟨g', mk, t, L, E, ce, e1, e2, hq, hce, hcv, hcl, h1, hL, h2, h3⟩, st⟩
  · dsimp only [Pt.U, Pt.locs, Pt.cells, Pt.slots] at X' e1 e2 h1 h2 h3 st
    subst h1; subst h2; subst h3
    exact Or.inl ⟨v, (T.setVm vm₁).calling g' mk (Value.ref b :: As).toArray, t, U', L, hT, X', hL, e1, e2, hq, st⟩
  · dsimp only [Pt.U, Pt.locs, Pt.cells, Pt.slots] at X' e1 e2 h1 h2 h3 st hcl
    subst h1; subst h2; subst h3
    exact Or.inr ⟨q, (T.setVm vm₁).calling g' mk (Value.ref b :: As).toArray, t, U', L, E, ce, hT, X', hL, e1, e2, hq, hce, hcv, vx_cls hW₁ hcl, st⟩
theorem vx_runSX {hh : List (Nat × Nat × Nat × Nat)} (S : CallFix p m c cc nL s args Ts own) (hM : vx_Met l y ws rm Pc Qc XC mc ms free) (cw : vx_CSW R s args own index y bytes maxL ret hh ws rm mc ms n) (hp : PreS s H Pc As)
    (hg : g.method = m) (hn : As.length = n) (hsize : g.locals.size = nL) (hstack : g.stack = As.reverse ++ rest) (hW : 2 * g.monitorRoom + (rest.map fun v => v.category).sum ≤ 8) (hdg : decode cc g.pc = .ok (.invokestatic index, 3)) (hf : cells + mc ≤ R.cells ∧ slots + ms ≤ R.slots) :
    vx_Run p l e R s m args below meth c H locs cells slots mc ms g rest (Qc As.toArray) XC free := by
  obtain ⟨⟨hrc, hrs, hfr, hlo, hws, hcw⟩, hcode, hini, hy, hlen, hl, hstt⟩ := cw
  have hK : vx_Back l R p e below s args y 3 8 (PreOf R mc ms Pc) (PostOf Qc mc ms free) (vx_Post XC mc ms free) := vx_backW (hh := hh) (bytes := bytes) (maxL := maxL) (ret := ret) hM hp.1 hrc hrs hfr hlo hws hcw (fun a' U hW => word_at hW (Or.inl (by first | rfl | simp [Cond.onTables, Cond.keeps, Cond.steady])) hini)
  obtain ⟨hx, hb, hml, ho, -⟩ := S
  intro T hT X
  rcases vx_callSX X hx (hh := hh) (bytes := bytes) (maxL := maxL) (ret := ret) ho hl hstt hini hcode hy hK hg (hsize.trans hml.symm) (argsL := As) (rest := rest) (fun sig h => hn.trans (hlen sig h)) hstack hW (by rw [hb]; exact hdg)
    (fun vm₁ hW₁ => ⟨hf.1, hf.2, hp.2 (T.setVm vm₁) hT hW₁⟩) with ⟨v, vm₁, ⟨U', l2, c2, s2⟩, hW₁, X', ⟨g', mk, t, L, e1, e2, hq, h1, hL, h2, h3⟩, st⟩ | ⟨q, vm₁, ⟨U', l2, c2, s2⟩, hW₁, X', ⟨g', mk, t, L, E, ce, e1, e2, hq, hce, hcv, hcl, h1, hL, h2, h3⟩, st⟩
  · dsimp only [Pt.U, Pt.locs, Pt.cells, Pt.slots] at X' e1 e2 h1 h2 h3 st
    subst h1; subst h2; subst h3
    exact Or.inl ⟨v, (T.setVm vm₁).calling g' mk As.toArray, t, U', L, hT, X', hL, e1, e2, hq, st⟩
  · dsimp only [Pt.U, Pt.locs, Pt.cells, Pt.slots] at X' e1 e2 h1 h2 h3 st hcl
    subst h1; subst h2; subst h3
    exact Or.inr ⟨q, (T.setVm vm₁).calling g' mk As.toArray, t, U', L, E, ce, hT, X', hL, e1, e2, hq, hce, hcv, vx_cls hW₁ hcl, st⟩
end
end VXH
theorem vx_ofWH {l : Launch} {y : MethodName} {ws ws' : List Cond} {rm : Room} {Pc : Array Value → State → Prop} {Qc : Array Value → State → Outcome → State → Prop} {XC : String → State → State → Prop} {mc ms : Nat} {free : Addr → Prop} {cc : ByteArray} {maxL : Nat} {ret : Option FieldType} {hh : List (Nat × Nat × Nat × Nat)}
    (hy : plainName y.cls = true) (hw : ws = Cond.codeWith y cc maxL ret hh :: ws')
    (body : ∀ p e s m args below meth c s₁, BodyLoose p l y (headSpec ws rm) cc maxL ret e s m args below meth c s₁ → c.maxLocals = maxL → Pc args s →
      W p l e (headSpec ws rm).room s m args below meth c s.heap [] 0 0 (vx_MQ below Qc XC args s mc ms free) (entryFrame m args maxL)) : vx_Met l y ws rm Pc Qc XC mc ms free := by
  refine MetFree.of_bodyS (code := cc) (maxLocals := maxL) (ret := ret) hy ?_ ?_
  · intro args s m h hn
    obtain ⟨m9, meth, c, hn9, h1, h2, h3, h4, -, h5, h6, -⟩ := Cond.codeWith_spec (atoms_spec (ws := ws) h _ (by rw [hw]; exact List.mem_cons_self))
    cases hn.symm.trans hn9
    exact ⟨meth, c, h1, h2, h3, h4, h5, h6⟩
  · intro p e s m args below meth c s₁ B hml hP _
    have hh0 : s₁.heap = s.heap := by rw [B.state]; rfl
    obtain ⟨t, a1, o, b1, b2, b3⟩ := body p e s m args below meth c s₁ B hml hP s₁ hh0 (Stand.of_body B)
    exact ⟨t, o, a1, b1, b2, b3⟩
/-! ===== END ===== -/
/-! ===== BEGIN what the machine throws by itself, no traces kept ===== -/
section VXM
set_option maxHeartbeats 1000000 in
/-- the machine throws cls with the message text, no traces kept: from its note over the frame g to 'throwing' over the same frame (follows the proofs of Stand.vmThrowsMessage, Shelf/KitTracedVmS.lean, and Stand.throwsMessageColdBareV, StandMessageColdV.lean, without the step out of the frame) -/
theorem vx_vmAt {p : Program} {l : Launch} {e : Env} {R : Room} {s : State} {m₀ : MethodId} {args : Array Value} {below : List Frame} {meth : Method} {c : Code} {W : State} {locs : List Loc} {cells slots : Nat}
    (X : Stand p l e R s m₀ args below meth c W locs cells slots) (hexec : p.tables.exec = Jvm.exec) (htr : e.platform.stackTraces = false) {cls : String} {names : List String} {text : String}
    (hcls : Bundle.fit cls = true) (hnames : ∀ n ∈ names, Bundle.fit n = true) (hsoe : (cls == "java/lang/StackOverflowError") = false) (hoom : (cls == "java/lang/OutOfMemoryError") = false)
    (h : ∀ a ∈ Bundle.messageArmAtoms cls names, a.before args s = true)
    (hlocs : ∀ x ∈ locs, ∀ cell, s.heap[x.base]? = some cell → cell.vm.isStatics = false)
    (htext : (text == notModelled) = false) (hlimit : ¬ (stringBytes (stringToUtf16 text)).size > e.platform.arrayLengthLimit) (hheap : ¬ (stringBytes (stringToUtf16 text)).size * componentBytes .byte > e.platform.maxHeapBytes)
    {g : JFrame} (hg : g.method = m₀) (hsize : g.locals.size = c.maxLocals)
    (hRframes : names.length + 4 < R.frames) (hRlocals : 2 * g.monitorRoom + (g.stack.map fun v => v.category).sum + 10240 ≤ R.locals) (hshort : 13 * names.length + 55 ≤ 10240)
    (hRcells : cells + 3 ≤ R.cells) (hRslots : slots + ((stringBytes (stringToUtf16 text)).size + 4 + 6) ≤ R.slots) (hlocks : meth.locks = false) :
    ∃ (S : State) (q : Addr) (ce : Cell), (∀ target, Steps p.tables e below ((S.setTop g).pushFrame (.throwing q)) target → Steps p.tables e below ((W.setTop g).pushFrame (.throwNew cls (some text) none)) target) ∧
      Stand p l e R s m₀ args below meth c S locs (cells + 3) (slots + ((stringBytes (stringToUtf16 text)).size + 4 + 6)) ∧ S.heap[q]? = some ce ∧ s.vm.findClass cls = some ce.cls ∧ ce.vm = .none := by
  have howns : e.platform.frameOwnsMonitors = true := by rw [X.admits.platform]
  have hfin : e.platform.finalization = false := by rw [X.admits.platform]
  have hpl : e.platform.magicAccessors = ({} : Platform).magicAccessors := by rw [X.admits.platform]
  have a : ∀ x, x ∈ Bundle.messageArmAtoms cls names → x.holds args s none s [] = true := fun x hx => h x hx
  obtain ⟨T, Z0, L, -, Y⟩ := ThrowableC.of_atoms (args := args) howns hfin hpl (fun x hx => h x (by simp [Bundle.messageArmAtoms, hx]))
  obtain ⟨Z, M, LZ, LM, hnZ⟩ := Init0T.ofS_atoms (args := args) hpl L Y (fun x hx => h x (by simp [Bundle.messageArmAtoms, hx]))
  obtain ⟨P1, Ps, hlen, L1, hL, hP1m, hlink1, hlink⟩ := Bundle.chainS (args := args) hpl hnZ names cls hcls hnames (fun x hx => h x (by simp [Bundle.messageArmAtoms, hx]))
  obtain ⟨Zs, LZs, hn4, hfitv, hfitc⟩ := StringT.of_atoms (args := args) (fun x hx => h x (by simp [Bundle.messageArmAtoms, hx]))
  have hfound : s.vm.findClass cls = some P1.m.cls := findClass_of_methodNamed hP1m
  obtain ⟨c1, kX, hc1, hk, hord, -, -, hn6⟩ := Cond.instantiable_spec (a (.instantiable cls 6) (by simp [Bundle.messageArmAtoms]))
  cases Option.some.inj (hc1.symm.trans hfound)
  have hinit := Cond.initialized_spec hfound hk (a (.initialized cls) (by simp [Bundle.messageArmAtoms]))
  have hctor : kX.findMethod "<init>" "(Ljava/lang/String;)V" = some P1.m.idx := findMethod_of_methodNamed hP1m hk
  have hsel0 : selectMethod e.platform s.vm P1.m.cls T.fill0 = .method T.fill0 := by
    obtain ⟨c2, r2, m2, q1, q2, q3, q4, -⟩ := Cond.selects_spec (a (.selects cls Bundle.tFill0 Bundle.tFill0) (by simp [Bundle.messageArmAtoms]))
    cases Option.some.inj (q1.symm.trans hfound)
    cases Option.some.inj (q2.symm.trans (State.methodFound?_of_named Y.fill0 (by decide)))
    cases Option.some.inj (q3.symm.trans Y.fill0)
    rw [Launch.admits_selectMethod X.admits]; exact q4
  have hselF : selectMethod e.platform s.vm P1.m.cls T.fill = .method T.fill := by
    obtain ⟨c2, r2, m2, q1, q2, q3, q4, -⟩ := Cond.selects_spec (a (.selects cls Bundle.tFill Bundle.tFill) (by simp [Bundle.messageArmAtoms]))
    cases Option.some.inj (q1.symm.trans hfound)
    cases Option.some.inj (q2.symm.trans (State.methodFound?_of_named Y.fill (by decide)))
    cases Option.some.inj (q3.symm.trans Y.fill)
    rw [Launch.admits_selectMethod X.admits]; exact q4
  obtain ⟨cellS0, hcS0, hiss⟩ := Y.statics
  obtain ⟨u0, hu0⟩ := Cond.staticRefV Y.unassigned L.unassignedStatic L.statics hcS0 hiss (a (.isRef (.static Bundle.tN "UNASSIGNED_STACK" Bundle.steD)) (by simp [Bundle.messageArmAtoms]))
  obtain ⟨sen, hsen⟩ := Cond.staticRefV Y.sentinel L.sentinelStatic L.statics hcS0 hiss (a (.isRef (.static Bundle.tN "SUPPRESSED_SENTINEL" Bundle.listD)) (by simp [Bundle.messageArmAtoms]))
  obtain ⟨ci198, i198, fB, hk198, hg198, ha198, hsB, -, hnB, htB, hffB⟩ := Cond.ownField (t := .object "java/lang/Object") Y.found L.cls (by decide +kernel) (a (.fieldLink Bundle.tN 198 Bundle.tN "backtrace" "Ljava/lang/Object;") (by simp [Bundle.messageArmAtoms])) (a (.lays Bundle.tN Bundle.tN "backtrace" "Ljava/lang/Object;") (by simp [Bundle.messageArmAtoms])) e.platform hpl
  obtain ⟨cellS, hcS', heS, -, hkeep⟩ := X.same.2.2.2.2.2 T.aS cellS0 hcS0
  have hcellS : W.heap[T.aS]? = some cellS := hcS'
  have hout' : ∀ i, (⟨T.aS, i⟩ : Loc) ∉ locs := fun i hmem => by
    have := hlocs _ hmem cellS0 hcS0
    rw [hiss] at this; cases this
  have hknownS : cellS.vm ≠ .unknown := by
    rw [heS]; intro hu
    rw [show cellS0.vm = .unknown from hu] at hiss
    cases hiss
  have hvU : cellS.slots[T.fUnassigned.slot]? = some u0.v := by rw [hkeep _ (hout' _)]; exact hu0
  have hvSen : cellS.slots[T.fSentinel.slot]? = some sen.v := by rw [hkeep _ (hout' _)]; exact hsen
  obtain ⟨iM, hffM⟩ := Y.msg
  obtain ⟨tyC, dC, hdC, hdnC⟩ := Cond.laysAt hfound hk Y.cause (a (.lays cls Bundle.tN "cause" "Ljava/lang/Throwable;") (by simp [Bundle.messageArmAtoms]))
  obtain ⟨tyS, dS, hdS, hdnS⟩ := Cond.laysAt hfound hk Y.stack (a (.lays cls Bundle.tN "stackTrace" Bundle.steD) (by simp [Bundle.messageArmAtoms]))
  obtain ⟨tyP, dP, hdP, hdnP⟩ := Cond.laysAt hfound hk Y.supp (a (.lays cls Bundle.tN "suppressedExceptions" Bundle.listD) (by simp [Bundle.messageArmAtoms]))
  obtain ⟨tyM, dM, hdM, hdnM⟩ := Cond.laysAt hfound hk hffM (a (.lays cls Bundle.tN "detailMessage" "Ljava/lang/String;") (by simp [Bundle.messageArmAtoms]))
  obtain ⟨tyB, dB, hdB, hdnB⟩ := Cond.laysAt hfound hk hffB (a (.lays cls Bundle.tN "backtrace" "Ljava/lang/Object;") (by simp [Bundle.messageArmAtoms]))
  have bC := Cond.laysApart hdB hdC hdnB hdnC (by rw [hnB, Y.causeName]; decide)
  have bS := Cond.laysApart hdB hdS hdnB hdnS (by rw [hnB, Y.stackName]; decide)
  have bP := Cond.laysApart hdB hdP hdnB hdnP (by rw [hnB, Y.suppName]; decide)
  have hbk : ((preparedCellV T.toThrowableT (freshCell P1.m.cls kX) (W.heap.size + 2) u0 sen).withEntry W.cur).slots[fB.slot]? = some .null := by
    have := fresh_default (c := P1.m.cls) tyB
    rw [htB] at this
    simpa [preparedCellV, Cell.setSlot, Cell.withEntry, Array.getElem?_setIfInBounds, bC, bS, bP, bC.symm, bS.symm, bP.symm, defaultValue] using this
  have tkC := Takes.of_laid (v := .ref (W.heap.size + 2)) hk hord tyC (by rw [Y.causeType]; rfl)
  have tkS := Takes.of_laid (v := u0.v) hk hord tyS (by rw [Y.stackType]; exact fits_refV_array _ u0)
  have tkP := Takes.of_laid (v := sen.v) hk hord tyP (by rw [Y.suppType]; exact fits_refV_object _ sen)
  have tkM := Takes.of_laid (v := .ref (W.heap.size + 1)) hk hord tyM (by rw [Y.msgType]; rfl)
  have hskip : SkipFacts T e.platform s (fun u => u) u0 ((preparedCellV T.toThrowableT (freshCell P1.m.cls kX) (W.heap.size + 2) u0 sen).withEntry W.cur) := ⟨{ ci198 := ci198, i198 := i198, fBack := fB }, ⟨hk198, hg198, ha198, hsB⟩, hbk, fun _ _ => rfl⟩
  have h0 : At W g.method c below := by rw [hg]; exact X.here
  obtain ⟨hbeyond, hfreeW⟩ := X.vmMayThrow hsize (.throwNew cls (some text) none) (fun f hf => by cases hf) rfl hRlocals
  have hfr' : W.frames.length + Ps.length + 4 < (e.platform.stackLimits W.me).1 := by have := X.framesAbove hRframes; omega
  have hwd' : (stackUse (.java g :: W.frames.tail)).2 + 13 * Ps.length + 55 ≤ (e.platform.stackLimits W.me).2 := by have := X.stackAbove hsize (K := 13 * Ps.length + 55) (by omega); omega
  have hslots : W.slotsUsed + (stringBytes (stringToUtf16 text)).size + Zs.kS.instanceTypes.size + kX.instanceTypes.size ≤ e.platform.maxSlots := by
    have := X.slotsAbove hRslots
    rw [hn4, hn6]
    omega
  obtain ⟨vm', hW', st⟩ := Steps.vmThrowsMessageColdByV p (s₀ := s) (S := W) (g := g) h0 hexec T L Z LZ M LM X.warmed (t := W.cur) rfl Zs LZs P1 L1 Ps hL hlink1 hlink hsoe hoom hfound hk hinit hord hctor
    (Launch.admits_hotImplicitExceptions X.admits) hbeyond hfreeW htext hlimit hheap (X.cellsAbove hRcells) hslots (hfitv _) (hfitc _)
    (Nn := fun u => u) heapOnly_id (fun _ _ => rfl) (fun _ => rfl) (fun u x y => setCell_twice _ _ _ _) (fun _ => Nat.le_refl _) (cN := ((preparedCellV T.toThrowableT (freshCell P1.m.cls kX) (W.heap.size + 2) u0 sen).withEntry W.cur))
    hsel0 hcellS hknownS hvU tkS (fun _ hu => hu) (fun _ hu => hu) rfl rfl rfl (by simp [preparedCellV, Cell.setSlot, Cell.withEntry]) hskip (fun _ _ hA hW _ hroom _ hrest => L.nativeOff p htr hA hW hroom hrest) hselF hvSen tkC tkP tkM Y.objLocals rfl hfr' hwd'
  rw [plainBareV_eq T.toThrowableT (W.heap.size + 2) u0 sen (.ref (W.heap.size + 1)) W.cur rfl rfl] at st
  obtain ⟨-, -, w3, w4, -, -, -⟩ := withThrown_facts e.platform W Zs text P1.m.cls kX
  have X3 := ((X.pushed (bytesOf Zs.cB (stringToUtf16 text))).pushed (stringAt Zs.cS Zs.kS Zs.fv Zs.fc (stringToUtf16 text) W.heap.size)).pushed (freshCell P1.m.cls kX)
  rw [← withString_eq] at X3
  have X4 := X3.noted hW'
  have ha : (W.heap.size + 2) < ((withThrown W Zs text P1.m.cls kX).setVm vm').heap.size := by show _ < (withThrown W Zs text P1.m.cls kX).heap.size; rw [w3]; omega
  have hcell : ((withThrown W Zs text P1.m.cls kX).setVm vm').heap[(W.heap.size + 2)]? = some (freshCell P1.m.cls kX) := w4
  have X5 := ((((X4.stored hcell T.fCause.slot (.ref (W.heap.size + 2))).storedAgain ha T.fStack.slot u0.v).storedAgain ha T.fSupp.slot sen.v).storedAgain ha T.fStack.slot u0.v).storedAgain ha T.fMsg.slot (.ref (W.heap.size + 1))
  obtain ⟨g₁, hfrM⟩ := X5.frames_eq
  have hU : ((((withThrown W Zs text P1.m.cls kX).setVm vm').setCell (W.heap.size + 2) (plainBareV T.toThrowableT (freshCell P1.m.cls kX) (W.heap.size + 2) u0 sen (.ref (W.heap.size + 1)))).setTop g).pushFrame (.throwing (W.heap.size + 2)) = (((withThrown W Zs text P1.m.cls kX).setVm vm').setCell (W.heap.size + 2) (plainBareV T.toThrowableT (freshCell P1.m.cls kX) (W.heap.size + 2) u0 sen (.ref (W.heap.size + 1)))).setFrames (.throwing (W.heap.size + 2) :: .java g :: below) := by
    rw [State.pushFrame, State.frames_setTop _ hfrM, State.setTop_of_frames _ hfrM, State.setFrames_setFrames]
  have b1 : (bytesOf Zs.cB (stringToUtf16 text)).slots.size = (stringBytes (stringToUtf16 text)).size := by
    rw [(Cell.writeAll_facts _ _).2.2]; simp [bytes0]
  have b2 : (stringAt Zs.cS Zs.kS Zs.fv Zs.fc (stringToUtf16 text) W.heap.size).slots.size = 4 := by simp [string0, Cell.setSlot, hn4]
  have b3 : (freshCell P1.m.cls kX).slots.size = 6 := by simp [hn6]
  rw [b1, b2, b3] at X5
  have e9 : slots + (stringBytes (stringToUtf16 text)).size + 4 + 6 = slots + ((stringBytes (stringToUtf16 text)).size + 4 + 6) := by omega
  rw [e9] at X5
  simp only [List.append_assoc, List.cons_append, List.nil_append] at X5
  refine ⟨((withThrown W Zs text P1.m.cls kX).setVm vm').setCell (W.heap.size + 2) (plainBareV T.toThrowableT (freshCell P1.m.cls kX) (W.heap.size + 2) u0 sen (.ref (W.heap.size + 1))), W.heap.size + 2, _, fun target ht => st _ (by rw [X.tail, ← hU]; exact ht),
    X5.forget (fun y hy => ?_), heapAt_setCell_self _ ha, hfound, rfl⟩
  simp only [List.mem_cons, List.not_mem_nil, or_false] at hy
  have hge : s.heap.size ≤ W.heap.size := X.same.2.1
  rcases hy with rfl | rfl | rfl | rfl | rfl <;> exact Nat.le_trans hge (Nat.le_add_right _ 2)
set_option maxHeartbeats 1000000 in
/-- the machine throws NullPointerException, no traces kept: from its note over the frame g to 'throwing' over the same frame (follows the proof of Stand.vmThrowsNpe, Shelf42/KT2.lean; throwsNpeColdBareVAt, Shelf42/NT91.lean, called) -/
theorem vx_npeAt {p : Program} {l : Launch} {e : Env} {R : Room} {s : State} {m₀ : MethodId} {args : Array Value} {below : List Frame} {meth : Method} {c : Code} {W : State} {locs : List Loc} {cells slots : Nat}
    (X : Stand p l e R s m₀ args below meth c W locs cells slots) (hexec : p.tables.exec = Jvm.exec) (htr : e.platform.stackTraces = false) {n : Nat}
    (h : ∀ a ∈ Bundle.npeArmAtoms n, a.before args s = true)
    (hlocs : ∀ x ∈ locs, ∀ cell, s.heap[x.base]? = some cell → cell.vm.isStatics = false)
    {g : JFrame} (hg : g.method = m₀) (hsize : g.locals.size = c.maxLocals)
    (hRframes : 7 < R.frames) (hRlocals : 2 * g.monitorRoom + (g.stack.map fun v => v.category).sum + 10240 ≤ R.locals)
    (hRcells : cells + 1 ≤ R.cells) (hRslots : slots + n ≤ R.slots) (hlocks : meth.locks = false) :
    ∃ (S : State) (q : Addr) (ce : Cell), (∀ target, Steps p.tables e below ((S.setTop g).pushFrame (.throwing q)) target → Steps p.tables e below ((W.setTop g).pushFrame (.throwNew "java/lang/NullPointerException" none none)) target) ∧
      Stand p l e R s m₀ args below meth c S locs (cells + 1) (slots + n) ∧ S.heap[q]? = some ce ∧ s.vm.findClass "java/lang/NullPointerException" = some ce.cls ∧ ce.vm = .none := by
  have howns : e.platform.frameOwnsMonitors = true := by rw [X.admits.platform]
  have hfin : e.platform.finalization = false := by rw [X.admits.platform]
  have hpl : e.platform.magicAccessors = ({} : Platform).magicAccessors := by rw [X.admits.platform]
  have hpl2 : e.platform.arrayCloneIsPublic = true := by rw [X.admits.platform]
  have a' : ∀ x, x ∈ Bundle.npeArmAtoms n → x.holds args s none s [] = true := fun x hx => h x hx
  obtain ⟨T, Z, L, LZ, Y⟩ := ThrowableC.of_atoms (args := args) howns hfin hpl (fun x hx => h x (by simp [Bundle.npeArmAtoms, hx]))
  obtain ⟨N, LN, hcN, hnNF, hordN, hffS⟩ := NpeC.of_atoms (args := args) hpl hpl2 L Y (fun x hx => h x (by simp [Bundle.npeArmAtoms, hx]))
  obtain ⟨P1, L1, hP1m, hP1s⟩ := PassC.of_atoms (args := args) (s := s) hpl (X := Bundle.nN) (Y := Bundle.rN) (by decide) (by decide) LibCode.NullPointerException.Init0.at_0 LibCode.NullPointerException.Init0.at_1 LibCode.NullPointerException.Init0.at_4 (fun x hx => h x (by simp [Bundle.npeArmAtoms, hx]))
  obtain ⟨PR, LR, hPRm, hPRs⟩ := PassC.of_atoms (args := args) (s := s) hpl (X := Bundle.rN) (Y := Bundle.eN) (by decide) (by decide) LibCode.RuntimeException.Init0.at_0 LibCode.RuntimeException.Init0.at_1 LibCode.RuntimeException.Init0.at_4 (fun x hx => h x (by simp [Bundle.npeArmAtoms, hx]))
  obtain ⟨PE, LEx, hPEm, hPEs⟩ := PassC.of_atoms (args := args) (s := s) hpl (X := Bundle.eN) (Y := Bundle.tN) (by decide) (by decide) LibCode.Exception.Init0.at_0 LibCode.Exception.Init0.at_1 LibCode.Exception.Init0.at_4 (fun x hx => h x (by simp [Bundle.npeArmAtoms, hx]))
  have hfound : s.vm.findClass Bundle.nN = some P1.m.cls := findClass_of_methodNamed hP1m
  have ecls : N.cN = P1.m.cls := Option.some.inj (hcN.symm.trans hfound)
  have hk : s.vm.classes[P1.m.cls]? = some N.kN := by rw [← ecls]; exact LN.cls
  have hinit := Cond.initialized_spec hfound hk (a' (.initialized Bundle.nN) (by simp [Bundle.npeArmAtoms]))
  have hctor : N.kN.findMethod "<init>" "()V" = some P1.m.idx := findMethod_of_methodNamed hP1m hk
  obtain ⟨c1, k1, hc1, hk1, -, -, -, hn⟩ := Cond.instantiable_spec (a' (.instantiable Bundle.nN n) (by simp [Bundle.npeArmAtoms]))
  cases Option.some.inj (hc1.symm.trans hfound)
  cases Option.some.inj (hk1.symm.trans hk)
  have hfsz : (freshCell P1.m.cls N.kN).slots.size = n := by simp [hn]
  have hlink1 : P1.sup = PR.m := Option.some.inj (hP1s.symm.trans hPRm)
  have hlinkR : PR.sup = PE.m := Option.some.inj (hPRs.symm.trans hPEm)
  have hlinkE : PE.sup = Z.m T.toThrowableT := Option.some.inj (hPEs.symm.trans Y.init0)
  have hLs : ∀ P, P ∈ [PR, PE] → P.Links0 e.platform s := fun P hP => by
    simp only [List.mem_cons, List.not_mem_nil, or_false] at hP
    rcases hP with rfl | rfl
    · exact LR
    · exact LEx
  have hsel0 : selectMethod e.platform s.vm P1.m.cls T.fill0 = .method T.fill0 := by
    obtain ⟨c2, r2, m2, q1, q2, q3, q4, -⟩ := Cond.selects_spec (a' (.selects Bundle.nN Bundle.tFill0 Bundle.tFill0) (by simp [Bundle.npeArmAtoms]))
    cases Option.some.inj (q1.symm.trans hfound)
    cases Option.some.inj (q2.symm.trans (State.methodFound?_of_named Y.fill0 (by decide)))
    cases Option.some.inj (q3.symm.trans Y.fill0)
    rw [Launch.admits_selectMethod X.admits]; exact q4
  have hselF : selectMethod e.platform s.vm P1.m.cls T.fill = .method N.fill := by
    obtain ⟨c2, r2, m2, q1, q2, q3, q4, -⟩ := Cond.selects_spec (a' (.selects Bundle.nN Bundle.tFill Bundle.nFill) (by simp [Bundle.npeArmAtoms]))
    cases Option.some.inj (q1.symm.trans hfound)
    cases Option.some.inj (q2.symm.trans (State.methodFound?_of_named Y.fill (by decide)))
    cases Option.some.inj (q3.symm.trans hnNF)
    rw [Launch.admits_selectMethod X.admits]; exact q4
  obtain ⟨cellS0, hcS0, hiss⟩ := Y.statics
  obtain ⟨u0, hu0⟩ := Cond.staticRefV Y.unassigned L.unassignedStatic L.statics hcS0 hiss (a' (.isRef (.static Bundle.tN "UNASSIGNED_STACK" Bundle.steD)) (by simp [Bundle.npeArmAtoms]))
  obtain ⟨sen, hsen⟩ := Cond.staticRefV Y.sentinel L.sentinelStatic L.statics hcS0 hiss (a' (.isRef (.static Bundle.tN "SUPPRESSED_SENTINEL" Bundle.listD)) (by simp [Bundle.npeArmAtoms]))
  obtain ⟨ci198, i198, fB, hk198, hg198, ha198, hsB, -, hnB, htB, hffB⟩ := Cond.ownField (t := .object "java/lang/Object") Y.found L.cls (by decide +kernel) (a' (.fieldLink Bundle.tN 198 Bundle.tN "backtrace" Bundle.objD) (by simp [Bundle.npeArmAtoms])) (a' (.lays Bundle.tN Bundle.tN "backtrace" Bundle.objD) (by simp [Bundle.npeArmAtoms])) e.platform hpl
  obtain ⟨cellS, hcS', heS, -, hkeep⟩ := X.same.2.2.2.2.2 T.aS cellS0 hcS0
  have hcellS : W.heap[T.aS]? = some cellS := hcS'
  have hout' : ∀ i, (⟨T.aS, i⟩ : Loc) ∉ locs := fun i hmem => by
    have := hlocs _ hmem cellS0 hcS0
    rw [hiss] at this; cases this
  have hknownS : cellS.vm ≠ .unknown := by
    rw [heS]; intro hu
    rw [show cellS0.vm = .unknown from hu] at hiss
    cases hiss
  have hvU : cellS.slots[T.fUnassigned.slot]? = some u0.v := by rw [hkeep _ (hout' _)]; exact hu0
  have hvSen : cellS.slots[T.fSentinel.slot]? = some sen.v := by rw [hkeep _ (hout' _)]; exact hsen
  obtain ⟨tyC, dC, hdC, hdnC⟩ := Cond.laysAt hfound hk Y.cause (a' (.lays Bundle.nN Bundle.tN "cause" "Ljava/lang/Throwable;") (by simp [Bundle.npeArmAtoms]))
  obtain ⟨tyS, dS, hdS, hdnS⟩ := Cond.laysAt hfound hk Y.stack (a' (.lays Bundle.nN Bundle.tN "stackTrace" Bundle.steD) (by simp [Bundle.npeArmAtoms]))
  obtain ⟨tyP, dP, hdP, hdnP⟩ := Cond.laysAt hfound hk Y.supp (a' (.lays Bundle.nN Bundle.tN "suppressedExceptions" Bundle.listD) (by simp [Bundle.npeArmAtoms]))
  obtain ⟨tyX, dX, hdX, hdnX⟩ := Cond.laysAt hfound hk hffS (a' (.lays Bundle.nN Bundle.nN "extendedMessageState" "I") (by simp [Bundle.npeArmAtoms, Bundle.npeAtoms]))
  obtain ⟨hnX, htX⟩ := State.fieldFound?_type hffS (t := .int) (by decide +kernel)
  have xC := Cond.laysApart hdC hdX hdnC hdnX (by rw [hnX, Y.causeName]; decide)
  have xS := Cond.laysApart hdS hdX hdnS hdnX (by rw [hnX, Y.stackName]; decide)
  have xP := Cond.laysApart hdP hdX hdnP hdnX (by rw [hnX, Y.suppName]; decide)
  have hv0 : (freshCell P1.m.cls N.kN).slots[N.fState.slot]? = some (.int 0) := by
    have := fresh_default (c := P1.m.cls) tyX
    rw [htX] at this; exact this
  obtain ⟨tyB, dB, hdB, hdnB⟩ := Cond.laysAt hfound hk hffB (a' (.lays Bundle.nN Bundle.tN "backtrace" Bundle.objD) (by simp [Bundle.npeArmAtoms]))
  have bC := Cond.laysApart hdB hdC hdnB hdnC (by rw [hnB, Y.causeName]; decide)
  have bS := Cond.laysApart hdB hdS hdnB hdnS (by rw [hnB, Y.stackName]; decide)
  have bP := Cond.laysApart hdB hdP hdnB hdnP (by rw [hnB, Y.suppName]; decide)
  have bX := Cond.laysApart hdB hdX hdnB hdnX (by rw [hnB, hnX]; decide)
  have hbk : ((npeCell N.toNpeT (preparedCellV T.toThrowableT (freshCell P1.m.cls N.kN) W.heap.size u0 sen) W.cur).withEntry W.cur).slots[fB.slot]? = some .null := by
    have := fresh_default (c := P1.m.cls) tyB
    rw [htB] at this
    simpa [npeCell, preparedCellV, Cell.setSlot, Cell.withEntry, Array.getElem?_setIfInBounds, bC, bS, bP, bX, bC.symm, bS.symm, bP.symm, bX.symm, defaultValue] using this
  have tkC := Takes.of_laid (v := .ref W.heap.size) hk hordN tyC (by rw [Y.causeType]; rfl)
  have tkS := Takes.of_laid (v := u0.v) hk hordN tyS (by rw [Y.stackType]; exact fits_refV_array _ u0)
  have tkP := Takes.of_laid (v := sen.v) hk hordN tyP (by rw [Y.suppType]; exact fits_refV_object _ sen)
  have tkX := Takes.of_laid (v := .int 1) hk hordN tyX (by rw [htX]; rfl)
  have hskip : SkipFacts T e.platform s (fun u => u) u0 ((npeCell N.toNpeT (preparedCellV T.toThrowableT (freshCell P1.m.cls N.kN) W.heap.size u0 sen) W.cur).withEntry W.cur) := ⟨{ ci198 := ci198, i198 := i198, fBack := fB }, ⟨hk198, hg198, ha198, hsB⟩, hbk, fun _ _ => rfl⟩
  obtain ⟨vm', X3, st, -⟩ := X.throwsNpeColdBareVAt hexec hg hsize T L Z LZ N LN P1 L1 [PR, PE] hLs hlink1 ⟨hlinkR, hlinkE, trivial⟩ hfound hk hinit hordN hctor hsel0 hselF hcellS hknownS hvU hvSen
    hv0 xC xS xP tkC tkS tkP tkX Y.objLocals hskip (fun _ _ hA hW _ hroom _ hrest => L.nativeOff p htr hA hW hroom hrest) (by simpa using hRframes) hRlocals (by simp) hRcells (by rw [hn]; exact hRslots)
  have hlt : W.heap.size < ((W.pushCell (freshCell P1.m.cls N.kN)).setVm vm').heap.size := by
    show W.heap.size < (W.pushCell (freshCell P1.m.cls N.kN)).heap.size
    rw [State.heap_size_pushCell]; omega
  rw [hfsz] at X3
  obtain ⟨g₁, hfrM⟩ := X3.frames_eq
  have hU : ((((W.pushCell (freshCell P1.m.cls N.kN)).setVm vm').setCell W.heap.size (npeBareV T.toThrowableT N.toNpeT (freshCell P1.m.cls N.kN) W.heap.size u0 sen)).setTop g).pushFrame (.throwing W.heap.size) = (((W.pushCell (freshCell P1.m.cls N.kN)).setVm vm').setCell W.heap.size (npeBareV T.toThrowableT N.toNpeT (freshCell P1.m.cls N.kN) W.heap.size u0 sen)).setFrames (.throwing W.heap.size :: .java g :: below) := by
    rw [State.pushFrame, State.frames_setTop _ hfrM, State.setTop_of_frames _ hfrM, State.setFrames_setFrames]
  refine ⟨_, W.heap.size, _, fun target ht => st.trans (by rw [← hU]; exact ht), X3.forget (fun y hy => ?_), heapAt_setCell_self _ hlt, hfound, rfl⟩
  simp only [List.mem_cons, List.not_mem_nil, or_false] at hy
  have hge : s.heap.size ≤ W.heap.size := X.same.2.1
  rcases hy with rfl | rfl | rfl | rfl | rfl <;> exact hge
/-- the words of a machine's NullPointerException, but the four that speak of the heap -/
def vx_atN (n : Nat) : List Cond := (Bundle.npeArmAtoms n).filter vx_no
/-- the words of a machine's throw with a message, but the four that speak of the heap -/
def vx_atM (X : String) (names : List String) : List Cond := (Bundle.messageArmAtoms X names).filter vx_no
section
variable {p : Program} {l : Launch} {e : Env} {R : Room} {s : State} {m : MethodId} {args : Array Value} {below : List Frame} {meth : Method} {c : Code} {H : Heap} {locs : List Loc} {cells slots : Nat}
/-- a frame seen from a rebased start, seen from the first start again -/
theorem vx_back9 {T S : State} {R' : Room} {k n : Nat} (X : Stand p l e R s m args below meth c T locs cells slots) (Y : Stand p l e R' ((T.setVm s.vm).setFrames (.invoking m args :: below)) m args below meth c T [] 0 0) (Z : Stand p l e R' ((T.setVm s.vm).setFrames (.invoking m args :: below)) m args below meth c S [] k n) :
    Stand p l e R s m args below meth c S locs (cells + k) (slots + n) := by
  have hW0 : s.WarmedH ((T.setVm s.vm).setFrames (.invoking m args :: below)).vm := State.WarmedH.refl s
  refine { admits := X.admits, cas := X.cas, clock := X.clock, frames := X.frames, room := X.room, hears := X.hears, method := X.method, code := X.code, here := Z.here, tail := Z.tail, warmed := State.WarmedH.trans hW0 Z.warmed, limits := Z.limits.trans (Y.limits.symm.trans X.limits), bytes := Z.bytes.trans (Y.bytes.symm.trans X.bytes), same := ?_ }
  obtain ⟨e1, e2⟩ := Z.same
  rw [State.setFrames_setFrames] at e1
  have h2 : (T.setVm s.vm).sameButNew (S.setVm s.vm) [] k n := ⟨e1, e2⟩
  have h3 := X.same.trans h2
  rw [List.append_nil] at h3
  exact h3
/-- from the machine's note that E is thrown here with this text -/
def vx_Note (p : Program) (l : Launch) (e : Env) (R : Room) (s : State) (m : MethodId) (args : Array Value) (below : List Frame) (meth : Method) (c : Code) (H : Heap) (locs : List Loc) (cells slots : Nat) (Q : State → Prop) (g : JFrame) (E text : String) : Prop :=
  ∀ T : State, T.heap = H → Stand p l e R s m args below meth c T locs cells slots → ∃ t, Steps p.tables e below ((T.setTop g).pushFrame (.throwNew E (some text) none)) t ∧ Q t
theorem vx_vm {pc : Nat} {ls : Array Slot} {rest : List Value} {Q : State → Prop} (hexec : p.tables.exec = Jvm.exec) (hl : l.stackTraces = false) {cls text : String} {names : List String} {nb : Nat} {A : Nat → Prop}
    (hcls : Bundle.fit cls = true) (hnames : ∀ n ∈ names, Bundle.fit n = true) (hsoe : (cls == "java/lang/StackOverflowError") = false) (hoom : (cls == "java/lang/OutOfMemoryError") = false)
    (hat : ∀ w ∈ vx_atM cls names, w.before args s = true) (hgood : ∀ w ∈ vx_atM cls names, vx_ot w = true)
    (hU : vx_Zq Bundle.tN "UNASSIGNED_STACK" Bundle.steD A s s.heap) (hN : vx_Zq Bundle.tN "SUPPRESSED_SENTINEL" Bundle.listD A s s.heap) (hS : va_S A s.heap H locs) (hsize : ls.size = c.maxLocals)
    (htext : (text == notModelled) = false) (hnb : (stringBytes (stringToUtf16 text)).size ≤ nb) (hnb1 : nb ≤ 1000)
    (hRframes : names.length + 4 < R.frames) (hRlocals : (rest.map fun v => v.category).sum + 10240 ≤ R.locals) (hshort : 13 * names.length + 55 ≤ 10240) (hRcells : cells + 3 ≤ R.cells) (hRslots : slots + (nb + 10) ≤ R.slots) (hlocks : meth.locks = false)
    (k : ∀ (H1 : Heap) (q9 : Addr) (ce : Cell), H.size ≤ H1.size → (∀ q : Nat, q < H.size → H1[q]? = H[q]?) → va_S A s.heap H1 locs → H1[q9]? = some ce → ce.vm = .none → s.vm.findClass cls = some ce.cls → vx_W p l e R s m args below meth c H1 locs (cells + 3) (slots + (nb + 10)) Q (F0 m pc ls rest) q9) :
    vx_Note p l e R s m args below meth c H locs cells slots Q (F0 m pc ls rest) cls text := by
  intro T hT X
  have htr : e.platform.stackTraces = false := (show e.platform.stackTraces = l.stackTraces by rw [X.admits.platform]).trans hl
  have Y := vx_rebase X (R' := { frames := R.frames, locals := R.locals, cells := 3, slots := nb + 10 }) (Nat.le_refl _) (Nat.le_refl _) hRcells hRslots
  have hhp : ((T.setVm s.vm).setFrames (.invoking m args :: below)).heap = H := hT
  have hW0 : s.WarmedH ((T.setVm s.vm).setFrames (.invoking m args :: below)).vm := State.WarmedH.refl s
  have hat' : ∀ w ∈ vx_atM cls names, w.before args ((T.setVm s.vm).setFrames (.invoking m args :: below)) = true := fun w hw => vx_ot_at hW0 rfl (hgood w hw) (hat w hw)
  have hU' : vx_Zq Bundle.tN "UNASSIGNED_STACK" Bundle.steD A ((T.setVm s.vm).setFrames (.invoking m args :: below)) ((T.setVm s.vm).setFrames (.invoking m args :: below)).heap := by rw [hhp]; exact vx_Zq.moved hW0.alike (hU.kept hS.2.1)
  have hN' : vx_Zq Bundle.tN "SUPPRESSED_SENTINEL" Bundle.listD A ((T.setVm s.vm).setFrames (.invoking m args :: below)) ((T.setVm s.vm).setFrames (.invoking m args :: below)).heap := by rw [hhp]; exact vx_Zq.moved hW0.alike (hN.kept hS.2.1)
  obtain ⟨S, q, ce, st, Z, hce, hcl', hv⟩ := vx_vmAt Y hexec htr (cls := cls) (names := names) (text := text) hcls hnames hsoe hoom (vx_own hat' (vx_isRefq hU'.1) (vx_isRefq hN'.1) hU'.2.word hN'.2.word) (fun x hx => nomatch hx) htext
    (by rw [Launch.admits_arrayLengthLimit X.admits]; omega) (by rw [Launch.admits_maxHeapBytes X.admits]; simp only [componentBytes]; omega)
    (g := F0 m pc ls rest) rfl hsize hRframes (by show 2 * 0 + (rest.map fun v => v.category).sum + 10240 ≤ R.locals; omega) hshort (by show 0 + 3 ≤ 3; omega) (by show 0 + (_ + 4 + 6) ≤ nb + 10; omega) hlocks
  obtain ⟨f1, f2⟩ := vx_frame Z.same
  have f1' : H.size ≤ S.heap.size := by rw [← hT]; exact f1
  have f2' : ∀ q : Nat, q < H.size → S.heap[q]? = H[q]? := fun q hq => by
    rw [← hT]
    exact f2 q (by rw [← hT] at hq; exact hq) (fun z hz => nomatch hz)
  have X5 := vx_back9 X Y Z
  have X6 : Stand p l e R s m args below meth c S locs (cells + 3) (slots + (nb + 10)) := { X5 with same := X5.same.mono (by omega) (by omega) }
  obtain ⟨t, a1, b1⟩ := k S.heap q ce f1' f2' ⟨Nat.le_trans hS.1 f1', fun q h1 h2 => (f2' q (Nat.lt_of_lt_of_le h1 hS.1)).trans (hS.2.1 q h1 h2), hS.2.2⟩ hce hv hcl' S rfl X6
  exact ⟨t, st t a1, b1⟩
/-- from the machine's note that NullPointerException is thrown here -/
def vx_NoteN (p : Program) (l : Launch) (e : Env) (R : Room) (s : State) (m : MethodId) (args : Array Value) (below : List Frame) (meth : Method) (c : Code) (H : Heap) (locs : List Loc) (cells slots : Nat) (Q : State → Prop) (g : JFrame) : Prop :=
  ∀ T : State, T.heap = H → Stand p l e R s m args below meth c T locs cells slots → ∃ t, Steps p.tables e below ((T.setTop g).pushFrame (.throwNew "java/lang/NullPointerException" none none)) t ∧ Q t
theorem vx_npe {pc : Nat} {ls : Array Slot} {rest : List Value} {Q : State → Prop} (hexec : p.tables.exec = Jvm.exec) (hl : l.stackTraces = false) {nb : Nat} {A : Nat → Prop}
    (hat : ∀ w ∈ vx_atN nb, w.before args s = true) (hgood : ∀ w ∈ vx_atN nb, vx_ot w = true)
    (hU : vx_Zq Bundle.tN "UNASSIGNED_STACK" Bundle.steD A s s.heap) (hN : vx_Zq Bundle.tN "SUPPRESSED_SENTINEL" Bundle.listD A s s.heap) (hS : va_S A s.heap H locs) (hsize : ls.size = c.maxLocals)
    (hRframes : 7 < R.frames) (hRlocals : (rest.map fun v => v.category).sum + 10240 ≤ R.locals) (hRcells : cells + 1 ≤ R.cells) (hRslots : slots + nb ≤ R.slots) (hlocks : meth.locks = false)
    (k : ∀ (H1 : Heap) (q9 : Addr) (ce : Cell), H.size ≤ H1.size → (∀ q : Nat, q < H.size → H1[q]? = H[q]?) → va_S A s.heap H1 locs → H1[q9]? = some ce → ce.vm = .none → s.vm.findClass "java/lang/NullPointerException" = some ce.cls → vx_W p l e R s m args below meth c H1 locs (cells + 1) (slots + nb) Q (F0 m pc ls rest) q9) :
    vx_NoteN p l e R s m args below meth c H locs cells slots Q (F0 m pc ls rest) := by
  intro T hT X
  have htr : e.platform.stackTraces = false := (show e.platform.stackTraces = l.stackTraces by rw [X.admits.platform]).trans hl
  have Y := vx_rebase X (R' := { frames := R.frames, locals := R.locals, cells := 1, slots := nb }) (Nat.le_refl _) (Nat.le_refl _) hRcells hRslots
  have hhp : ((T.setVm s.vm).setFrames (.invoking m args :: below)).heap = H := hT
  have hW0 : s.WarmedH ((T.setVm s.vm).setFrames (.invoking m args :: below)).vm := State.WarmedH.refl s
  have hat' : ∀ w ∈ vx_atN nb, w.before args ((T.setVm s.vm).setFrames (.invoking m args :: below)) = true := fun w hw => vx_ot_at hW0 rfl (hgood w hw) (hat w hw)
  have hU' : vx_Zq Bundle.tN "UNASSIGNED_STACK" Bundle.steD A ((T.setVm s.vm).setFrames (.invoking m args :: below)) ((T.setVm s.vm).setFrames (.invoking m args :: below)).heap := by rw [hhp]; exact vx_Zq.moved hW0.alike (hU.kept hS.2.1)
  have hN' : vx_Zq Bundle.tN "SUPPRESSED_SENTINEL" Bundle.listD A ((T.setVm s.vm).setFrames (.invoking m args :: below)) ((T.setVm s.vm).setFrames (.invoking m args :: below)).heap := by rw [hhp]; exact vx_Zq.moved hW0.alike (hN.kept hS.2.1)
  obtain ⟨S, q, ce, st, Z, hce, hcl', hv⟩ := vx_npeAt Y hexec htr (n := nb) (vx_own hat' (vx_isRefq hU'.1) (vx_isRefq hN'.1) hU'.2.word hN'.2.word) (fun x hx => nomatch hx)
    (g := F0 m pc ls rest) rfl hsize hRframes (by show 2 * 0 + (rest.map fun v => v.category).sum + 10240 ≤ R.locals; omega) (by show 0 + 1 ≤ 1; omega) (by show 0 + nb ≤ nb; omega) hlocks
  obtain ⟨f1, f2⟩ := vx_frame Z.same
  have f1' : H.size ≤ S.heap.size := by rw [← hT]; exact f1
  have f2' : ∀ q : Nat, q < H.size → S.heap[q]? = H[q]? := fun q hq => by
    rw [← hT]
    exact f2 q (by rw [← hT] at hq; exact hq) (fun z hz => nomatch hz)
  have X5 := vx_back9 X Y Z
  have X6 : Stand p l e R s m args below meth c S locs (cells + 1) (slots + nb) := { X5 with same := X5.same.mono (by omega) (by omega) }
  obtain ⟨t, a1, b1⟩ := k S.heap q ce f1' f2' ⟨Nat.le_trans hS.1 f1', fun q h1 h2 => (f2' q (Nat.lt_of_lt_of_le h1 hS.1)).trans (hS.2.1 q h1 h2), hS.2.2⟩ hce hv hcl' S rfl X6
  exact ⟨t, st t a1, b1⟩
variable {Q : State → Prop} {cc : ByteArray} {pc : Nat} {ls : Array Slot} {rest : List Value}
theorem vx_idivZ (hexec : p.tables.exec = Jvm.exec) (hb : c.code = cc) {a b : Int32} (h0 : b = 0) (d : decode cc pc = .ok (.idiv, 1)) (k : vx_Note p l e R s m args below meth c H locs cells slots Q (F0 m pc ls rest) "java/lang/ArithmeticException" "/ by zero") :
    W p l e R s m args below meth c H locs cells slots Q (F0 m pc ls (.int b :: .int a :: rest)) := by
  intro T hT X
  obtain ⟨t, st, q⟩ := k T hT X
  exact ⟨t, X.idivZero hexec (g := F0 m pc ls (.int b :: .int a :: rest)) rfl (a := a) (rest := rest) (by rw [h0]) (by rw [hb]; exact d) t st, q⟩
theorem vx_iremZ (hexec : p.tables.exec = Jvm.exec) (hb : c.code = cc) {a b : Int32} (h0 : b = 0) (d : decode cc pc = .ok (.irem, 1)) (k : vx_Note p l e R s m args below meth c H locs cells slots Q (F0 m pc ls rest) "java/lang/ArithmeticException" "/ by zero") :
    W p l e R s m args below meth c H locs cells slots Q (F0 m pc ls (.int b :: .int a :: rest)) := by
  intro T hT X
  obtain ⟨t, st, q⟩ := k T hT X
  exact ⟨t, X.iremZero hexec (g := F0 m pc ls (.int b :: .int a :: rest)) rfl (a := a) (rest := rest) (by rw [h0]) (by rw [hb]; exact d) t st, q⟩
theorem vx_ldivZ (hexec : p.tables.exec = Jvm.exec) (hb : c.code = cc) {a b : Int64} (h0 : b = 0) (d : decode cc pc = .ok (.ldiv, 1)) (k : vx_Note p l e R s m args below meth c H locs cells slots Q (F0 m pc ls rest) "java/lang/ArithmeticException" "/ by zero") :
    W p l e R s m args below meth c H locs cells slots Q (F0 m pc ls (.long b :: .long a :: rest)) := by
  intro T hT X
  obtain ⟨t, st, q⟩ := k T hT X
  exact ⟨t, X.ldivZero hexec (g := F0 m pc ls (.long b :: .long a :: rest)) rfl (a := a) (rest := rest) (by rw [h0]) (by rw [hb]; exact d) t st, q⟩
theorem vx_lremZ (hexec : p.tables.exec = Jvm.exec) (hb : c.code = cc) {a b : Int64} (h0 : b = 0) (d : decode cc pc = .ok (.lrem, 1)) (k : vx_Note p l e R s m args below meth c H locs cells slots Q (F0 m pc ls rest) "java/lang/ArithmeticException" "/ by zero") :
    W p l e R s m args below meth c H locs cells slots Q (F0 m pc ls (.long b :: .long a :: rest)) := by
  intro T hT X
  obtain ⟨t, st, q⟩ := k T hT X
  exact ⟨t, X.lremZero hexec (g := F0 m pc ls (.long b :: .long a :: rest)) rfl (a := a) (rest := rest) (by rw [h0]) (by rw [hb]; exact d) t st, q⟩
theorem vx_ialdZ {D : va_G} {cl : List vw_C} {ws : va_W} {tys : List (ClassId × FieldType)} {a : Nat} (hexec : p.tables.exec = Jvm.exec) (hb : c.code = cc) (hK : va_K D cl tys s) (hP : va_P D cl ws H) (q0 t0 : Nat) {cA : ClassId} {n : Nat} {f : Nat → Int32} (ha : ws[q0]? = some (a, .inl (cA, n, .inl f))) (ht : tys[t0]? = some (cA, .int)) {i : Int32} (hout : ¬ vp_in i n) (hdg : decode cc pc = .ok (.iaload, 1))
    (k : ∀ tx : String, tx = (toString "Index " ++ toString i ++ toString " out of bounds for length " ++ toString n : String) → vx_Note p l e R s m args below meth c H locs cells slots Q (F0 m pc ls rest) "java/lang/ArrayIndexOutOfBoundsException" tx) : W p l e R s m args below meth c H locs cells slots Q (F0 m pc ls (.int i :: .ref a :: rest)) := by
  intro T hT X
  obtain ⟨t, st, q⟩ := k _ rfl T hT X
  refine ⟨t, ?_, q⟩
  have h1 := X.ialoadOut hexec (by rw [hT]; exact hP q0 _ ha) ((hK.2 t0 _ ht).1 n (fun j => .int (f j))) (j := i) (by show (i < 0 ∨ (arrV _ _ _).slots.size ≤ _); rw [arrV_size]; exact Classical.byContradiction hout) (g := F0 m pc ls (.int i :: .ref a :: rest)) rfl (rest := rest) rfl (by rw [hb]; exact hdg) t
  simp only [arrV_size] at h1
  exact h1 st
theorem vx_iastZ {D : va_G} {cl : List vw_C} {ws : va_W} {tys : List (ClassId × FieldType)} {a : Nat} (hexec : p.tables.exec = Jvm.exec) (hb : c.code = cc) (hK : va_K D cl tys s) (hP : va_P D cl ws H) (q0 t0 : Nat) {cA : ClassId} {n : Nat} {f : Nat → Int32} (ha : ws[q0]? = some (a, .inl (cA, n, .inl f))) (ht : tys[t0]? = some (cA, .int)) {i : Int32} {x : Int32} (hout : ¬ vp_in i n) (hdg : decode cc pc = .ok (.iastore, 1))
    (k : ∀ tx : String, tx = (toString "Index " ++ toString i ++ toString " out of bounds for length " ++ toString n : String) → vx_Note p l e R s m args below meth c H locs cells slots Q (F0 m pc ls rest) "java/lang/ArrayIndexOutOfBoundsException" tx) : W p l e R s m args below meth c H locs cells slots Q (F0 m pc ls (.int x :: .int i :: .ref a :: rest)) := by
  intro T hT X
  obtain ⟨t, st, q⟩ := k _ rfl T hT X
  refine ⟨t, ?_, q⟩
  have h1 := X.iastoreOut hexec (by rw [hT]; exact hP q0 _ ha) ((hK.2 t0 _ ht).1 n (fun j => .int (f j))) (j := i) (by show (i < 0 ∨ (arrV _ _ _).slots.size ≤ _); rw [arrV_size]; exact Classical.byContradiction hout) (g := F0 m pc ls (.int x :: .int i :: .ref a :: rest)) rfl (rest := rest) rfl (by rw [hb]; exact hdg) t
  simp only [arrV_size] at h1
  exact h1 st
theorem vx_baldZ {D : va_G} {cl : List vw_C} {ws : va_W} {tys : List (ClassId × FieldType)} {a : Nat} (hexec : p.tables.exec = Jvm.exec) (hb : c.code = cc) (hK : va_K D cl tys s) (hP : va_P D cl ws H) (q0 t0 : Nat) {cA : ClassId} {n : Nat} {f : Nat → Int32} (ha : ws[q0]? = some (a, .inl (cA, n, .inl f))) (ht : tys[t0]? = some (cA, .byte)) {i : Int32} (hout : ¬ vp_in i n) (hdg : decode cc pc = .ok (.baload, 1))
    (k : ∀ tx : String, tx = (toString "Index " ++ toString i ++ toString " out of bounds for length " ++ toString n : String) → vx_Note p l e R s m args below meth c H locs cells slots Q (F0 m pc ls rest) "java/lang/ArrayIndexOutOfBoundsException" tx) : W p l e R s m args below meth c H locs cells slots Q (F0 m pc ls (.int i :: .ref a :: rest)) := by
  intro T hT X
  obtain ⟨t, st, q⟩ := k _ rfl T hT X
  refine ⟨t, ?_, q⟩
  have h1 := X.baloadOut hexec (by rw [hT]; exact hP q0 _ ha) ((hK.2 t0 _ ht).1 n (fun j => .int (f j))) (j := i) (by show (i < 0 ∨ (arrV _ _ _).slots.size ≤ _); rw [arrV_size]; exact Classical.byContradiction hout) (g := F0 m pc ls (.int i :: .ref a :: rest)) rfl (rest := rest) rfl (by rw [hb]; exact hdg) t
  simp only [arrV_size] at h1
  exact h1 st
theorem vx_bastZ {D : va_G} {cl : List vw_C} {ws : va_W} {tys : List (ClassId × FieldType)} {a : Nat} (hexec : p.tables.exec = Jvm.exec) (hb : c.code = cc) (hK : va_K D cl tys s) (hP : va_P D cl ws H) (q0 t0 : Nat) {cA : ClassId} {n : Nat} {f : Nat → Int32} (ha : ws[q0]? = some (a, .inl (cA, n, .inl f))) (ht : tys[t0]? = some (cA, .byte)) {i : Int32} {x : Int32} (hout : ¬ vp_in i n) (hdg : decode cc pc = .ok (.bastore, 1))
    (k : ∀ tx : String, tx = (toString "Index " ++ toString i ++ toString " out of bounds for length " ++ toString n : String) → vx_Note p l e R s m args below meth c H locs cells slots Q (F0 m pc ls rest) "java/lang/ArrayIndexOutOfBoundsException" tx) : W p l e R s m args below meth c H locs cells slots Q (F0 m pc ls (.int x :: .int i :: .ref a :: rest)) := by
  intro T hT X
  obtain ⟨t, st, q⟩ := k _ rfl T hT X
  refine ⟨t, ?_, q⟩
  have h1 := X.bastoreOut hexec (by rw [hT]; exact hP q0 _ ha) ((hK.2 t0 _ ht).1 n (fun j => .int (f j))) (j := i) (by show (i < 0 ∨ (arrV _ _ _).slots.size ≤ _); rw [arrV_size]; exact Classical.byContradiction hout) (g := F0 m pc ls (.int x :: .int i :: .ref a :: rest)) rfl (rest := rest) rfl (by rw [hb]; exact hdg) t
  simp only [arrV_size] at h1
  exact h1 st
theorem vx_zaldZ {D : va_G} {cl : List vw_C} {ws : va_W} {tys : List (ClassId × FieldType)} {a : Nat} (hexec : p.tables.exec = Jvm.exec) (hb : c.code = cc) (hK : va_K D cl tys s) (hP : va_P D cl ws H) (q0 t0 : Nat) {cA : ClassId} {n : Nat} {f : Nat → Int32} (ha : ws[q0]? = some (a, .inl (cA, n, .inl f))) (ht : tys[t0]? = some (cA, .boolean)) {i : Int32} (hout : ¬ vp_in i n) (hdg : decode cc pc = .ok (.baload, 1))
    (k : ∀ tx : String, tx = (toString "Index " ++ toString i ++ toString " out of bounds for length " ++ toString n : String) → vx_Note p l e R s m args below meth c H locs cells slots Q (F0 m pc ls rest) "java/lang/ArrayIndexOutOfBoundsException" tx) : W p l e R s m args below meth c H locs cells slots Q (F0 m pc ls (.int i :: .ref a :: rest)) := by
  intro T hT X
  obtain ⟨t, st, q⟩ := k _ rfl T hT X
  refine ⟨t, ?_, q⟩
  have h1 := X.baloadOut hexec (by rw [hT]; exact hP q0 _ ha) ((hK.2 t0 _ ht).1 n (fun j => .int (f j))) (j := i) (by show (i < 0 ∨ (arrV _ _ _).slots.size ≤ _); rw [arrV_size]; exact Classical.byContradiction hout) (g := F0 m pc ls (.int i :: .ref a :: rest)) rfl (rest := rest) rfl (by rw [hb]; exact hdg) t
  simp only [arrV_size] at h1
  exact h1 st
theorem vx_zastZ {D : va_G} {cl : List vw_C} {ws : va_W} {tys : List (ClassId × FieldType)} {a : Nat} (hexec : p.tables.exec = Jvm.exec) (hb : c.code = cc) (hK : va_K D cl tys s) (hP : va_P D cl ws H) (q0 t0 : Nat) {cA : ClassId} {n : Nat} {f : Nat → Int32} (ha : ws[q0]? = some (a, .inl (cA, n, .inl f))) (ht : tys[t0]? = some (cA, .boolean)) {i : Int32} {x : Int32} (hout : ¬ vp_in i n) (hdg : decode cc pc = .ok (.bastore, 1))
    (k : ∀ tx : String, tx = (toString "Index " ++ toString i ++ toString " out of bounds for length " ++ toString n : String) → vx_Note p l e R s m args below meth c H locs cells slots Q (F0 m pc ls rest) "java/lang/ArrayIndexOutOfBoundsException" tx) : W p l e R s m args below meth c H locs cells slots Q (F0 m pc ls (.int x :: .int i :: .ref a :: rest)) := by
  intro T hT X
  obtain ⟨t, st, q⟩ := k _ rfl T hT X
  refine ⟨t, ?_, q⟩
  have h1 := X.bastoreOut hexec (by rw [hT]; exact hP q0 _ ha) ((hK.2 t0 _ ht).1 n (fun j => .int (f j))) (j := i) (by show (i < 0 ∨ (arrV _ _ _).slots.size ≤ _); rw [arrV_size]; exact Classical.byContradiction hout) (g := F0 m pc ls (.int x :: .int i :: .ref a :: rest)) rfl (rest := rest) rfl (by rw [hb]; exact hdg) t
  simp only [arrV_size] at h1
  exact h1 st
theorem vx_caldZ {D : va_G} {cl : List vw_C} {ws : va_W} {tys : List (ClassId × FieldType)} {a : Nat} (hexec : p.tables.exec = Jvm.exec) (hb : c.code = cc) (hK : va_K D cl tys s) (hP : va_P D cl ws H) (q0 t0 : Nat) {cA : ClassId} {n : Nat} {f : Nat → Int32} (ha : ws[q0]? = some (a, .inl (cA, n, .inl f))) (ht : tys[t0]? = some (cA, .char)) {i : Int32} (hout : ¬ vp_in i n) (hdg : decode cc pc = .ok (.caload, 1))
    (k : ∀ tx : String, tx = (toString "Index " ++ toString i ++ toString " out of bounds for length " ++ toString n : String) → vx_Note p l e R s m args below meth c H locs cells slots Q (F0 m pc ls rest) "java/lang/ArrayIndexOutOfBoundsException" tx) : W p l e R s m args below meth c H locs cells slots Q (F0 m pc ls (.int i :: .ref a :: rest)) := by
  intro T hT X
  obtain ⟨t, st, q⟩ := k _ rfl T hT X
  refine ⟨t, ?_, q⟩
  have h1 := X.caloadOut hexec (by rw [hT]; exact hP q0 _ ha) ((hK.2 t0 _ ht).1 n (fun j => .int (f j))) (j := i) (by show (i < 0 ∨ (arrV _ _ _).slots.size ≤ _); rw [arrV_size]; exact Classical.byContradiction hout) (g := F0 m pc ls (.int i :: .ref a :: rest)) rfl (rest := rest) rfl (by rw [hb]; exact hdg) t
  simp only [arrV_size] at h1
  exact h1 st
theorem vx_castZ {D : va_G} {cl : List vw_C} {ws : va_W} {tys : List (ClassId × FieldType)} {a : Nat} (hexec : p.tables.exec = Jvm.exec) (hb : c.code = cc) (hK : va_K D cl tys s) (hP : va_P D cl ws H) (q0 t0 : Nat) {cA : ClassId} {n : Nat} {f : Nat → Int32} (ha : ws[q0]? = some (a, .inl (cA, n, .inl f))) (ht : tys[t0]? = some (cA, .char)) {i : Int32} {x : Int32} (hout : ¬ vp_in i n) (hdg : decode cc pc = .ok (.castore, 1))
    (k : ∀ tx : String, tx = (toString "Index " ++ toString i ++ toString " out of bounds for length " ++ toString n : String) → vx_Note p l e R s m args below meth c H locs cells slots Q (F0 m pc ls rest) "java/lang/ArrayIndexOutOfBoundsException" tx) : W p l e R s m args below meth c H locs cells slots Q (F0 m pc ls (.int x :: .int i :: .ref a :: rest)) := by
  intro T hT X
  obtain ⟨t, st, q⟩ := k _ rfl T hT X
  refine ⟨t, ?_, q⟩
  have h1 := X.castoreOut hexec (by rw [hT]; exact hP q0 _ ha) ((hK.2 t0 _ ht).1 n (fun j => .int (f j))) (j := i) (by show (i < 0 ∨ (arrV _ _ _).slots.size ≤ _); rw [arrV_size]; exact Classical.byContradiction hout) (g := F0 m pc ls (.int x :: .int i :: .ref a :: rest)) rfl (rest := rest) rfl (by rw [hb]; exact hdg) t
  simp only [arrV_size] at h1
  exact h1 st
theorem vx_saldZ {D : va_G} {cl : List vw_C} {ws : va_W} {tys : List (ClassId × FieldType)} {a : Nat} (hexec : p.tables.exec = Jvm.exec) (hb : c.code = cc) (hK : va_K D cl tys s) (hP : va_P D cl ws H) (q0 t0 : Nat) {cA : ClassId} {n : Nat} {f : Nat → Int32} (ha : ws[q0]? = some (a, .inl (cA, n, .inl f))) (ht : tys[t0]? = some (cA, .short)) {i : Int32} (hout : ¬ vp_in i n) (hdg : decode cc pc = .ok (.saload, 1))
    (k : ∀ tx : String, tx = (toString "Index " ++ toString i ++ toString " out of bounds for length " ++ toString n : String) → vx_Note p l e R s m args below meth c H locs cells slots Q (F0 m pc ls rest) "java/lang/ArrayIndexOutOfBoundsException" tx) : W p l e R s m args below meth c H locs cells slots Q (F0 m pc ls (.int i :: .ref a :: rest)) := by
  intro T hT X
  obtain ⟨t, st, q⟩ := k _ rfl T hT X
  refine ⟨t, ?_, q⟩
  have h1 := X.saloadOut hexec (by rw [hT]; exact hP q0 _ ha) ((hK.2 t0 _ ht).1 n (fun j => .int (f j))) (j := i) (by show (i < 0 ∨ (arrV _ _ _).slots.size ≤ _); rw [arrV_size]; exact Classical.byContradiction hout) (g := F0 m pc ls (.int i :: .ref a :: rest)) rfl (rest := rest) rfl (by rw [hb]; exact hdg) t
  simp only [arrV_size] at h1
  exact h1 st
theorem vx_sastZ {D : va_G} {cl : List vw_C} {ws : va_W} {tys : List (ClassId × FieldType)} {a : Nat} (hexec : p.tables.exec = Jvm.exec) (hb : c.code = cc) (hK : va_K D cl tys s) (hP : va_P D cl ws H) (q0 t0 : Nat) {cA : ClassId} {n : Nat} {f : Nat → Int32} (ha : ws[q0]? = some (a, .inl (cA, n, .inl f))) (ht : tys[t0]? = some (cA, .short)) {i : Int32} {x : Int32} (hout : ¬ vp_in i n) (hdg : decode cc pc = .ok (.sastore, 1))
    (k : ∀ tx : String, tx = (toString "Index " ++ toString i ++ toString " out of bounds for length " ++ toString n : String) → vx_Note p l e R s m args below meth c H locs cells slots Q (F0 m pc ls rest) "java/lang/ArrayIndexOutOfBoundsException" tx) : W p l e R s m args below meth c H locs cells slots Q (F0 m pc ls (.int x :: .int i :: .ref a :: rest)) := by
  intro T hT X
  obtain ⟨t, st, q⟩ := k _ rfl T hT X
  refine ⟨t, ?_, q⟩
  have h1 := X.sastoreOut hexec (by rw [hT]; exact hP q0 _ ha) ((hK.2 t0 _ ht).1 n (fun j => .int (f j))) (j := i) (by show (i < 0 ∨ (arrV _ _ _).slots.size ≤ _); rw [arrV_size]; exact Classical.byContradiction hout) (g := F0 m pc ls (.int x :: .int i :: .ref a :: rest)) rfl (rest := rest) rfl (by rw [hb]; exact hdg) t
  simp only [arrV_size] at h1
  exact h1 st
theorem vx_laldZ {D : va_G} {cl : List vw_C} {ws : va_W} {tys : List (ClassId × FieldType)} {a : Nat} (hexec : p.tables.exec = Jvm.exec) (hb : c.code = cc) (hK : va_K D cl tys s) (hP : va_P D cl ws H) (q0 t0 : Nat) {cA : ClassId} {n : Nat} {f : Nat → Int64} (ha : ws[q0]? = some (a, .inl (cA, n, .inr (.inl f)))) (ht : tys[t0]? = some (cA, .long)) {i : Int32} (hout : ¬ vp_in i n) (hdg : decode cc pc = .ok (.laload, 1))
    (k : ∀ tx : String, tx = (toString "Index " ++ toString i ++ toString " out of bounds for length " ++ toString n : String) → vx_Note p l e R s m args below meth c H locs cells slots Q (F0 m pc ls rest) "java/lang/ArrayIndexOutOfBoundsException" tx) : W p l e R s m args below meth c H locs cells slots Q (F0 m pc ls (.int i :: .ref a :: rest)) := by
  intro T hT X
  obtain ⟨t, st, q⟩ := k _ rfl T hT X
  refine ⟨t, ?_, q⟩
  have h1 := X.laloadOut hexec (by rw [hT]; exact hP q0 _ ha) ((hK.2 t0 _ ht).1 n (fun j => .long (f j))) (j := i) (by show (i < 0 ∨ (arrV _ _ _).slots.size ≤ _); rw [arrV_size]; exact Classical.byContradiction hout) (g := F0 m pc ls (.int i :: .ref a :: rest)) rfl (rest := rest) rfl (by rw [hb]; exact hdg) t
  simp only [arrV_size] at h1
  exact h1 st
theorem vx_lastZ {D : va_G} {cl : List vw_C} {ws : va_W} {tys : List (ClassId × FieldType)} {a : Nat} (hexec : p.tables.exec = Jvm.exec) (hb : c.code = cc) (hK : va_K D cl tys s) (hP : va_P D cl ws H) (q0 t0 : Nat) {cA : ClassId} {n : Nat} {f : Nat → Int64} (ha : ws[q0]? = some (a, .inl (cA, n, .inr (.inl f)))) (ht : tys[t0]? = some (cA, .long)) {i : Int32} {x : Int64} (hout : ¬ vp_in i n) (hdg : decode cc pc = .ok (.lastore, 1))
    (k : ∀ tx : String, tx = (toString "Index " ++ toString i ++ toString " out of bounds for length " ++ toString n : String) → vx_Note p l e R s m args below meth c H locs cells slots Q (F0 m pc ls rest) "java/lang/ArrayIndexOutOfBoundsException" tx) : W p l e R s m args below meth c H locs cells slots Q (F0 m pc ls (.long x :: .int i :: .ref a :: rest)) := by
  intro T hT X
  obtain ⟨t, st, q⟩ := k _ rfl T hT X
  refine ⟨t, ?_, q⟩
  have h1 := X.lastoreOut hexec (by rw [hT]; exact hP q0 _ ha) ((hK.2 t0 _ ht).1 n (fun j => .long (f j))) (j := i) (by show (i < 0 ∨ (arrV _ _ _).slots.size ≤ _); rw [arrV_size]; exact Classical.byContradiction hout) (g := F0 m pc ls (.long x :: .int i :: .ref a :: rest)) rfl (rest := rest) rfl (by rw [hb]; exact hdg) t
  simp only [arrV_size] at h1
  exact h1 st
theorem vx_faldZ {D : va_G} {cl : List vw_C} {ws : va_W} {tys : List (ClassId × FieldType)} {a : Nat} (hexec : p.tables.exec = Jvm.exec) (hb : c.code = cc) (hK : va_K D cl tys s) (hP : va_P D cl ws H) (q0 t0 : Nat) {cA : ClassId} {n : Nat} {f : Nat → UInt32} (ha : ws[q0]? = some (a, .inl (cA, n, .inr (.inr (.inl f))))) (ht : tys[t0]? = some (cA, .float)) {i : Int32} (hout : ¬ vp_in i n) (hdg : decode cc pc = .ok (.faload, 1))
    (k : ∀ tx : String, tx = (toString "Index " ++ toString i ++ toString " out of bounds for length " ++ toString n : String) → vx_Note p l e R s m args below meth c H locs cells slots Q (F0 m pc ls rest) "java/lang/ArrayIndexOutOfBoundsException" tx) : W p l e R s m args below meth c H locs cells slots Q (F0 m pc ls (.int i :: .ref a :: rest)) := by
  intro T hT X
  obtain ⟨t, st, q⟩ := k _ rfl T hT X
  refine ⟨t, ?_, q⟩
  have h1 := X.faloadOut hexec (by rw [hT]; exact hP q0 _ ha) ((hK.2 t0 _ ht).1 n (fun j => .float (f j))) (j := i) (by show (i < 0 ∨ (arrV _ _ _).slots.size ≤ _); rw [arrV_size]; exact Classical.byContradiction hout) (g := F0 m pc ls (.int i :: .ref a :: rest)) rfl (rest := rest) rfl (by rw [hb]; exact hdg) t
  simp only [arrV_size] at h1
  exact h1 st
theorem vx_fastZ {D : va_G} {cl : List vw_C} {ws : va_W} {tys : List (ClassId × FieldType)} {a : Nat} (hexec : p.tables.exec = Jvm.exec) (hb : c.code = cc) (hK : va_K D cl tys s) (hP : va_P D cl ws H) (q0 t0 : Nat) {cA : ClassId} {n : Nat} {f : Nat → UInt32} (ha : ws[q0]? = some (a, .inl (cA, n, .inr (.inr (.inl f))))) (ht : tys[t0]? = some (cA, .float)) {i : Int32} {x : UInt32} (hout : ¬ vp_in i n) (hdg : decode cc pc = .ok (.fastore, 1))
    (k : ∀ tx : String, tx = (toString "Index " ++ toString i ++ toString " out of bounds for length " ++ toString n : String) → vx_Note p l e R s m args below meth c H locs cells slots Q (F0 m pc ls rest) "java/lang/ArrayIndexOutOfBoundsException" tx) : W p l e R s m args below meth c H locs cells slots Q (F0 m pc ls (.float x :: .int i :: .ref a :: rest)) := by
  intro T hT X
  obtain ⟨t, st, q⟩ := k _ rfl T hT X
  refine ⟨t, ?_, q⟩
  have h1 := X.fastoreOut hexec (by rw [hT]; exact hP q0 _ ha) ((hK.2 t0 _ ht).1 n (fun j => .float (f j))) (j := i) (by show (i < 0 ∨ (arrV _ _ _).slots.size ≤ _); rw [arrV_size]; exact Classical.byContradiction hout) (g := F0 m pc ls (.float x :: .int i :: .ref a :: rest)) rfl (rest := rest) rfl (by rw [hb]; exact hdg) t
  simp only [arrV_size] at h1
  exact h1 st
theorem vx_daldZ {D : va_G} {cl : List vw_C} {ws : va_W} {tys : List (ClassId × FieldType)} {a : Nat} (hexec : p.tables.exec = Jvm.exec) (hb : c.code = cc) (hK : va_K D cl tys s) (hP : va_P D cl ws H) (q0 t0 : Nat) {cA : ClassId} {n : Nat} {f : Nat → UInt64} (ha : ws[q0]? = some (a, .inl (cA, n, .inr (.inr (.inr (.inl f)))))) (ht : tys[t0]? = some (cA, .double)) {i : Int32} (hout : ¬ vp_in i n) (hdg : decode cc pc = .ok (.daload, 1))
    (k : ∀ tx : String, tx = (toString "Index " ++ toString i ++ toString " out of bounds for length " ++ toString n : String) → vx_Note p l e R s m args below meth c H locs cells slots Q (F0 m pc ls rest) "java/lang/ArrayIndexOutOfBoundsException" tx) : W p l e R s m args below meth c H locs cells slots Q (F0 m pc ls (.int i :: .ref a :: rest)) := by
  intro T hT X
  obtain ⟨t, st, q⟩ := k _ rfl T hT X
  refine ⟨t, ?_, q⟩
  have h1 := X.daloadOut hexec (by rw [hT]; exact hP q0 _ ha) ((hK.2 t0 _ ht).1 n (fun j => .double (f j))) (j := i) (by show (i < 0 ∨ (arrV _ _ _).slots.size ≤ _); rw [arrV_size]; exact Classical.byContradiction hout) (g := F0 m pc ls (.int i :: .ref a :: rest)) rfl (rest := rest) rfl (by rw [hb]; exact hdg) t
  simp only [arrV_size] at h1
  exact h1 st
theorem vx_dastZ {D : va_G} {cl : List vw_C} {ws : va_W} {tys : List (ClassId × FieldType)} {a : Nat} (hexec : p.tables.exec = Jvm.exec) (hb : c.code = cc) (hK : va_K D cl tys s) (hP : va_P D cl ws H) (q0 t0 : Nat) {cA : ClassId} {n : Nat} {f : Nat → UInt64} (ha : ws[q0]? = some (a, .inl (cA, n, .inr (.inr (.inr (.inl f)))))) (ht : tys[t0]? = some (cA, .double)) {i : Int32} {x : UInt64} (hout : ¬ vp_in i n) (hdg : decode cc pc = .ok (.dastore, 1))
    (k : ∀ tx : String, tx = (toString "Index " ++ toString i ++ toString " out of bounds for length " ++ toString n : String) → vx_Note p l e R s m args below meth c H locs cells slots Q (F0 m pc ls rest) "java/lang/ArrayIndexOutOfBoundsException" tx) : W p l e R s m args below meth c H locs cells slots Q (F0 m pc ls (.double x :: .int i :: .ref a :: rest)) := by
  intro T hT X
  obtain ⟨t, st, q⟩ := k _ rfl T hT X
  refine ⟨t, ?_, q⟩
  have h1 := X.dastoreOut hexec (by rw [hT]; exact hP q0 _ ha) ((hK.2 t0 _ ht).1 n (fun j => .double (f j))) (j := i) (by show (i < 0 ∨ (arrV _ _ _).slots.size ≤ _); rw [arrV_size]; exact Classical.byContradiction hout) (g := F0 m pc ls (.double x :: .int i :: .ref a :: rest)) rfl (rest := rest) rfl (by rw [hb]; exact hdg) t
  simp only [arrV_size] at h1
  exact h1 st
theorem vx_arraylengthN (hexec : p.tables.exec = Jvm.exec) (hb : c.code = cc) (hdg : decode cc pc = .ok (.arraylength, 1)) (k : vx_NoteN p l e R s m args below meth c H locs cells slots Q (F0 m pc ls rest)) : W p l e R s m args below meth c H locs cells slots Q (F0 m pc ls (.null :: rest)) := by
  intro T hT X
  obtain ⟨t, st, q⟩ := k T hT X
  exact ⟨t, X.arraylengthNull hexec (g := F0 m pc ls (.null :: rest)) rfl (rest := rest) rfl (by rw [hb]; exact hdg) t st, q⟩
theorem vx_ialoadN (hexec : p.tables.exec = Jvm.exec) (hb : c.code = cc) {i : Int32} (hdg : decode cc pc = .ok (.iaload, 1)) (k : vx_NoteN p l e R s m args below meth c H locs cells slots Q (F0 m pc ls rest)) : W p l e R s m args below meth c H locs cells slots Q (F0 m pc ls (.int i :: .null :: rest)) := by
  intro T hT X
  obtain ⟨t, st, q⟩ := k T hT X
  exact ⟨t, X.ialoadNull hexec (g := F0 m pc ls (.int i :: .null :: rest)) rfl (rest := rest) rfl (by rw [hb]; exact hdg) t st, q⟩
theorem vx_laloadN (hexec : p.tables.exec = Jvm.exec) (hb : c.code = cc) {i : Int32} (hdg : decode cc pc = .ok (.laload, 1)) (k : vx_NoteN p l e R s m args below meth c H locs cells slots Q (F0 m pc ls rest)) : W p l e R s m args below meth c H locs cells slots Q (F0 m pc ls (.int i :: .null :: rest)) := by
  intro T hT X
  obtain ⟨t, st, q⟩ := k T hT X
  exact ⟨t, X.laloadNull hexec (g := F0 m pc ls (.int i :: .null :: rest)) rfl (rest := rest) rfl (by rw [hb]; exact hdg) t st, q⟩
theorem vx_faloadN (hexec : p.tables.exec = Jvm.exec) (hb : c.code = cc) {i : Int32} (hdg : decode cc pc = .ok (.faload, 1)) (k : vx_NoteN p l e R s m args below meth c H locs cells slots Q (F0 m pc ls rest)) : W p l e R s m args below meth c H locs cells slots Q (F0 m pc ls (.int i :: .null :: rest)) := by
  intro T hT X
  obtain ⟨t, st, q⟩ := k T hT X
  exact ⟨t, X.faloadNull hexec (g := F0 m pc ls (.int i :: .null :: rest)) rfl (rest := rest) rfl (by rw [hb]; exact hdg) t st, q⟩
theorem vx_daloadN (hexec : p.tables.exec = Jvm.exec) (hb : c.code = cc) {i : Int32} (hdg : decode cc pc = .ok (.daload, 1)) (k : vx_NoteN p l e R s m args below meth c H locs cells slots Q (F0 m pc ls rest)) : W p l e R s m args below meth c H locs cells slots Q (F0 m pc ls (.int i :: .null :: rest)) := by
  intro T hT X
  obtain ⟨t, st, q⟩ := k T hT X
  exact ⟨t, X.daloadNull hexec (g := F0 m pc ls (.int i :: .null :: rest)) rfl (rest := rest) rfl (by rw [hb]; exact hdg) t st, q⟩
theorem vx_aaloadN (hexec : p.tables.exec = Jvm.exec) (hb : c.code = cc) {i : Int32} (hdg : decode cc pc = .ok (.aaload, 1)) (k : vx_NoteN p l e R s m args below meth c H locs cells slots Q (F0 m pc ls rest)) : W p l e R s m args below meth c H locs cells slots Q (F0 m pc ls (.int i :: .null :: rest)) := by
  intro T hT X
  obtain ⟨t, st, q⟩ := k T hT X
  exact ⟨t, X.aaloadNull hexec (g := F0 m pc ls (.int i :: .null :: rest)) rfl (rest := rest) rfl (by rw [hb]; exact hdg) t st, q⟩
theorem vx_baloadN (hexec : p.tables.exec = Jvm.exec) (hb : c.code = cc) {i : Int32} (hdg : decode cc pc = .ok (.baload, 1)) (k : vx_NoteN p l e R s m args below meth c H locs cells slots Q (F0 m pc ls rest)) : W p l e R s m args below meth c H locs cells slots Q (F0 m pc ls (.int i :: .null :: rest)) := by
  intro T hT X
  obtain ⟨t, st, q⟩ := k T hT X
  exact ⟨t, X.baloadNull hexec (g := F0 m pc ls (.int i :: .null :: rest)) rfl (rest := rest) rfl (by rw [hb]; exact hdg) t st, q⟩
theorem vx_caloadN (hexec : p.tables.exec = Jvm.exec) (hb : c.code = cc) {i : Int32} (hdg : decode cc pc = .ok (.caload, 1)) (k : vx_NoteN p l e R s m args below meth c H locs cells slots Q (F0 m pc ls rest)) : W p l e R s m args below meth c H locs cells slots Q (F0 m pc ls (.int i :: .null :: rest)) := by
  intro T hT X
  obtain ⟨t, st, q⟩ := k T hT X
  exact ⟨t, X.caloadNull hexec (g := F0 m pc ls (.int i :: .null :: rest)) rfl (rest := rest) rfl (by rw [hb]; exact hdg) t st, q⟩
theorem vx_saloadN (hexec : p.tables.exec = Jvm.exec) (hb : c.code = cc) {i : Int32} (hdg : decode cc pc = .ok (.saload, 1)) (k : vx_NoteN p l e R s m args below meth c H locs cells slots Q (F0 m pc ls rest)) : W p l e R s m args below meth c H locs cells slots Q (F0 m pc ls (.int i :: .null :: rest)) := by
  intro T hT X
  obtain ⟨t, st, q⟩ := k T hT X
  exact ⟨t, X.saloadNull hexec (g := F0 m pc ls (.int i :: .null :: rest)) rfl (rest := rest) rfl (by rw [hb]; exact hdg) t st, q⟩
theorem vx_iastoreN (hexec : p.tables.exec = Jvm.exec) (hb : c.code = cc) {x : Int32} {i : Int32} (hdg : decode cc pc = .ok (.iastore, 1)) (k : vx_NoteN p l e R s m args below meth c H locs cells slots Q (F0 m pc ls rest)) : W p l e R s m args below meth c H locs cells slots Q (F0 m pc ls (.int x :: .int i :: .null :: rest)) := by
  intro T hT X
  obtain ⟨t, st, q⟩ := k T hT X
  exact ⟨t, X.iastoreNull hexec (g := F0 m pc ls (.int x :: .int i :: .null :: rest)) rfl (rest := rest) rfl (by rw [hb]; exact hdg) t st, q⟩
theorem vx_lastoreN (hexec : p.tables.exec = Jvm.exec) (hb : c.code = cc) {x : Int64} {i : Int32} (hdg : decode cc pc = .ok (.lastore, 1)) (k : vx_NoteN p l e R s m args below meth c H locs cells slots Q (F0 m pc ls rest)) : W p l e R s m args below meth c H locs cells slots Q (F0 m pc ls (.long x :: .int i :: .null :: rest)) := by
  intro T hT X
  obtain ⟨t, st, q⟩ := k T hT X
  exact ⟨t, X.lastoreNull hexec (g := F0 m pc ls (.long x :: .int i :: .null :: rest)) rfl (rest := rest) rfl (by rw [hb]; exact hdg) t st, q⟩
theorem vx_fastoreN (hexec : p.tables.exec = Jvm.exec) (hb : c.code = cc) {x : UInt32} {i : Int32} (hdg : decode cc pc = .ok (.fastore, 1)) (k : vx_NoteN p l e R s m args below meth c H locs cells slots Q (F0 m pc ls rest)) : W p l e R s m args below meth c H locs cells slots Q (F0 m pc ls (.float x :: .int i :: .null :: rest)) := by
  intro T hT X
  obtain ⟨t, st, q⟩ := k T hT X
  exact ⟨t, X.fastoreNull hexec (g := F0 m pc ls (.float x :: .int i :: .null :: rest)) rfl (rest := rest) rfl (by rw [hb]; exact hdg) t st, q⟩
theorem vx_dastoreN (hexec : p.tables.exec = Jvm.exec) (hb : c.code = cc) {x : UInt64} {i : Int32} (hdg : decode cc pc = .ok (.dastore, 1)) (k : vx_NoteN p l e R s m args below meth c H locs cells slots Q (F0 m pc ls rest)) : W p l e R s m args below meth c H locs cells slots Q (F0 m pc ls (.double x :: .int i :: .null :: rest)) := by
  intro T hT X
  obtain ⟨t, st, q⟩ := k T hT X
  exact ⟨t, X.dastoreNull hexec (g := F0 m pc ls (.double x :: .int i :: .null :: rest)) rfl (rest := rest) rfl (by rw [hb]; exact hdg) t st, q⟩
theorem vx_bastoreN (hexec : p.tables.exec = Jvm.exec) (hb : c.code = cc) {x : Int32} {i : Int32} (hdg : decode cc pc = .ok (.bastore, 1)) (k : vx_NoteN p l e R s m args below meth c H locs cells slots Q (F0 m pc ls rest)) : W p l e R s m args below meth c H locs cells slots Q (F0 m pc ls (.int x :: .int i :: .null :: rest)) := by
  intro T hT X
  obtain ⟨t, st, q⟩ := k T hT X
  exact ⟨t, X.bastoreNull hexec (g := F0 m pc ls (.int x :: .int i :: .null :: rest)) rfl (rest := rest) rfl (by rw [hb]; exact hdg) t st, q⟩
theorem vx_castoreN (hexec : p.tables.exec = Jvm.exec) (hb : c.code = cc) {x : Int32} {i : Int32} (hdg : decode cc pc = .ok (.castore, 1)) (k : vx_NoteN p l e R s m args below meth c H locs cells slots Q (F0 m pc ls rest)) : W p l e R s m args below meth c H locs cells slots Q (F0 m pc ls (.int x :: .int i :: .null :: rest)) := by
  intro T hT X
  obtain ⟨t, st, q⟩ := k T hT X
  exact ⟨t, X.castoreNull hexec (g := F0 m pc ls (.int x :: .int i :: .null :: rest)) rfl (rest := rest) rfl (by rw [hb]; exact hdg) t st, q⟩
theorem vx_sastoreN (hexec : p.tables.exec = Jvm.exec) (hb : c.code = cc) {x : Int32} {i : Int32} (hdg : decode cc pc = .ok (.sastore, 1)) (k : vx_NoteN p l e R s m args below meth c H locs cells slots Q (F0 m pc ls rest)) : W p l e R s m args below meth c H locs cells slots Q (F0 m pc ls (.int x :: .int i :: .null :: rest)) := by
  intro T hT X
  obtain ⟨t, st, q⟩ := k T hT X
  exact ⟨t, X.sastoreNull hexec (g := F0 m pc ls (.int x :: .int i :: .null :: rest)) rfl (rest := rest) rfl (by rw [hb]; exact hdg) t st, q⟩
theorem vx_invokeN {own C : String} {index maxL : Nat} {y : MethodName} {bytes : ByteArray} {ret : Option FieldType} (hexec : p.tables.exec = Jvm.exec) (hb : c.code = cc) (hown : s.vm.findClass own = some m.cls) (hlink : (Cond.methodLink own index y).before args s = true) (hinst : (Cond.instanceMethod y).before args s = true) (hcode : (Cond.code y bytes maxL ret).before args s = true) (hsel : (Cond.selects C y y).before args s = true)
    (hx : y.cls ≠ "java/lang/invoke/MethodHandle" ∧ y.cls ≠ "java/lang/invoke/VarHandle") {As : List Value} (hlen : (parseMethodDescriptor y.desc).map (fun d => d.parameters.length) = some As.length) (hdg : decode cc pc = .ok (.invokevirtual index, 3))
    (k : vx_NoteN p l e R s m args below meth c H locs cells slots Q (F0 m pc ls rest)) {st0 : List Value} (hst : st0 = As.reverse ++ .null :: rest) : W p l e R s m args below meth c H locs cells slots Q (F0 m pc ls st0) := by
  intro T hT X
  obtain ⟨r0, r, hn, hrm, hstR, hsigR⟩ := va_Decl.of hinst hcode
  obtain ⟨c2, r2, m2, q1, q2, q3, q4, kP, hkP, hkPi⟩ := Cond.selects_spec hsel
  cases hn.symm.trans q3
  have hl9 : As.length = r.sig.parameters.length := by
    rw [hsigR] at hlen
    exact (Option.some.inj hlen).symm
  obtain ⟨vm', X1, st1⟩ := X.invokevirtualNull hexec hown hlink hn hrm hstR hkP hkPi hx (g := F0 m pc ls st0) rfl (argsL := As) (rest := rest) hl9 hst (by rw [hb]; exact hdg)
  obtain ⟨t, st, q⟩ := k (T.setVm vm') hT X1
  exact ⟨t, st1 t st, q⟩
theorem vx_newarrayZ {atype : ArrayType} (hexec : p.tables.exec = Jvm.exec) (hb : c.code = cc) {n : Int32} (h0 : n < 0) (hdg : decode cc pc = .ok (.newarray atype, 2)) (k : ∀ tx : String, tx = toString n → vx_Note p l e R s m args below meth c H locs cells slots Q (F0 m pc ls rest) "java/lang/NegativeArraySizeException" tx) : W p l e R s m args below meth c H locs cells slots Q (F0 m pc ls (.int n :: rest)) := by
  intro T hT X
  obtain ⟨t, st, q⟩ := k _ rfl T hT X
  exact ⟨t, X.newarrayNegative hexec (g := F0 m pc ls (.int n :: rest)) rfl h0 (rest := rest) rfl (by rw [hb]; exact hdg) t st, q⟩
end
end VXM
/-! ===== END ===== -/
/-! ===== BEGIN an exception as an object: made, kept, thrown later (no traces kept) ===== -/
section VXK
variable {p : Program} {l : Launch} {e : Env} {R : Room} {s : State} {m₀ : MethodId} {args : Array Value} {below : List Frame} {meth : Method} {c : Code} {W : State} {locs : List Loc} {cells slots : Nat}
set_option maxHeartbeats 1000000 in
theorem vx_ctorMadeS (X : Stand p l e R s m₀ args below meth c W locs cells slots) (hexec : p.tables.exec = Jvm.exec) (htr : e.platform.stackTraces = false) {own cls : String} {names : List String} {ic : Nat}
    (hown : s.vm.findClass own = some m₀.cls) (hcls : Bundle.fit cls = true) (hnames : ∀ n ∈ names, Bundle.fit n = true)
    (h : ∀ a ∈ Bundle.ownAtoms own ic cls names, a.before args s = true)
    (hlocs : ∀ x ∈ locs, ∀ cell, s.heap[x.base]? = some cell → cell.vm.isStatics = false)
    {a : Addr} {cX : ClassId} {kX : Class} (hfoundX : s.vm.findClass cls = some cX) (hkX : s.vm.classes[cX]? = some kX) (hcell : W.heap[a]? = some (freshCell cX kX)) (hnew : s.heap.size ≤ a)
    {msg : Value} (hmsg : msg.isRef = true)
    {g : JFrame} (hg : g.method = m₀) (hsize : g.locals.size = c.maxLocals) {rest : List Value} (hstack : g.stack = msg :: .ref a :: .ref a :: rest)
    (hd6 : decode c.code g.pc = .ok (.invokespecial ic, 3))
    (hRframes : names.length + 3 < R.frames) (hRlocals : 2 * g.monitorRoom + ((Value.ref a :: rest).map fun v => v.category).sum + (13 * (names.length + 1) + 42) ≤ R.locals) :
    ∃ (V : State) (ce : Cell) (L : List Loc), Stand p l e R s m₀ args below meth c (V.setCell a ce) (locs ++ L) cells slots ∧ (∀ y ∈ L, y.base = a) ∧ a < V.heap.size ∧ ce.cls = cX ∧ ce.vm = .none ∧
      ∀ target, Steps p.tables e below ((V.setCell a ce).setTop { g with stack := .ref a :: rest, pc := g.pc + 3 }) target → Steps p.tables e below (W.setTop g) target := by
  have howns : e.platform.frameOwnsMonitors = true := by rw [X.admits.platform]
  have hfin : e.platform.finalization = false := by rw [X.admits.platform]
  have hpl : e.platform.magicAccessors = ({} : Platform).magicAccessors := by rw [X.admits.platform]
  have a' : ∀ x, x ∈ Bundle.ownAtoms own ic cls names → x.holds args s none s [] = true := fun x hx => h x hx
  obtain ⟨T, Z0, L, -, Y⟩ := ThrowableC.of_atoms (args := args) howns hfin hpl (fun x hx => h x (by simp [Bundle.ownAtoms, hx]))
  obtain ⟨Z, M, LZ, LM, hnZ⟩ := Init0T.ofS_atoms (args := args) hpl L Y (fun x hx => h x (by simp [Bundle.ownAtoms, hx]))
  obtain ⟨P1, Ps, hlen, L1, hL, hP1m, hlink1, hlink⟩ := Bundle.chainS (args := args) hpl hnZ names cls hcls hnames (fun x hx => h x (by simp [Bundle.ownAtoms, hx]))
  have hfound : s.vm.findClass cls = some P1.m.cls := findClass_of_methodNamed hP1m
  cases Option.some.inj (hfoundX.symm.trans hfound)
  obtain ⟨c1, kX', hc1, hk, hord, -, -, hn6⟩ := Cond.instantiable_spec (a' (.instantiable cls 6) (by simp [Bundle.ownAtoms]))
  cases Option.some.inj (hc1.symm.trans hfound)
  cases Option.some.inj (hkX.symm.trans hk)
  have hsel0 : selectMethod e.platform s.vm P1.m.cls T.fill0 = .method T.fill0 := by
    obtain ⟨c2, r2, m2, q1, q2, q3, q4, -⟩ := Cond.selects_spec (a' (.selects cls Bundle.tFill0 Bundle.tFill0) (by simp [Bundle.ownAtoms]))
    cases Option.some.inj (q1.symm.trans hfound)
    cases Option.some.inj (q2.symm.trans (State.methodFound?_of_named Y.fill0 (by decide)))
    cases Option.some.inj (q3.symm.trans Y.fill0)
    rw [Launch.admits_selectMethod X.admits]; exact q4
  have hselF : selectMethod e.platform s.vm P1.m.cls T.fill = .method T.fill := by
    obtain ⟨c2, r2, m2, q1, q2, q3, q4, -⟩ := Cond.selects_spec (a' (.selects cls Bundle.tFill Bundle.tFill) (by simp [Bundle.ownAtoms]))
    cases Option.some.inj (q1.symm.trans hfound)
    cases Option.some.inj (q2.symm.trans (State.methodFound?_of_named Y.fill (by decide)))
    cases Option.some.inj (q3.symm.trans Y.fill)
    rw [Launch.admits_selectMethod X.admits]; exact q4
  obtain ⟨cellS0, hcS0, hiss⟩ := Y.statics
  obtain ⟨u0, hu0⟩ := Cond.staticRefV Y.unassigned L.unassignedStatic L.statics hcS0 hiss (a' (.isRef (.static Bundle.tN "UNASSIGNED_STACK" Bundle.steD)) (by simp [Bundle.ownAtoms]))
  obtain ⟨sen, hsen⟩ := Cond.staticRefV Y.sentinel L.sentinelStatic L.statics hcS0 hiss (a' (.isRef (.static Bundle.tN "SUPPRESSED_SENTINEL" Bundle.listD)) (by simp [Bundle.ownAtoms]))
  obtain ⟨ci198, i198, fB, hk198, hg198, ha198, hsB, -, hnB, htB, hffB⟩ := Cond.ownField (t := .object "java/lang/Object") Y.found L.cls (by decide +kernel) (a' (.fieldLink Bundle.tN 198 Bundle.tN "backtrace" "Ljava/lang/Object;") (by simp [Bundle.ownAtoms])) (a' (.lays Bundle.tN Bundle.tN "backtrace" "Ljava/lang/Object;") (by simp [Bundle.ownAtoms])) e.platform hpl
  obtain ⟨cellS, hcS', heS, -, hkeep⟩ := X.same.2.2.2.2.2 T.aS cellS0 hcS0
  have hcellS : W.heap[T.aS]? = some cellS := hcS'
  have hout' : ∀ i, (⟨T.aS, i⟩ : Loc) ∉ locs := fun i hmem => by
    have := hlocs _ hmem cellS0 hcS0
    rw [hiss] at this; cases this
  have hknownS : cellS.vm ≠ .unknown := by
    rw [heS]; intro hu
    rw [show cellS0.vm = .unknown from hu] at hiss
    cases hiss
  have hneS : T.aS ≠ a := Nat.ne_of_lt (Nat.lt_of_lt_of_le (Array.getElem?_eq_some_iff.mp hcS0).1 hnew)
  obtain ⟨iM, hffM⟩ := Y.msg
  obtain ⟨tyC, dC, hdC, hdnC⟩ := Cond.laysAt hfound hk Y.cause (a' (.lays cls Bundle.tN "cause" "Ljava/lang/Throwable;") (by simp [Bundle.ownAtoms]))
  obtain ⟨tyS, dS, hdS, hdnS⟩ := Cond.laysAt hfound hk Y.stack (a' (.lays cls Bundle.tN "stackTrace" Bundle.steD) (by simp [Bundle.ownAtoms]))
  obtain ⟨tyP, dP, hdP, hdnP⟩ := Cond.laysAt hfound hk Y.supp (a' (.lays cls Bundle.tN "suppressedExceptions" Bundle.listD) (by simp [Bundle.ownAtoms]))
  obtain ⟨tyM, dM, hdM, hdnM⟩ := Cond.laysAt hfound hk hffM (a' (.lays cls Bundle.tN "detailMessage" "Ljava/lang/String;") (by simp [Bundle.ownAtoms]))
  obtain ⟨tyB, dB, hdB, hdnB⟩ := Cond.laysAt hfound hk hffB (a' (.lays cls Bundle.tN "backtrace" "Ljava/lang/Object;") (by simp [Bundle.ownAtoms]))
  have bC := Cond.laysApart hdB hdC hdnB hdnC (by rw [hnB, Y.causeName]; decide)
  have bS := Cond.laysApart hdB hdS hdnB hdnS (by rw [hnB, Y.stackName]; decide)
  have bP := Cond.laysApart hdB hdP hdnB hdnP (by rw [hnB, Y.suppName]; decide)
  have hskip : SkipFacts T e.platform s (fun u => u) u0 ((preparedCellV T.toThrowableT (freshCell P1.m.cls kX) a u0 sen).withEntry W.cur) :=
    ⟨{ ci198 := ci198, i198 := i198, fBack := fB }, ⟨hk198, hg198, ha198, hsB⟩, by
      have := fresh_default (c := P1.m.cls) tyB
      rw [htB] at this
      simpa [preparedCellV, Cell.setSlot, Cell.withEntry, Array.getElem?_setIfInBounds, bC, bS, bP, bC.symm, bS.symm, bP.symm, defaultValue] using this, fun _ _ => rfl⟩
  obtain ⟨tm, methC, cdC, kC, vm₁, hnC, -, -, -, -, -, -, -, hW₁, st1⟩ := Steps.initColdS (tb := p.tables) (e := e) (below := below) (s := s) (U := W) X.here hexec X.warmed hpl hown (t := Bundle.initS cls) rfl rfl (Bundle.fit_spec hcls).2
    (a' (.methodLink own ic (Bundle.initS cls)) (by simp [Bundle.ownAtoms])) (h (.instanceMethod (Bundle.initS cls)) (by cases names <;> simp [Bundle.ownAtoms, Bundle.chainSAtoms, Bundle.passSAtoms])) (bytes := Bundle.six) (maxL := 2) (h (.code (Bundle.initS cls) Bundle.six 2 none) (by cases names <;> simp [Bundle.ownAtoms, Bundle.chainSAtoms, Bundle.passSAtoms]))
    (f := g) hg (a := a) (msg := msg) (rest := .ref a :: rest) hstack hd6
  cases Option.some.inj (hnC.symm.trans hP1m)
  have X₁ := X.noted hW₁
  obtain ⟨vm₂, X₂, st2⟩ := X₁.ctorMessageOffV hexec (g := { g with stack := .ref a :: rest }) hg hsize T L Z LZ M LM (P1 :: Ps)
    (fun P hP => by rcases List.mem_cons.mp hP with rfl | hP; exact L1; exact hL P hP) ⟨hlink1, hlink⟩ (u0 := u0) (sen := sen) (self := a) hmsg (cell := freshCell P1.m.cls kX) (cellS := cellS)
    hcell (fun _ => by simp) (by simp) rfl rfl hsel0 hselF hcellS hneS hknownS (by rw [hkeep _ (hout' _)]; exact hu0) (by rw [hkeep _ (hout' _)]; exact hsen)
    (Takes.of_laid hk hord tyC (by rw [Y.causeType]; rfl)) (Takes.of_laid hk hord tyS (by rw [Y.stackType]; exact fits_refV_array _ u0)) (Takes.of_laid hk hord tyP (by rw [Y.suppType]; exact fits_refV_object _ sen))
    (Takes.of_laid hk hord tyM (by rw [Y.msgType]; exact fits_refV_object _ ⟨msg, hmsg⟩)) Y.objLocals hskip htr [] hd6
    (by simp only [List.length_cons, hlen]; omega) (by simp only [List.length_cons, hlen]; exact hRlocals)
  have hlt : a < ((W.setVm vm₁).setVm vm₂).heap.size := (Array.getElem?_eq_some_iff.mp hcell).1
  refine ⟨(W.setVm vm₁).setVm vm₂, _, _, X₂, fun y hy => ?_, hlt, rfl, rfl, fun target hwalk => st1 _ (fun acts => ?_)⟩
  · simp only [List.mem_cons, List.not_mem_nil, or_false] at hy
    rcases hy with rfl | rfl | rfl | rfl | rfl <;> rfl
  · rw [doInvoke_state]
    exact st2 _ hwalk
set_option maxHeartbeats 1000000 in
theorem vx_ctorMade0 (X : Stand p l e R s m₀ args below meth c W locs cells slots) (hexec : p.tables.exec = Jvm.exec) (htr : e.platform.stackTraces = false) {own cls : String} {names : List String} {ic : Nat}
    (hown : s.vm.findClass own = some m₀.cls) (hcls : Bundle.fit cls = true) (hnames : ∀ n ∈ names, Bundle.fit n = true)
    (h : ∀ a ∈ Bundle.ownAtoms0 own ic cls names, a.before args s = true)
    (hlocs : ∀ x ∈ locs, ∀ cell, s.heap[x.base]? = some cell → cell.vm.isStatics = false)
    {a : Addr} {cX : ClassId} {kX : Class} (hfoundX : s.vm.findClass cls = some cX) (hkX : s.vm.classes[cX]? = some kX) (hcell : W.heap[a]? = some (freshCell cX kX)) (hnew : s.heap.size ≤ a)
    {g : JFrame} (hg : g.method = m₀) (hsize : g.locals.size = c.maxLocals) {rest : List Value} (hstack : g.stack = .ref a :: .ref a :: rest)
    (hd6 : decode c.code g.pc = .ok (.invokespecial ic, 3))
    (hRframes : names.length + 3 < R.frames) (hRlocals : 2 * g.monitorRoom + ((Value.ref a :: rest).map fun v => v.category).sum + (13 * (names.length + 1) + 41) ≤ R.locals) :
    ∃ (V : State) (ce : Cell) (L : List Loc), Stand p l e R s m₀ args below meth c (V.setCell a ce) (locs ++ L) cells slots ∧ (∀ y ∈ L, y.base = a) ∧ a < V.heap.size ∧ ce.cls = cX ∧ ce.vm = .none ∧
      ∀ target, Steps p.tables e below ((V.setCell a ce).setTop { g with stack := .ref a :: rest, pc := g.pc + 3 }) target → Steps p.tables e below (W.setTop g) target := by
  have howns : e.platform.frameOwnsMonitors = true := by rw [X.admits.platform]
  have hfin : e.platform.finalization = false := by rw [X.admits.platform]
  have hpl : e.platform.magicAccessors = ({} : Platform).magicAccessors := by rw [X.admits.platform]
  have a' : ∀ x, x ∈ Bundle.ownAtoms0 own ic cls names → x.holds args s none s [] = true := fun x hx => h x hx
  obtain ⟨T, Z, L, LZ, Y⟩ := ThrowableC.of_atoms (args := args) howns hfin hpl (fun x hx => h x (by simp [Bundle.ownAtoms0, hx]))
  obtain ⟨P1, Ps, hlen, L1, hL, hP1m, hlink1, hlink⟩ := Bundle.chain0 (args := args) hpl Y.init0 names cls hcls hnames (fun x hx => h x (by simp [Bundle.ownAtoms0, hx]))
  have hfound : s.vm.findClass cls = some P1.m.cls := findClass_of_methodNamed hP1m
  cases Option.some.inj (hfoundX.symm.trans hfound)
  obtain ⟨c1, kX', hc1, hk, hord, -, -, hn6⟩ := Cond.instantiable_spec (a' (.instantiable cls 6) (by simp [Bundle.ownAtoms0]))
  cases Option.some.inj (hc1.symm.trans hfound)
  cases Option.some.inj (hkX.symm.trans hk)
  have hsel0 : selectMethod e.platform s.vm P1.m.cls T.fill0 = .method T.fill0 := by
    obtain ⟨c2, r2, m2, q1, q2, q3, q4, -⟩ := Cond.selects_spec (a' (.selects cls Bundle.tFill0 Bundle.tFill0) (by simp [Bundle.ownAtoms0]))
    cases Option.some.inj (q1.symm.trans hfound)
    cases Option.some.inj (q2.symm.trans (State.methodFound?_of_named Y.fill0 (by decide)))
    cases Option.some.inj (q3.symm.trans Y.fill0)
    rw [Launch.admits_selectMethod X.admits]; exact q4
  have hselF : selectMethod e.platform s.vm P1.m.cls T.fill = .method T.fill := by
    obtain ⟨c2, r2, m2, q1, q2, q3, q4, -⟩ := Cond.selects_spec (a' (.selects cls Bundle.tFill Bundle.tFill) (by simp [Bundle.ownAtoms0]))
    cases Option.some.inj (q1.symm.trans hfound)
    cases Option.some.inj (q2.symm.trans (State.methodFound?_of_named Y.fill (by decide)))
    cases Option.some.inj (q3.symm.trans Y.fill)
    rw [Launch.admits_selectMethod X.admits]; exact q4
  obtain ⟨cellS0, hcS0, hiss⟩ := Y.statics
  obtain ⟨u0, hu0⟩ := Cond.staticRefV Y.unassigned L.unassignedStatic L.statics hcS0 hiss (a' (.isRef (.static Bundle.tN "UNASSIGNED_STACK" Bundle.steD)) (by simp [Bundle.ownAtoms0]))
  obtain ⟨sen, hsen⟩ := Cond.staticRefV Y.sentinel L.sentinelStatic L.statics hcS0 hiss (a' (.isRef (.static Bundle.tN "SUPPRESSED_SENTINEL" Bundle.listD)) (by simp [Bundle.ownAtoms0]))
  obtain ⟨ci198, i198, fB, hk198, hg198, ha198, hsB, -, hnB, htB, hffB⟩ := Cond.ownField (t := .object "java/lang/Object") Y.found L.cls (by decide +kernel) (a' (.fieldLink Bundle.tN 198 Bundle.tN "backtrace" "Ljava/lang/Object;") (by simp [Bundle.ownAtoms0])) (a' (.lays Bundle.tN Bundle.tN "backtrace" "Ljava/lang/Object;") (by simp [Bundle.ownAtoms0])) e.platform hpl
  obtain ⟨cellS, hcS', heS, -, hkeep⟩ := X.same.2.2.2.2.2 T.aS cellS0 hcS0
  have hcellS : W.heap[T.aS]? = some cellS := hcS'
  have hout' : ∀ i, (⟨T.aS, i⟩ : Loc) ∉ locs := fun i hmem => by
    have := hlocs _ hmem cellS0 hcS0
    rw [hiss] at this; cases this
  have hknownS : cellS.vm ≠ .unknown := by
    rw [heS]; intro hu
    rw [show cellS0.vm = .unknown from hu] at hiss
    cases hiss
  have hneS : T.aS ≠ a := Nat.ne_of_lt (Nat.lt_of_lt_of_le (Array.getElem?_eq_some_iff.mp hcS0).1 hnew)
  obtain ⟨iM, hffM⟩ := Y.msg
  obtain ⟨tyC, dC, hdC, hdnC⟩ := Cond.laysAt hfound hk Y.cause (a' (.lays cls Bundle.tN "cause" "Ljava/lang/Throwable;") (by simp [Bundle.ownAtoms0]))
  obtain ⟨tyS, dS, hdS, hdnS⟩ := Cond.laysAt hfound hk Y.stack (a' (.lays cls Bundle.tN "stackTrace" Bundle.steD) (by simp [Bundle.ownAtoms0]))
  obtain ⟨tyP, dP, hdP, hdnP⟩ := Cond.laysAt hfound hk Y.supp (a' (.lays cls Bundle.tN "suppressedExceptions" Bundle.listD) (by simp [Bundle.ownAtoms0]))
  obtain ⟨tyM, dM, hdM, hdnM⟩ := Cond.laysAt hfound hk hffM (a' (.lays cls Bundle.tN "detailMessage" "Ljava/lang/String;") (by simp [Bundle.ownAtoms0]))
  obtain ⟨tyB, dB, hdB, hdnB⟩ := Cond.laysAt hfound hk hffB (a' (.lays cls Bundle.tN "backtrace" "Ljava/lang/Object;") (by simp [Bundle.ownAtoms0]))
  have bC := Cond.laysApart hdB hdC hdnB hdnC (by rw [hnB, Y.causeName]; decide)
  have bS := Cond.laysApart hdB hdS hdnB hdnS (by rw [hnB, Y.stackName]; decide)
  have bP := Cond.laysApart hdB hdP hdnB hdnP (by rw [hnB, Y.suppName]; decide)
  have hskip : SkipFacts T e.platform s (fun u => u) u0 ((preparedCellV T.toThrowableT (freshCell P1.m.cls kX) a u0 sen).withEntry W.cur) :=
    ⟨{ ci198 := ci198, i198 := i198, fBack := fB }, ⟨hk198, hg198, ha198, hsB⟩, by
      have := fresh_default (c := P1.m.cls) tyB
      rw [htB] at this
      simpa [preparedCellV, Cell.setSlot, Cell.withEntry, Array.getElem?_setIfInBounds, bC, bS, bP, bC.symm, bS.symm, bP.symm, defaultValue] using this, fun _ _ => rfl⟩
  obtain ⟨tm, methC, cdC, kC, vm₁, hnC, -, -, -, -, -, -, -, hW₁, st1⟩ := Steps.initCold (tb := p.tables) (e := e) (below := below) (s := s) (U := W) X.here hexec X.warmed hpl hown (t := Bundle.init0 cls) rfl rfl (Bundle.fit_spec hcls).2
    (a' (.methodLink own ic (Bundle.init0 cls)) (by simp [Bundle.ownAtoms0])) (h (.instanceMethod (Bundle.init0 cls)) (by cases names <;> simp [Bundle.ownAtoms0, Bundle.chain0Atoms, Bundle.passAtoms])) (bytes := Bundle.five) (maxL := 1) (h (.code (Bundle.init0 cls) Bundle.five 1 none) (by cases names <;> simp [Bundle.ownAtoms0, Bundle.chain0Atoms, Bundle.passAtoms]))
    (f := g) hg (a := a) (rest := .ref a :: rest) hstack hd6
  cases Option.some.inj (hnC.symm.trans hP1m)
  have X₁ := X.noted hW₁
  obtain ⟨vm₂, X₂, st2⟩ := X₁.ctorPlainOffV hexec (g := { g with stack := .ref a :: rest }) hg hsize T L Z LZ (P1 :: Ps)
    (fun P hP => by rcases List.mem_cons.mp hP with rfl | hP; exact L1; exact hL P hP) ⟨hlink1, hlink⟩ (u0 := u0) (sen := sen) (self := a) (cell := freshCell P1.m.cls kX) (cellS := cellS)
    hcell (fun _ => by simp) (by simp) rfl rfl hsel0 hselF hcellS hneS hknownS (by rw [hkeep _ (hout' _)]; exact hu0) (by rw [hkeep _ (hout' _)]; exact hsen)
    (Takes.of_laid hk hord tyC (by rw [Y.causeType]; rfl)) (Takes.of_laid hk hord tyS (by rw [Y.stackType]; exact fits_refV_array _ u0)) (Takes.of_laid hk hord tyP (by rw [Y.suppType]; exact fits_refV_object _ sen)) Y.objLocals hskip htr [] hd6
    (by simp only [List.length_cons, hlen]; omega) (by simp only [List.length_cons, hlen]; exact hRlocals)
  have hlt : a < ((W.setVm vm₁).setVm vm₂).heap.size := (Array.getElem?_eq_some_iff.mp hcell).1
  refine ⟨(W.setVm vm₁).setVm vm₂, _, _, X₂, fun y hy => ?_, hlt, rfl, rfl, fun target hwalk => st1 _ (fun acts => ?_)⟩
  · simp only [List.mem_cons, List.not_mem_nil, or_false] at hy
    rcases hy with rfl | rfl | rfl | rfl <;> rfl
  · rw [doInvoke_state]
    exact st2 _ hwalk
end VXK
section VXK2
variable {p : Program} {l : Launch} {e : Env} {R : Room} {s : State} {m : MethodId} {args : Array Value} {below : List Frame} {meth : Method} {c : Code} {H : Heap} {locs : List Loc} {cells slots : Nat} {Q : State → Prop}
variable {ls : Array Slot} {rest : List Value} {D : va_G} {cl : List vw_C} {tys : List (ClassId × FieldType)} {ws : va_W}
/-- 'new E("text")' that isn't thrown at once: the object goes on the stack -/
theorem vx_makeS {cc : ByteArray} {pc : Nat} (hexec : p.tables.exec = Jvm.exec) (hb : c.code = cc) (hl : l.stackTraces = false) {own cls text : String} {names : List String} {ik is ic sa ci : Nat} {A : Nat → Prop} {T0 : u_T}
    (hown : s.vm.findClass own = some m.cls) (hcls : Bundle.fit cls = true) (hnames : ∀ n ∈ names, Bundle.fit n = true)
    (hk : (Cond.classLink own ik cls).before args s = true) (hini : (Cond.initialized cls).before args s = true) (hstr : vk_R own is text sa s) (hat : ∀ w ∈ vx_atS own ic cls names, w.before args s = true)
    (hgood : ∀ w ∈ Cond.classLink own ik cls :: Cond.initialized cls :: vx_atS own ic cls names, vx_ot w = true)
    (hU : vx_Zq Bundle.tN "UNASSIGNED_STACK" Bundle.steD A s s.heap) (hN : vx_Zq Bundle.tN "SUPPRESSED_SENTINEL" Bundle.listD A s s.heap) (hS : va_S A s.heap H locs) (hsize : ls.size = c.maxLocals)
    (d0 : decode cc pc = .ok (.new ik, 3)) (d3 : decode cc (pc + 3) = .ok (.dup, 1)) (d4 : decode cc (pc + 4) = .ok (.ldc is, 2)) (d6 : decode cc (pc + 6) = .ok (.invokespecial ic, 3))
    (hK : va_K D cl tys s) (hP : va_P D cl ws H) (hD : va_D A ws) (hA : ∀ q, s.heap.size ≤ q → A q) (hc : cl[ci]? = some (cls, T0, 0))
    (hRframes : names.length + 3 < R.frames) (hRlocals : (rest.map fun v => v.category).sum + (13 * (names.length + 1) + 43) ≤ R.locals) (hRcells : cells + 1 ≤ R.cells) (hRslots : slots + 6 ≤ R.slots)
    (kk : ∀ (q : Nat) (H1 : Heap), va_P D cl (ws ++ [(q, .inr (ci, []))]) H1 → va_D A (ws ++ [(q, .inr (ci, []))]) → va_S A s.heap H1 locs → W p l e R s m args below meth c H1 locs (cells + 1) (slots + 6) Q (F0 m (pc + 9) ls (.ref q :: rest))) :
    W p l e R s m args below meth c H locs cells slots Q (F0 m pc ls rest) := by
  intro T hT X
  subst hT
  have htr : e.platform.stackTraces = false := (show e.platform.stackTraces = l.stackTraces by rw [X.admits.platform]).trans hl
  have Y := vx_rebase X (R' := { frames := R.frames, locals := R.locals, cells := 1, slots := 6 }) (Nat.le_refl _) (Nat.le_refl _) hRcells hRslots
  obtain ⟨s', hA'⟩ : ∃ z, z = (T.setVm s.vm).setFrames (.invoking m args :: below) := ⟨_, rfl⟩
  rw [← hA'] at Y
  have hvm : s'.vm = s.vm := by rw [hA']; rfl
  have hhp : s'.heap = T.heap := by rw [hA']; rfl
  have hW0 : s.WarmedH s'.vm := by rw [hvm]; exact State.WarmedH.refl s
  have hat' : ∀ w ∈ vx_atS own ic cls names, w.before args s' = true := fun w hw => vx_ot_at hW0 hvm.symm (hgood w (List.mem_cons_of_mem _ (List.mem_cons_of_mem _ hw))) (hat w hw)
  have hk' : (Cond.classLink own ik cls).before args s' = true := vx_ot_at hW0 hvm.symm (hgood _ List.mem_cons_self) hk
  have hini' : (Cond.initialized cls).before args s' = true := vx_ot_at hW0 hvm.symm (hgood _ (List.mem_cons_of_mem _ List.mem_cons_self)) hini
  have hU' : vx_Zq Bundle.tN "UNASSIGNED_STACK" Bundle.steD A s' s'.heap := by rw [hhp]; exact vx_Zq.moved hW0.alike (hU.kept hS.2.1)
  have hN' : vx_Zq Bundle.tN "SUPPRESSED_SENTINEL" Bundle.listD A s' s'.heap := by rw [hhp]; exact vx_Zq.moved hW0.alike (hN.kept hS.2.1)
  have h : ∀ w ∈ Bundle.ownAtoms own ic cls names, w.before args s' = true := vx_own hat' (vx_isRefq hU'.1) (vx_isRefq hN'.1) hU'.2.word hN'.2.word
  have hown' : s'.vm.findClass own = some m.cls := by rw [hvm]; exact hown
  have hins : (Cond.instantiable cls 6).before args s' = true := h _ (by simp [Bundle.ownAtoms])
  obtain ⟨vm₁, cX, kX, hfX, hkX, -, -, X₁, st1⟩ := Y.newCold hexec (own := own) (C := cls) (index := ik) (n := 6) hown' hk' hins hini'
    (g := F0 m pc ls rest) rfl (by rw [hb]; exact d0) (Nat.le_refl _) (Nat.le_refl _)
  generalize hT1 : (T.setVm vm₁).pushCell { cls := cX, slots := kX.instanceTypes.map defaultValue, vm := .none } = T1 at X₁ st1
  have hcat : (Value.ref T.heap.size).category = 1 := rfl
  have hcellA : T1.heap[T.heap.size]? = some (freshCell cX kX) := by rw [← hT1]; exact State.heap_pushCell_size _ _
  have d3' : decode c.code (pc + 3) = .ok (.dup, 1) := by rw [hb]; exact d3
  have d4' : decode c.code (pc + 4) = .ok (.ldc is, 2) := by rw [hb]; exact d4
  have hstr' : vk_R own is text sa s' := vk_R.warm hW0 hstr
  obtain ⟨V, ce, L, Z, hL, hlt, hcl9, hvm9, st⟩ := vx_ctorMadeS X₁ hexec htr (own := own) (cls := cls) (names := names) (ic := ic) hown' hcls hnames h (fun x hx => nomatch hx) hfX hkX hcellA (by rw [hhp]; exact Nat.le_refl _) (msg := .ref sa) rfl
    (g := { method := m, pc := pc + 6, locals := ls, stack := .ref sa :: .ref T.heap.size :: .ref T.heap.size :: rest, locked := none }) rfl hsize (rest := rest) rfl
    (by rw [hb]; exact d6) hRframes (by simp only [List.map_cons, List.sum_cons, hcat]; omega)
  have Z0 := Stand.forget (locs := []) Z (fun y hy => by rw [hL y hy, hhp]; exact Nat.le_refl _)
  obtain ⟨f1, f2⟩ := vx_frame Z0.same
  rw [hhp] at f1 f2
  have hcid : ce.cls = D.1 ci := by
    rw [hcl9]
    have h1 := (hK.1 ci _ hc).2.1
    rw [hvm] at hfX
    exact Option.some.inj (hfX.symm.trans h1)
  have hh : (V.setCell T.heap.size ce).heap[T.heap.size]? = some ce := heapAt_setCell_self (s := V) ce hlt
  subst hA'
  have X5 := vx_back9 X Y Z0
  have X6 : Stand p l e R s m args below meth c (V.setCell T.heap.size ce) locs (cells + 1) (slots + 6) := { X5 with same := X5.same.mono (by omega) (by omega) }
  have hk9 : ∀ (k : Nat) (x : Nat × va_E), ws[k]? = some x → (V.setCell T.heap.size ce).heap[x.1]? = T.heap[x.1]? := fun k x hx => f2 x.1 ((hP k x hx).lt) (fun z hz => nomatch hz)
  obtain ⟨t, a1, b1⟩ := kk T.heap.size (V.setCell T.heap.size ce).heap ((hP.kept hk9).app (fun k x hx => by
      have hz : k < 1 := (List.getElem?_eq_some_iff.mp hx).1
      rw [show k = 0 by omega] at hx
      cases hx
      exact ⟨_, hc, ce, hh, hcid, hvm9, fun k hk => absurd hk (Nat.not_lt_zero k)⟩)) (hD.push hP rfl (hA _ hS.1)) ⟨Nat.le_trans hS.1 f1, fun q h1 h2 => (f2 q (Nat.lt_of_lt_of_le h1 hS.1) (fun z hz => nomatch hz)).trans (hS.2.1 q h1 h2), hS.2.2⟩ _ rfl X6
  refine ⟨t, st1 _ ?_, b1⟩
  show Steps p.tables e below (T1.setTop { method := m, pc := pc + 3, locals := ls, stack := .ref T.heap.size :: rest, locked := none }) _
  jvm_step X₁.here [X₁.here.top, hexec, d3', Value.category]
  exact X₁.ldcString hexec (own := own) (text := text) (index := is) (a := sa) hown' hstr'.1 hstr'.2
    (g := { method := m, pc := pc + 4, locals := ls, stack := .ref T.heap.size :: .ref T.heap.size :: rest, locked := none }) rfl d4' _ (st _ a1)
/-- 'new E()' that isn't thrown at once: the object goes on the stack -/
theorem vx_make0 {cc : ByteArray} {pc : Nat} (hexec : p.tables.exec = Jvm.exec) (hb : c.code = cc) (hl : l.stackTraces = false) {own cls : String} {names : List String} {ik ic ci : Nat} {A : Nat → Prop} {T0 : u_T}
    (hown : s.vm.findClass own = some m.cls) (hcls : Bundle.fit cls = true) (hnames : ∀ n ∈ names, Bundle.fit n = true)
    (hk : (Cond.classLink own ik cls).before args s = true) (hini : (Cond.initialized cls).before args s = true) (hat : ∀ w ∈ vx_at0 own ic cls names, w.before args s = true)
    (hgood : ∀ w ∈ Cond.classLink own ik cls :: Cond.initialized cls :: vx_at0 own ic cls names, vx_ot w = true)
    (hU : vx_Zq Bundle.tN "UNASSIGNED_STACK" Bundle.steD A s s.heap) (hN : vx_Zq Bundle.tN "SUPPRESSED_SENTINEL" Bundle.listD A s s.heap) (hS : va_S A s.heap H locs) (hsize : ls.size = c.maxLocals)
    (d0 : decode cc pc = .ok (.new ik, 3)) (d3 : decode cc (pc + 3) = .ok (.dup, 1)) (d4 : decode cc (pc + 4) = .ok (.invokespecial ic, 3))
    (hK : va_K D cl tys s) (hP : va_P D cl ws H) (hD : va_D A ws) (hA : ∀ q, s.heap.size ≤ q → A q) (hc : cl[ci]? = some (cls, T0, 0))
    (hRframes : names.length + 3 < R.frames) (hRlocals : (rest.map fun v => v.category).sum + (13 * (names.length + 1) + 42) ≤ R.locals) (hRcells : cells + 1 ≤ R.cells) (hRslots : slots + 6 ≤ R.slots)
    (kk : ∀ (q : Nat) (H1 : Heap), va_P D cl (ws ++ [(q, .inr (ci, []))]) H1 → va_D A (ws ++ [(q, .inr (ci, []))]) → va_S A s.heap H1 locs → W p l e R s m args below meth c H1 locs (cells + 1) (slots + 6) Q (F0 m (pc + 7) ls (.ref q :: rest))) :
    W p l e R s m args below meth c H locs cells slots Q (F0 m pc ls rest) := by
  intro T hT X
  subst hT
  have htr : e.platform.stackTraces = false := (show e.platform.stackTraces = l.stackTraces by rw [X.admits.platform]).trans hl
  have Y := vx_rebase X (R' := { frames := R.frames, locals := R.locals, cells := 1, slots := 6 }) (Nat.le_refl _) (Nat.le_refl _) hRcells hRslots
  obtain ⟨s', hA'⟩ : ∃ z, z = (T.setVm s.vm).setFrames (.invoking m args :: below) := ⟨_, rfl⟩
  rw [← hA'] at Y
  have hvm : s'.vm = s.vm := by rw [hA']; rfl
  have hhp : s'.heap = T.heap := by rw [hA']; rfl
  have hW0 : s.WarmedH s'.vm := by rw [hvm]; exact State.WarmedH.refl s
  have hat' : ∀ w ∈ vx_at0 own ic cls names, w.before args s' = true := fun w hw => vx_ot_at hW0 hvm.symm (hgood w (List.mem_cons_of_mem _ (List.mem_cons_of_mem _ hw))) (hat w hw)
  have hk' : (Cond.classLink own ik cls).before args s' = true := vx_ot_at hW0 hvm.symm (hgood _ List.mem_cons_self) hk
  have hini' : (Cond.initialized cls).before args s' = true := vx_ot_at hW0 hvm.symm (hgood _ (List.mem_cons_of_mem _ List.mem_cons_self)) hini
  have hU' : vx_Zq Bundle.tN "UNASSIGNED_STACK" Bundle.steD A s' s'.heap := by rw [hhp]; exact vx_Zq.moved hW0.alike (hU.kept hS.2.1)
  have hN' : vx_Zq Bundle.tN "SUPPRESSED_SENTINEL" Bundle.listD A s' s'.heap := by rw [hhp]; exact vx_Zq.moved hW0.alike (hN.kept hS.2.1)
  have h : ∀ w ∈ Bundle.ownAtoms0 own ic cls names, w.before args s' = true := vx_own hat' (vx_isRefq hU'.1) (vx_isRefq hN'.1) hU'.2.word hN'.2.word
  have hown' : s'.vm.findClass own = some m.cls := by rw [hvm]; exact hown
  have hins : (Cond.instantiable cls 6).before args s' = true := h _ (by simp [Bundle.ownAtoms0])
  obtain ⟨vm₁, cX, kX, hfX, hkX, -, -, X₁, st1⟩ := Y.newCold hexec (own := own) (C := cls) (index := ik) (n := 6) hown' hk' hins hini'
    (g := F0 m pc ls rest) rfl (by rw [hb]; exact d0) (Nat.le_refl _) (Nat.le_refl _)
  generalize hT1 : (T.setVm vm₁).pushCell { cls := cX, slots := kX.instanceTypes.map defaultValue, vm := .none } = T1 at X₁ st1
  have hcat : (Value.ref T.heap.size).category = 1 := rfl
  have hcellA : T1.heap[T.heap.size]? = some (freshCell cX kX) := by rw [← hT1]; exact State.heap_pushCell_size _ _
  have d3' : decode c.code (pc + 3) = .ok (.dup, 1) := by rw [hb]; exact d3
  obtain ⟨V, ce, L, Z, hL, hlt, hcl9, hvm9, st⟩ := vx_ctorMade0 X₁ hexec htr (own := own) (cls := cls) (names := names) (ic := ic) hown' hcls hnames h (fun x hx => nomatch hx) hfX hkX hcellA (by rw [hhp]; exact Nat.le_refl _)
    (g := { method := m, pc := pc + 4, locals := ls, stack := .ref T.heap.size :: .ref T.heap.size :: rest, locked := none }) rfl hsize (rest := rest) rfl
    (by rw [hb]; exact d4) hRframes (by simp only [List.map_cons, List.sum_cons, hcat]; omega)
  have Z0 := Stand.forget (locs := []) Z (fun y hy => by rw [hL y hy, hhp]; exact Nat.le_refl _)
  obtain ⟨f1, f2⟩ := vx_frame Z0.same
  rw [hhp] at f1 f2
  have hcid : ce.cls = D.1 ci := by
    rw [hcl9]
    have h1 := (hK.1 ci _ hc).2.1
    rw [hvm] at hfX
    exact Option.some.inj (hfX.symm.trans h1)
  have hh : (V.setCell T.heap.size ce).heap[T.heap.size]? = some ce := heapAt_setCell_self (s := V) ce hlt
  subst hA'
  have X5 := vx_back9 X Y Z0
  have X6 : Stand p l e R s m args below meth c (V.setCell T.heap.size ce) locs (cells + 1) (slots + 6) := { X5 with same := X5.same.mono (by omega) (by omega) }
  have hk9 : ∀ (k : Nat) (x : Nat × va_E), ws[k]? = some x → (V.setCell T.heap.size ce).heap[x.1]? = T.heap[x.1]? := fun k x hx => f2 x.1 ((hP k x hx).lt) (fun z hz => nomatch hz)
  obtain ⟨t, a1, b1⟩ := kk T.heap.size (V.setCell T.heap.size ce).heap ((hP.kept hk9).app (fun k x hx => by
      have hz : k < 1 := (List.getElem?_eq_some_iff.mp hx).1
      rw [show k = 0 by omega] at hx
      cases hx
      exact ⟨_, hc, ce, hh, hcid, hvm9, fun k hk => absurd hk (Nat.not_lt_zero k)⟩)) (hD.push hP rfl (hA _ hS.1)) ⟨Nat.le_trans hS.1 f1, fun q h1 h2 => (f2 q (Nat.lt_of_lt_of_le h1 hS.1) (fun z hz => nomatch hz)).trans (hS.2.1 q h1 h2), hS.2.2⟩ _ rfl X6
  refine ⟨t, st1 _ ?_, b1⟩
  show Steps p.tables e below (T1.setTop { method := m, pc := pc + 3, locals := ls, stack := .ref T.heap.size :: rest, locked := none }) _
  jvm_step X₁.here [X₁.here.top, hexec, d3', Value.category]
  exact st _ a1
/-- 'throw x' of an object that was made before -/
theorem vx_athrow {cc : ByteArray} {pc : Nat} (hexec : p.tables.exec = Jvm.exec) (hb : c.code = cc) {q : Addr} (hdg : decode cc pc = .ok (.athrow, 1)) (k : vx_W p l e R s m args below meth c H locs cells slots Q (F0 m pc ls rest) q) : W p l e R s m args below meth c H locs cells slots Q (F0 m pc ls (.ref q :: rest)) := by
  intro T hT X
  obtain ⟨t, st, hq⟩ := k T hT X
  refine ⟨t, ?_, hq⟩
  have hdg' : decode c.code pc = .ok (.athrow, 1) := by rw [hb]; exact hdg
  jvm_step X.here [X.here.top, hexec, hdg', athrow.wp_sem]
  exact st
end VXK2
/-! ===== END ===== -/
/-! ===== BEGIN a constructor that throws (launches without stack traces) ===== -/
section VXIA
variable {p : Program} {l : Launch} {e : Env} {R : Room} {s : State} {m : MethodId} {args : Array Value} {below : List Frame} {meth : Method} {c : Code} {T : State} {locs : List Loc} {cells slots : Nat}
theorem vx_callI (X : Stand p l e R s m args below meth c T locs cells slots) (hexec : p.tables.exec = Jvm.exec) {own : String} {index : Nat} {y : MethodName} {bytes : ByteArray} {maxL : Nat}
    (hown : s.vm.findClass own = some m.cls) (hy1 : y.name = "<init>") (hlink : (Cond.methodLink own index y).before args s = true) (hinst : (Cond.instanceMethod y).before args s = true)
    (hcode : (Cond.code y bytes maxL none).before args s = true) (hy : y.cls ≠ "java/lang/invoke/MethodHandle" ∧ y.cls ≠ "java/lang/invoke/VarHandle")
    {W9 : Nat} {Pre : Pt → Array Value → Prop} {Post : Pt → Array Value → Option Value → Pt → Prop} {PostX : Pt → Array Value → Addr → Pt → Prop} (hK : vx_Back l R p e below s args y 3 W9 Pre Post PostX)
    {g : JFrame} (hg : g.method = m) (hsize : g.locals.size = c.maxLocals) {a : Addr} {argsL rest : List Value} (hlen : ∀ sig, parseMethodDescriptor y.desc = some sig → argsL.length = sig.parameters.length)
    (hstack : g.stack = argsL.reverse ++ .ref a :: rest) (hW : 2 * g.monitorRoom + (rest.map fun v => v.category).sum ≤ W9) (hdg : decode c.code g.pc = .ok (.invokespecial index, 3))
    (hpre : ∀ vm₁, s.WarmedH vm₁ → Pre ⟨T.setVm vm₁, locs, cells, slots⟩ (Value.ref a :: argsL).toArray) :
    (∃ (v : Option Value) (vm₁ : Vm) (B : Pt), s.WarmedH vm₁ ∧ Stand p l e R s m args below meth c B.U B.locs B.cells B.slots ∧ Post ⟨T.setVm vm₁, locs, cells, slots⟩ (Value.ref a :: argsL).toArray v B ∧
      ∀ target, Steps p.tables e below (B.U.setTop { g with pc := g.pc + 3, stack := v.toList ++ rest }) target → Steps p.tables e below (T.setTop g) target) ∨
    (∃ (q : Addr) (vm₁ : Vm) (B : Pt), s.WarmedH vm₁ ∧ Stand p l e R s m args below meth c B.U B.locs B.cells B.slots ∧ PostX ⟨T.setVm vm₁, locs, cells, slots⟩ (Value.ref a :: argsL).toArray q B ∧
      Steps p.tables e below (T.setTop g) ((B.U.setTop { g with stack := rest }).pushFrame (.throwing q))) := by
  subst hg
  have hpl : e.platform.magicAccessors = ({} : Platform).magicAccessors := by rw [X.admits.platform]
  obtain ⟨mk, methM, cM, kP, vm₁, hnamed, hmethM, hcodeM, -, hlocalsM, -, hkP, -, hW₁, hstep₁⟩ := Steps.initColdArgs (e := e) X.here hexec X.warmed hpl hown hy1 hy hlink hinst hcode (f := g) rfl hlen hstack hdg
  have X₁ := X.noted hW₁
  rcases hK g.method meth c ⟨T.setVm vm₁, locs, cells, slots⟩ { g with stack := rest } (.invokespecial index) mk (Value.ref a :: argsL).toArray X₁ rfl hsize hdg hW (X₁.named hnamed) (hpre vm₁ X₁.warmed) with ⟨v, B, X', hpost, hsteps⟩ | ⟨q, B, X', hpost, hsteps⟩
  · exact Or.inl ⟨v, vm₁, B, X₁.warmed, X', hpost, fun target h => hstep₁ _ fun acts => by rw [doInvoke_state]; exact hsteps.trans h⟩
  · exact Or.inr ⟨q, vm₁, B, X₁.warmed, X', hpost, hstep₁ _ fun acts => by rw [doInvoke_state]; exact hsteps⟩
end VXIA
section VXIB
variable {p : Program} {l : Launch} {e : Env} {R : Room} {s : State} {m : MethodId} {args : Array Value} {below : List Frame} {meth : Method} {c : Code} {H : Heap} {locs : List Loc} {cells slots : Nat}
variable {y : MethodName} {bytes cc : ByteArray} {maxL nL mc ms n index : Nat} {ret : Option FieldType} {ws : List Cond} {rm : Room} {Pc : Array Value → State → Prop} {Qc : Array Value → State → Outcome → State → Prop} {XC : String → State → State → Prop} {free : Addr → Prop} {Ts : List Cond} {own C : String} {b : Addr} {As rest : List Value} {g : JFrame}
theorem vx_runI (S : CallFix p m c cc nL s args Ts own) (hM : vx_Met l y ws rm Pc Qc XC mc ms free) (cw : CallB R s args own index y bytes maxL none ws rm mc ms n ∧ y.name = "<init>" ∧ (Cond.instanceMethod y).before args s = true) (hp : PreS s H Pc (.ref b :: As))
    (hg : g.method = m) (hn : As.length = n) (hsize : g.locals.size = nL) (hstack : g.stack = As.reverse ++ .ref b :: rest) (hW : 2 * g.monitorRoom + (rest.map fun v => v.category).sum ≤ 8) (hdg : decode cc g.pc = .ok (.invokespecial index, 3)) (hf : cells + mc ≤ R.cells ∧ slots + ms ≤ R.slots) :
    vx_Run p l e R s m args below meth c H locs cells slots mc ms g rest (Qc (Value.ref b :: As).toArray) XC free := by
  have hK : vx_Back l R p e below s args y 3 8 (PreOf R mc ms Pc) (PostOf Qc mc ms free) (vx_Post XC mc ms free) := vx_callBack cw.1 hM hp.1
  obtain ⟨⟨-, -, -, -, -, -, hcode, -, hy, hlen, hl⟩, hy1, hin⟩ := cw
  obtain ⟨hx, hb, hml, ho, -⟩ := S
  have hPc := hp.2
  intro T hT X
  rcases vx_callI X hx (bytes := bytes) (maxL := maxL) ho hy1 hl hin hcode hy hK hg (hsize.trans hml.symm) (a := b) (argsL := As) (rest := rest) (fun sig h => hn.trans (hlen sig h)) hstack hW (by rw [hb]; exact hdg)
    (fun vm₁ hW₁ => ⟨hf.1, hf.2, hPc (T.setVm vm₁) hT hW₁⟩) with ⟨v, vm₁, ⟨U', l2, c2, s2⟩, hW₁, X', ⟨g', mk, t, L, e1, e2, hq, h1, hL, h2, h3⟩, st⟩ | ⟨q, vm₁, ⟨U', l2, c2, s2⟩, hW₁, X', ⟨g', mk, t, L, E, ce, e1, e2, hq, hce, hcv, hcl, h1, hL, h2, h3⟩, st⟩
  · dsimp only [Pt.U, Pt.locs, Pt.cells, Pt.slots] at X' e1 e2 h1 h2 h3 st
    subst h1; subst h2; subst h3
    exact Or.inl ⟨v, (T.setVm vm₁).calling g' mk (Value.ref b :: As).toArray, t, U', L, hT, X', hL, e1, e2, hq, st⟩
  · dsimp only [Pt.U, Pt.locs, Pt.cells, Pt.slots] at X' e1 e2 h1 h2 h3 st hcl
    subst h1; subst h2; subst h3
    exact Or.inr ⟨q, (T.setVm vm₁).calling g' mk (Value.ref b :: As).toArray, t, U', L, E, ce, hT, X', hL, e1, e2, hq, hce, hcv, vx_cls hW₁ hcl, st⟩
end VXIB
/-! ===== END ===== -/
/-! ===== BEGIN a private constructor of a nest mate that throws ===== -/
section VXIC
variable {p : Program} {l : Launch} {e : Env} {R : Room} {s : State} {m : MethodId} {args : Array Value} {below : List Frame} {meth : Method} {c : Code} {T : State} {locs : List Loc} {cells slots : Nat}
theorem vx_callIN (X : Stand p l e R s m args below meth c T locs cells slots) (hexec : p.tables.exec = Jvm.exec) {own : String} {index : Nat} {host : String} {y : MethodName} {bytes : ByteArray} {maxL : Nat}
    (hown : s.vm.findClass own = some m.cls) (hy1 : y.name = "<init>") (hlink : (Cond.methodLinkNest own index y host).before args s = true) (hinst : (Cond.instanceMethod y).before args s = true)
    (hcode : (Cond.code y bytes maxL none).before args s = true) (hy : y.cls ≠ "java/lang/invoke/MethodHandle" ∧ y.cls ≠ "java/lang/invoke/VarHandle")
    {W9 : Nat} {Pre : Pt → Array Value → Prop} {Post : Pt → Array Value → Option Value → Pt → Prop} {PostX : Pt → Array Value → Addr → Pt → Prop} (hK : vx_Back l R p e below s args y 3 W9 Pre Post PostX)
    {g : JFrame} (hg : g.method = m) (hsize : g.locals.size = c.maxLocals) {a : Addr} {argsL rest : List Value} (hlen : ∀ sig, parseMethodDescriptor y.desc = some sig → argsL.length = sig.parameters.length)
    (hstack : g.stack = argsL.reverse ++ .ref a :: rest) (hW : 2 * g.monitorRoom + (rest.map fun v => v.category).sum ≤ W9) (hdg : decode c.code g.pc = .ok (.invokespecial index, 3))
    (hpre : ∀ vm₁, s.WarmedH vm₁ → Pre ⟨T.setVm vm₁, locs, cells, slots⟩ (Value.ref a :: argsL).toArray) :
    (∃ (v : Option Value) (vm₁ : Vm) (B : Pt), s.WarmedH vm₁ ∧ Stand p l e R s m args below meth c B.U B.locs B.cells B.slots ∧ Post ⟨T.setVm vm₁, locs, cells, slots⟩ (Value.ref a :: argsL).toArray v B ∧
      ∀ target, Steps p.tables e below (B.U.setTop { g with pc := g.pc + 3, stack := v.toList ++ rest }) target → Steps p.tables e below (T.setTop g) target) ∨
    (∃ (q : Addr) (vm₁ : Vm) (B : Pt), s.WarmedH vm₁ ∧ Stand p l e R s m args below meth c B.U B.locs B.cells B.slots ∧ PostX ⟨T.setVm vm₁, locs, cells, slots⟩ (Value.ref a :: argsL).toArray q B ∧
      Steps p.tables e below (T.setTop g) ((B.U.setTop { g with stack := rest }).pushFrame (.throwing q))) := by
  subst hg
  have hpl : e.platform.magicAccessors = ({} : Platform).magicAccessors := by rw [X.admits.platform]
  obtain ⟨mk, methM, cM, kP, vm₁, hnamed, hmethM, hcodeM, -, hlocalsM, -, hkP, -, hW₁, hstep₁⟩ := Steps.initColdArgsNest (e := e) X.here hexec X.warmed hpl hown hy1 hy hlink hinst hcode (f := g) rfl hlen hstack hdg
  have X₁ := X.noted hW₁
  rcases hK g.method meth c ⟨T.setVm vm₁, locs, cells, slots⟩ { g with stack := rest } (.invokespecial index) mk (Value.ref a :: argsL).toArray X₁ rfl hsize hdg hW (X₁.named hnamed) (hpre vm₁ X₁.warmed) with ⟨v, B, X', hpost, hsteps⟩ | ⟨q, B, X', hpost, hsteps⟩
  · exact Or.inl ⟨v, vm₁, B, X₁.warmed, X', hpost, fun target h => hstep₁ _ fun acts => by rw [doInvoke_state]; exact hsteps.trans h⟩
  · exact Or.inr ⟨q, vm₁, B, X₁.warmed, X', hpost, hstep₁ _ fun acts => by rw [doInvoke_state]; exact hsteps⟩
end VXIC
section VXID
variable {p : Program} {l : Launch} {e : Env} {R : Room} {s : State} {m : MethodId} {args : Array Value} {below : List Frame} {meth : Method} {c : Code} {H : Heap} {locs : List Loc} {cells slots : Nat}
theorem vx_runIN {y : MethodName} {bytes cc : ByteArray} {maxL nL mc ms n index : Nat} {ws : List Cond} {rm : Room} {Pc : Array Value → State → Prop} {Qc : Array Value → State → Outcome → State → Prop} {XC : String → State → State → Prop} {free : Addr → Prop} {Ts : List Cond} {own host : String} {b : Addr} {As rest : List Value} {g : JFrame}
    (S : CallFix p m c cc nL s args Ts own) (hM : vx_Met l y ws rm Pc Qc XC mc ms free) (cw : va_CN R s args own index y host bytes maxL none ws rm mc ms n ∧ y.name = "<init>" ∧ (Cond.instanceMethod y).before args s = true) (hp : PreS s H Pc (.ref b :: As))
    (hg : g.method = m) (hn : As.length = n) (hsize : g.locals.size = nL) (hstack : g.stack = As.reverse ++ .ref b :: rest) (hW : 2 * g.monitorRoom + (rest.map fun v => v.category).sum ≤ 8) (hdg : decode cc g.pc = .ok (.invokespecial index, 3)) (hf : cells + mc ≤ R.cells ∧ slots + ms ≤ R.slots) :
    vx_Run p l e R s m args below meth c H locs cells slots mc ms g rest (Qc (Value.ref b :: As).toArray) XC free := by
  obtain ⟨⟨⟨hrc, hrs, hfr, hlo, hws, hcw⟩, hcode, hini, hy, hlen, hl⟩, hx1, hx2⟩ := cw
  have hK : vx_Back l R p e below s args y 3 8 (PreOf R mc ms Pc) (PostOf Qc mc ms free) (vx_Post XC mc ms free) := vx_back (bytes := bytes) (maxL := maxL) (ret := none) hM hp.1 hrc hrs hfr hlo hws hcw (fun a' U hW => word_at hW (Or.inl (by first | rfl | simp [Cond.onTables, Cond.keeps, Cond.steady])) hini)
  obtain ⟨hx, hb, hml, ho, -⟩ := S
  have hPc := hp.2
  intro T hT X
  rcases vx_callIN X hx (bytes := bytes) (maxL := maxL) ho hx1 hl hx2 hcode hy hK hg (hsize.trans hml.symm) (a := b) (argsL := As) (rest := rest) (fun sig h => hn.trans (hlen sig h)) hstack hW (by rw [hb]; exact hdg)
    (fun vm₁ hW₁ => ⟨hf.1, hf.2, hPc (T.setVm vm₁) hT hW₁⟩) with ⟨v, vm₁, ⟨U', l2, c2, s2⟩, hW₁, X', ⟨g', mk, t, L, e1, e2, hq, h1, hL, h2, h3⟩, st⟩ | ⟨q, vm₁, ⟨U', l2, c2, s2⟩, hW₁, X', ⟨g', mk, t, L, E, ce, e1, e2, hq, hce, hcv, hcl, h1, hL, h2, h3⟩, st⟩
  · dsimp only [Pt.U, Pt.locs, Pt.cells, Pt.slots] at X' e1 e2 h1 h2 h3 st
    subst h1; subst h2; subst h3
    exact Or.inl ⟨v, (T.setVm vm₁).calling g' mk (Value.ref b :: As).toArray, t, U', L, hT, X', hL, e1, e2, hq, st⟩
  · dsimp only [Pt.U, Pt.locs, Pt.cells, Pt.slots] at X' e1 e2 h1 h2 h3 st hcl
    subst h1; subst h2; subst h3
    exact Or.inr ⟨q, (T.setVm vm₁).calling g' mk (Value.ref b :: As).toArray, t, U', L, E, ce, hT, X', hL, e1, e2, hq, hce, hcv, vx_cls hW₁ hcl, st⟩
end VXID
/-! ===== END ===== -/
/-! ===== BEGIN a method of a class above, found by the receiver, that may throw (follows va_callVU, va_runU of this kit) ===== -/
section
variable {p : Program} {l : Launch} {e : Env} {R : Room} {s : State} {m : MethodId} {args : Array Value} {below : List Frame} {meth : Method} {c : Code} {H : Heap} {locs : List Loc} {cells slots : Nat}
theorem vx_callVU {T : State} {locs : List Loc} {cells slots : Nat} (X : Stand p l e R s m args below meth c T locs cells slots) (hexec : p.tables.exec = Jvm.exec) {own C owner : String} {index : Nat} {x y : MethodName} {bytes : ByteArray} {maxL : Nat} {ret : Option FieldType}
    (hown : s.vm.findClass own = some m.cls) (hlink : (Cond.methodLink own index x).before args s = true) (hsame : (Cond.sameMethod x.cls owner x.name x.desc).before args s = true)
    (hd0 : va_Decl s ⟨owner, x.name, x.desc⟩) (howner : owner ≠ "java/lang/invoke/MethodHandle" ∧ owner ≠ "java/lang/invoke/VarHandle")
    (hsel : (Cond.selects C x y).before args s = true) (hinst : (Cond.instanceMethod y).before args s = true) (hcode : (Cond.code y bytes maxL ret).before args s = true)
    {W : Nat} {Pre : Pt → Array Value → Prop} {Post : Pt → Array Value → Option Value → Pt → Prop} {PostX : Pt → Array Value → Addr → Pt → Prop} (hK : vx_Back l R p e below s args y 3 W Pre Post PostX)
    {b : Addr} {cellB : Cell} (hcell : T.heap[b]? = some cellB) (hobj : cellB.vm.isStatics = false) (hcls : s.vm.findClass C = some cellB.cls)
    {g : JFrame} (hg : g.method = m) (hsize : g.locals.size = c.maxLocals) {argsL rest : List Value} (hlen : ∀ sig, parseMethodDescriptor x.desc = some sig → argsL.length = sig.parameters.length)
    (hstack : g.stack = argsL.reverse ++ .ref b :: rest) (hW : 2 * g.monitorRoom + (rest.map fun v => v.category).sum ≤ W) (hdg : decode c.code g.pc = .ok (.invokevirtual index, 3))
    (hpre : ∀ vm₁, s.WarmedH vm₁ → Pre ⟨T.setVm vm₁, locs, cells, slots⟩ (Value.ref b :: argsL).toArray) :
    (∃ (v : Option Value) (vm₁ : Vm) (B : Pt), s.WarmedH vm₁ ∧ Stand p l e R s m args below meth c B.U B.locs B.cells B.slots ∧ Post ⟨T.setVm vm₁, locs, cells, slots⟩ (Value.ref b :: argsL).toArray v B ∧
      ∀ target, Steps p.tables e below (B.U.setTop { g with pc := g.pc + 3, stack := v.toList ++ rest }) target → Steps p.tables e below (T.setTop g) target) ∨
    (∃ (q : Addr) (vm₁ : Vm) (B : Pt), s.WarmedH vm₁ ∧ Stand p l e R s m args below meth c B.U B.locs B.cells B.slots ∧ PostX ⟨T.setVm vm₁, locs, cells, slots⟩ (Value.ref b :: argsL).toArray q B ∧
      Steps p.tables e below (T.setTop g) ((B.U.setTop { g with stack := rest }).pushFrame (.throwing q))) := by
  obtain ⟨r0, r, hn, hrm, hstR, hsigR⟩ := hd0
  obtain ⟨cn, ck, r1, hcn, hck, hni, hf, hn1⟩ := Cond.sameMethod_found hsame
  cases hn.symm.trans hn1
  obtain ⟨mk, methM, hnamed, hmethM, -, habM⟩ := Cond.instanceMethod_spec hinst
  obtain ⟨c2, r2, m2, q1, q2, q3, q4, kP, hkP, hkPi⟩ := Cond.selects_spec hsel
  cases hcls.symm.trans q1
  cases hf.symm.trans q2
  cases hnamed.symm.trans q3
  have hselP : selectMethod e.platform s.vm cellB.cls r0 = .method mk := by rw [Launch.admits_selectMethod X.admits]; exact q4
  obtain ⟨vm₁, X₁, hstep₁⟩ := X.invokevirtualUp hexec hown hlink hsame howner hn hrm hstR (a := b) (cell := cellB) hcell
    (fun z h => by rw [h] at hobj; cases hobj) hselP hmethM habM hkP hkPi (g := g) hg (argsL := argsL) (rest := rest) (hlen _ hsigR) hstack hdg
  rcases hK m meth c ⟨T.setVm vm₁, locs, cells, slots⟩ { g with stack := rest } (.invokevirtual index) mk (Value.ref b :: argsL).toArray X₁ hg hsize hdg hW (X₁.named hnamed) (hpre vm₁ X₁.warmed) with ⟨v, B, X', hpost, hsteps⟩ | ⟨q, B, X', hpost, hsteps⟩
  · exact Or.inl ⟨v, vm₁, B, X₁.warmed, X', hpost, fun target h => hstep₁ _ fun acts => by rw [doInvoke_state]; exact hsteps.trans h⟩
  · exact Or.inr ⟨q, vm₁, B, X₁.warmed, X', hpost, hstep₁ _ fun acts => by rw [doInvoke_state]; exact hsteps⟩
theorem vx_runU {x y : MethodName} {bytes cc : ByteArray} {maxL nL mc ms n index : Nat} {ret : Option FieldType} {ws : List Cond} {rm : Room} {Pc : Array Value → State → Prop} {Qc : Array Value → State → Outcome → State → Prop} {XC : String → State → State → Prop} {free : Addr → Prop} {Ts : List Cond} {own C owner : String} {b : Addr} {As rest : List Value} {g : JFrame}
    (S : CallFix p m c cc nL s args Ts own) (hM : vx_Met l y ws rm Pc Qc XC mc ms free) (cw : va_CU R s args own C owner index x y bytes maxL ret ws rm mc ms n) (hp : PreV s H C b Pc As)
    (hg : g.method = m) (hn : As.length = n) (hsize : g.locals.size = nL) (hstack : g.stack = As.reverse ++ .ref b :: rest) (hW : 2 * g.monitorRoom + (rest.map fun v => v.category).sum ≤ 8) (hdg : decode cc g.pc = .ok (.invokevirtual index, 3)) (hf : cells + mc ≤ R.cells ∧ slots + ms ≤ R.slots) :
    vx_Run p l e R s m args below meth c H locs cells slots mc ms g rest (Qc (Value.ref b :: As).toArray) XC free := by
  obtain ⟨hrc, hrs, hfr, hlo, hws, hcw⟩ := cw.back
  have hini := cw.init
  have hK : vx_Back l R p e below s args y 3 8 (PreOf R mc ms Pc) (PostOf Qc mc ms free) (vx_Post XC mc ms free) := vx_back (bytes := bytes) (maxL := maxL) (ret := ret) hM hp.1 hrc hrs hfr hlo hws hcw (fun a' U hW => word_at hW (Or.inl (by first | rfl | simp [Cond.onTables, Cond.keeps, Cond.steady])) hini)
  obtain ⟨hx, hb, hml, ho, -⟩ := S
  obtain ⟨-, ⟨cellB, hcB, hoB, hclB⟩, hPc⟩ := hp
  intro T hT X
  rcases vx_callVU X hx (C := C) (owner := owner) (bytes := bytes) (maxL := maxL) (ret := ret) ho cw.link cw.same cw.decl cw.notMH cw.sel cw.inst cw.code hK (by rw [hT]; exact hcB) hoB hclB hg (hsize.trans hml.symm) (argsL := As) (rest := rest) (fun sig h => hn.trans (cw.len sig h)) hstack hW (by rw [hb]; exact hdg)
    (fun vm₁ hW₁ => ⟨hf.1, hf.2, hPc (T.setVm vm₁) hT hW₁⟩) with ⟨v, vm₁, ⟨U', l2, c2, s2⟩, hW₁, X', ⟨g', mk, t, L, e1, e2, hq, h1, hL, h2, h3⟩, st⟩ | ⟨q, vm₁, ⟨U', l2, c2, s2⟩, hW₁, X', ⟨g', mk, t, L, E, ce, e1, e2, hq, hce, hcv, hcl, h1, hL, h2, h3⟩, st⟩
  · dsimp only [Pt.U, Pt.locs, Pt.cells, Pt.slots] at X' e1 e2 h1 h2 h3 st
    subst h1; subst h2; subst h3
    exact Or.inl ⟨v, (T.setVm vm₁).calling g' mk (Value.ref b :: As).toArray, t, U', L, hT, X', hL, e1, e2, hq, st⟩
  · dsimp only [Pt.U, Pt.locs, Pt.cells, Pt.slots] at X' e1 e2 h1 h2 h3 st hcl
    subst h1; subst h2; subst h3
    exact Or.inr ⟨q, (T.setVm vm₁).calling g' mk (Value.ref b :: As).toArray, t, U', L, E, ce, hT, X', hL, e1, e2, hq, hce, hcv, vx_cls hW₁ hcl, st⟩
end
/-! ===== END ===== -/
/-! ===== BEGIN super.m(..) that may throw (follows va_callSU, va_runSU) ===== -/
section
variable {p : Program} {l : Launch} {e : Env} {R : Room} {s : State} {m : MethodId} {args : Array Value} {below : List Frame} {meth : Method} {c : Code} {H : Heap} {locs : List Loc} {cells slots : Nat}
theorem vx_callSU {T : State} {locs : List Loc} {cells slots : Nat} (X : Stand p l e R s m args below meth c T locs cells slots) (hexec : p.tables.exec = Jvm.exec) {own : String} {index : Nat} {y : MethodName} {bytes : ByteArray} {maxL : Nat} {ret : Option FieldType}
    (hown : s.vm.findClass own = some m.cls) (hlink : (Cond.methodLink own index y).before args s = true) (hsame : (Cond.sameMethod y.cls y.cls y.name y.desc).before args s = true) (hsup : (Cond.superclass own y.cls).before args s = true)
    (hinst : (Cond.instanceMethod y).before args s = true) (hcode : (Cond.code y bytes maxL ret).before args s = true) (hno : y.name ≠ "<init>")
    {W : Nat} {Pre : Pt → Array Value → Prop} {Post : Pt → Array Value → Option Value → Pt → Prop} {PostX : Pt → Array Value → Addr → Pt → Prop} (hK : vx_Back l R p e below s args y 3 W Pre Post PostX)
    {b : Addr} {cellB : Cell} {kB : Class} (hcell : T.heap[b]? = some cellB) (hobj : cellB.vm.isStatics = false) (hkB : s.vm.classes[cellB.cls]? = some kB)
    {g : JFrame} (hg : g.method = m) (hsize : g.locals.size = c.maxLocals) {argsL rest : List Value} (hlen : ∀ sig, parseMethodDescriptor y.desc = some sig → argsL.length = sig.parameters.length)
    (hstack : g.stack = argsL.reverse ++ .ref b :: rest) (hW : 2 * g.monitorRoom + (rest.map fun v => v.category).sum ≤ W) (hdg : decode c.code g.pc = .ok (.invokespecial index, 3))
    (hpre : ∀ vm₁, s.WarmedH vm₁ → Pre ⟨T.setVm vm₁, locs, cells, slots⟩ (Value.ref b :: argsL).toArray) :
    (∃ (v : Option Value) (vm₁ : Vm) (B : Pt), s.WarmedH vm₁ ∧ Stand p l e R s m args below meth c B.U B.locs B.cells B.slots ∧ Post ⟨T.setVm vm₁, locs, cells, slots⟩ (Value.ref b :: argsL).toArray v B ∧
      ∀ target, Steps p.tables e below (B.U.setTop { g with pc := g.pc + 3, stack := v.toList ++ rest }) target → Steps p.tables e below (T.setTop g) target) ∨
    (∃ (q : Addr) (vm₁ : Vm) (B : Pt), s.WarmedH vm₁ ∧ Stand p l e R s m args below meth c B.U B.locs B.cells B.slots ∧ PostX ⟨T.setVm vm₁, locs, cells, slots⟩ (Value.ref b :: argsL).toArray q B ∧
      Steps p.tables e below (T.setTop g) ((B.U.setTop { g with stack := rest }).pushFrame (.throwing q))) := by
  obtain ⟨mk, methM, hnamed, hmethM, hstM, habM⟩ := Cond.instanceMethod_spec hinst
  obtain ⟨methM', cM, hmethM', -, -, -, -, -, -, hsigM⟩ := Cond.code_spec hnamed hcode
  cases hmethM.symm.trans hmethM'
  obtain ⟨ps, dk, kp, hps, hdk, hkp, hsuper, -, -, hnid⟩ := Cond.superclass_spec hown hsup
  have hn : s.methodNamed? ⟨y.cls, y.name, y.desc⟩ = some mk := hnamed
  have hpm : ps = mk.cls := Option.some.inj (hps.symm.trans (findClass_of_methodNamed hnamed))
  have hsub : s.vm.isSubclass ps mk.cls = true := by rw [hpm]; simp [Vm.isSubclass, Vm.isSubclassAux]
  obtain ⟨vm₁, X₁, hstep₁⟩ := X.invokespecialUp hexec hown hlink hsame hn hmethM hstM habM hno hdk hnid hps hsuper hsub (a := b) (cell := cellB) hcell
    (fun z h => by rw [h] at hobj; cases hobj) hkB (g := g) hg (argsL := argsL) (rest := rest) (hlen _ hsigM) hstack hdg
  rcases hK m meth c ⟨T.setVm vm₁, locs, cells, slots⟩ { g with stack := rest } (.invokespecial index) mk (Value.ref b :: argsL).toArray X₁ hg hsize hdg hW (X₁.named hnamed) (hpre vm₁ X₁.warmed) with ⟨v, B, X', hpost, hsteps⟩ | ⟨q, B, X', hpost, hsteps⟩
  · exact Or.inl ⟨v, vm₁, B, X₁.warmed, X', hpost, fun target h => hstep₁ _ (by rw [doInvoke_state]; exact hsteps.trans h)⟩
  · exact Or.inr ⟨q, vm₁, B, X₁.warmed, X', hpost, hstep₁ _ (by rw [doInvoke_state]; exact hsteps)⟩
theorem vx_runSU {y : MethodName} {bytes cc : ByteArray} {maxL nL mc ms n index : Nat} {ret : Option FieldType} {ws : List Cond} {rm : Room} {Pc : Array Value → State → Prop} {Qc : Array Value → State → Outcome → State → Prop} {XC : String → State → State → Prop} {free : Addr → Prop} {Ts : List Cond} {own C : String} {cC : ClassId} {b : Addr} {As rest : List Value} {g : JFrame}
    (hat : ClassAt s C cC) (S : CallFix p m c cc nL s args Ts own) (hM : vx_Met l y ws rm Pc Qc XC mc ms free) (cw : va_CS R s args own index y bytes maxL ret ws rm mc ms n) (hp : PreV s H C b Pc As)
    (hg : g.method = m) (hn : As.length = n) (hsize : g.locals.size = nL) (hstack : g.stack = As.reverse ++ .ref b :: rest) (hW : 2 * g.monitorRoom + (rest.map fun v => v.category).sum ≤ 8) (hdg : decode cc g.pc = .ok (.invokespecial index, 3)) (hf : cells + mc ≤ R.cells ∧ slots + ms ≤ R.slots) :
    vx_Run p l e R s m args below meth c H locs cells slots mc ms g rest (Qc (Value.ref b :: As).toArray) XC free := by
  obtain ⟨⟨hrc, hrs, hfr, hlo, hws, hcw⟩, hl1, hl2, hl3, hl4, hini, hcode, hno, hlen⟩ := cw
  have hK : vx_Back l R p e below s args y 3 8 (PreOf R mc ms Pc) (PostOf Qc mc ms free) (vx_Post XC mc ms free) := vx_back (bytes := bytes) (maxL := maxL) (ret := ret) hM hp.1 hrc hrs hfr hlo hws hcw (fun a' U hW => word_at hW (Or.inl (by first | rfl | simp [Cond.onTables, Cond.keeps, Cond.steady])) hini)
  obtain ⟨hx, hb, hml, ho, -⟩ := S
  obtain ⟨-, ⟨cellB, hcB, hoB, hclB⟩, hPc⟩ := hp
  obtain ⟨hfc, kB, hkB, -⟩ := hat
  cases hfc.symm.trans hclB
  intro T hT X
  rcases vx_callSU X hx (bytes := bytes) (maxL := maxL) (ret := ret) ho hl1 hl2 hl3 hl4 hcode hno hK (by rw [hT]; exact hcB) hoB hkB hg (hsize.trans hml.symm) (argsL := As) (rest := rest) (fun sig h => hn.trans (hlen sig h)) hstack hW (by rw [hb]; exact hdg)
    (fun vm₁ hW₁ => ⟨hf.1, hf.2, hPc (T.setVm vm₁) hT hW₁⟩) with ⟨v, vm₁, ⟨U', l2, c2, s2⟩, hW₁, X', ⟨g', mk, t, L, e1, e2, hq, h1, hL, h2, h3⟩, st⟩ | ⟨q, vm₁, ⟨U', l2, c2, s2⟩, hW₁, X', ⟨g', mk, t, L, E, ce, e1, e2, hq, hce, hcv, hcl, h1, hL, h2, h3⟩, st⟩
  · dsimp only [Pt.U, Pt.locs, Pt.cells, Pt.slots] at X' e1 e2 h1 h2 h3 st
    subst h1; subst h2; subst h3
    exact Or.inl ⟨v, (T.setVm vm₁).calling g' mk (Value.ref b :: As).toArray, t, U', L, hT, X', hL, e1, e2, hq, st⟩
  · dsimp only [Pt.U, Pt.locs, Pt.cells, Pt.slots] at X' e1 e2 h1 h2 h3 st hcl
    subst h1; subst h2; subst h3
    exact Or.inr ⟨q, (T.setVm vm₁).calling g' mk (Value.ref b :: As).toArray, t, U', L, E, ce, hT, X', hL, e1, e2, hq, hce, hcv, vx_cls hW₁ hcl, st⟩
end
/-! ===== END ===== -/
/-! ===== BEGIN a private method of a nest mate that may throw (follows va_callVN, va_callSN, va_runVN, va_runSN) ===== -/
section
variable {p : Program} {l : Launch} {e : Env} {R : Room} {s : State} {m : MethodId} {args : Array Value} {below : List Frame} {meth : Method} {c : Code} {H : Heap} {locs : List Loc} {cells slots : Nat}
variable {T : State}
theorem vx_callVN (X : Stand p l e R s m args below meth c T locs cells slots) (hexec : p.tables.exec = Jvm.exec) {own C : String} {index : Nat} {host : String} {y : MethodName} {bytes : ByteArray} {maxL : Nat} {ret : Option FieldType}
    (hown : s.vm.findClass own = some m.cls) (hlink : (Cond.methodLinkNest own index y host).before args s = true) (hinst : (Cond.instanceMethod y).before args s = true) (hsel : (Cond.selects C y y).before args s = true)
    (hcode : (Cond.code y bytes maxL ret).before args s = true) (hy : y.cls ≠ "java/lang/invoke/MethodHandle" ∧ y.cls ≠ "java/lang/invoke/VarHandle")
    {W : Nat} {Pre : Pt → Array Value → Prop} {Post : Pt → Array Value → Option Value → Pt → Prop} {PostX : Pt → Array Value → Addr → Pt → Prop} (hK : vx_Back l R p e below s args y 3 W Pre Post PostX)
    {b : Addr} {cellB : Cell} (hcell : T.heap[b]? = some cellB) (hobj : cellB.vm.isStatics = false) (hcls : s.vm.findClass C = some cellB.cls)
    {g : JFrame} (hg : g.method = m) (hsize : g.locals.size = c.maxLocals) {argsL rest : List Value} (hlen : ∀ sig, parseMethodDescriptor y.desc = some sig → argsL.length = sig.parameters.length)
    (hstack : g.stack = argsL.reverse ++ .ref b :: rest) (hW : 2 * g.monitorRoom + (rest.map fun v => v.category).sum ≤ W) (hdg : decode c.code g.pc = .ok (.invokevirtual index, 3))
    (hpre : ∀ vm₁, s.WarmedH vm₁ → Pre ⟨T.setVm vm₁, locs, cells, slots⟩ (Value.ref b :: argsL).toArray) :
    (∃ (v : Option Value) (vm₁ : Vm) (B : Pt), s.WarmedH vm₁ ∧ Stand p l e R s m args below meth c B.U B.locs B.cells B.slots ∧ Post ⟨T.setVm vm₁, locs, cells, slots⟩ (Value.ref b :: argsL).toArray v B ∧
      ∀ target, Steps p.tables e below (B.U.setTop { g with pc := g.pc + 3, stack := v.toList ++ rest }) target → Steps p.tables e below (T.setTop g) target) ∨
    (∃ (q : Addr) (vm₁ : Vm) (B : Pt), s.WarmedH vm₁ ∧ Stand p l e R s m args below meth c B.U B.locs B.cells B.slots ∧ PostX ⟨T.setVm vm₁, locs, cells, slots⟩ (Value.ref b :: argsL).toArray q B ∧
      Steps p.tables e below (T.setTop g) ((B.U.setTop { g with stack := rest }).pushFrame (.throwing q))) := by
  obtain ⟨mk, methM, hnamed, hmethM, hstM, habM⟩ := Cond.instanceMethod_spec hinst
  obtain ⟨methM', cM, hmethM', -, -, -, -, -, -, hsigM⟩ := Cond.code_spec hnamed hcode
  cases hmethM.symm.trans hmethM'
  obtain ⟨c2, r2, m2, q1, q2, q3, q4, kP, hkP, hkPi⟩ := Cond.selects_spec hsel
  cases hcls.symm.trans q1
  cases (State.methodFound?_of_named hnamed hy).symm.trans q2
  cases hnamed.symm.trans q3
  have hselP : selectMethod e.platform s.vm cellB.cls mk = .method mk := by rw [Launch.admits_selectMethod X.admits]; exact q4
  obtain ⟨vm₁, X₁, hstep₁⟩ := X.invokevirtualNest hexec hown hlink hnamed hmethM hstM hkP hkPi hy (a := b) (cell := cellB) hcell
    (fun z h => by rw [h] at hobj; cases hobj) hselP hmethM habM hkP hkPi (g := g) hg (argsL := argsL) (rest := rest) (hlen _ hsigM) hstack hdg
  rcases hK m meth c ⟨T.setVm vm₁, locs, cells, slots⟩ { g with stack := rest } (.invokevirtual index) mk (Value.ref b :: argsL).toArray X₁ hg hsize hdg hW (X₁.named hnamed) (hpre vm₁ X₁.warmed) with ⟨v, B, X', hpost, hsteps⟩ | ⟨q, B, X', hpost, hsteps⟩
  · exact Or.inl ⟨v, vm₁, B, X₁.warmed, X', hpost, fun target h => hstep₁ _ fun acts => by rw [doInvoke_state]; exact hsteps.trans h⟩
  · exact Or.inr ⟨q, vm₁, B, X₁.warmed, X', hpost, hstep₁ _ fun acts => by rw [doInvoke_state]; exact hsteps⟩
theorem vx_callSN (X : Stand p l e R s m args below meth c T locs cells slots) (hexec : p.tables.exec = Jvm.exec) {own : String} {index : Nat} {host : String} {y : MethodName} {bytes : ByteArray} {maxL : Nat} {ret : Option FieldType}
    (hown : s.vm.findClass own = some m.cls) (hlink : (Cond.methodLinkNest own index y host).before args s = true) (hstat : (Cond.static y).before args s = true) (hinit : (Cond.initialized y.cls).before args s = true)
    (hcode : (Cond.code y bytes maxL ret).before args s = true) (hy : y.cls ≠ "java/lang/invoke/MethodHandle" ∧ y.cls ≠ "java/lang/invoke/VarHandle")
    {W : Nat} {Pre : Pt → Array Value → Prop} {Post : Pt → Array Value → Option Value → Pt → Prop} {PostX : Pt → Array Value → Addr → Pt → Prop} (hK : vx_Back l R p e below s args y 3 W Pre Post PostX)
    {g : JFrame} (hg : g.method = m) (hsize : g.locals.size = c.maxLocals) {argsL rest : List Value} (hlen : ∀ sig, parseMethodDescriptor y.desc = some sig → argsL.length = sig.parameters.length)
    (hstack : g.stack = argsL.reverse ++ rest) (hW : 2 * g.monitorRoom + (rest.map fun v => v.category).sum ≤ W) (hdg : decode c.code g.pc = .ok (.invokestatic index, 3))
    (hpre : ∀ vm₁, s.WarmedH vm₁ → Pre ⟨T.setVm vm₁, locs, cells, slots⟩ argsL.toArray) :
    (∃ (v : Option Value) (vm₁ : Vm) (B : Pt), s.WarmedH vm₁ ∧ Stand p l e R s m args below meth c B.U B.locs B.cells B.slots ∧ Post ⟨T.setVm vm₁, locs, cells, slots⟩ argsL.toArray v B ∧
      ∀ target, Steps p.tables e below (B.U.setTop { g with pc := g.pc + 3, stack := v.toList ++ rest }) target → Steps p.tables e below (T.setTop g) target) ∨
    (∃ (q : Addr) (vm₁ : Vm) (B : Pt), s.WarmedH vm₁ ∧ Stand p l e R s m args below meth c B.U B.locs B.cells B.slots ∧ PostX ⟨T.setVm vm₁, locs, cells, slots⟩ argsL.toArray q B ∧
      Steps p.tables e below (T.setTop g) ((B.U.setTop { g with stack := rest }).pushFrame (.throwing q))) := by
  obtain ⟨mk, hnamed⟩ := Cond.code_named hcode
  obtain ⟨methM, cM, hmethM, -, -, -, -, -, -, hsigM⟩ := Cond.code_spec hnamed hcode
  have hstatic : methM.isStatic = true := Cond.static_spec hnamed hmethM hstat
  obtain ⟨kP, hkP, -⟩ := className_of_methodNamed hnamed
  have hinitP : kP.init = .initialized := Cond.initialized_spec (findClass_of_methodNamed hnamed) hkP hinit
  obtain ⟨vm₁, X₁, hstep₁⟩ := X.invokestaticNest hexec hown hlink hnamed hmethM hstatic hkP hinitP hy (g := g) hg (argsL := argsL) (rest := rest) (hlen _ hsigM) hstack hdg
  rcases hK m meth c ⟨T.setVm vm₁, locs, cells, slots⟩ { g with stack := rest } (.invokestatic index) mk argsL.toArray X₁ hg hsize hdg hW (X₁.named hnamed) (hpre vm₁ X₁.warmed) with ⟨v, B, X', hpost, hsteps⟩ | ⟨q, B, X', hpost, hsteps⟩
  · exact Or.inl ⟨v, vm₁, B, X₁.warmed, X', hpost, fun target h => hstep₁ _ fun acts => by rw [doInvoke_state]; exact hsteps.trans h⟩
  · exact Or.inr ⟨q, vm₁, B, X₁.warmed, X', hpost, hstep₁ _ fun acts => by rw [doInvoke_state]; exact hsteps⟩
theorem vx_runVN {y : MethodName} {bytes cc : ByteArray} {maxL nL mc ms n index : Nat} {ret : Option FieldType} {ws : List Cond} {rm : Room} {Pc : Array Value → State → Prop} {Qc : Array Value → State → Outcome → State → Prop} {XC : String → State → State → Prop} {free : Addr → Prop} {Ts : List Cond} {own C host : String} {b : Addr} {As rest : List Value} {g : JFrame}
    (S : CallFix p m c cc nL s args Ts own) (hM : vx_Met l y ws rm Pc Qc XC mc ms free) (cw : va_CN R s args own index y host bytes maxL ret ws rm mc ms n ∧ (Cond.instanceMethod y).before args s = true ∧ (Cond.selects C y y).before args s = true) (hp : PreV s H C b Pc As)
    (hg : g.method = m) (hn : As.length = n) (hsize : g.locals.size = nL) (hstack : g.stack = As.reverse ++ .ref b :: rest) (hW : 2 * g.monitorRoom + (rest.map fun v => v.category).sum ≤ 8) (hdg : decode cc g.pc = .ok (.invokevirtual index, 3)) (hf : cells + mc ≤ R.cells ∧ slots + ms ≤ R.slots) :
    vx_Run p l e R s m args below meth c H locs cells slots mc ms g rest (Qc (Value.ref b :: As).toArray) XC free := by
  obtain ⟨⟨⟨hrc, hrs, hfr, hlo, hws, hcw⟩, hcode, hini, hy, hlen, hl⟩, hx1, hx2⟩ := cw
  have hK : vx_Back l R p e below s args y 3 8 (PreOf R mc ms Pc) (PostOf Qc mc ms free) (vx_Post XC mc ms free) := vx_back (bytes := bytes) (maxL := maxL) (ret := ret) hM hp.1 hrc hrs hfr hlo hws hcw (fun a' U hW => word_at hW (Or.inl (by first | rfl | simp [Cond.onTables, Cond.keeps, Cond.steady])) hini)
  obtain ⟨hx, hb, hml, ho, -⟩ := S
  obtain ⟨-, ⟨cellB, hcB, hoB, hclB⟩, hPc⟩ := hp
  intro T hT X
  rcases vx_callVN X hx (C := C) (bytes := bytes) (maxL := maxL) (ret := ret) ho hl hx1 hx2 hcode hy hK (by rw [hT]; exact hcB) hoB hclB hg (hsize.trans hml.symm) (argsL := As) (rest := rest) (fun sig h => hn.trans (hlen sig h)) hstack hW (by rw [hb]; exact hdg)
    (fun vm₁ hW₁ => ⟨hf.1, hf.2, hPc (T.setVm vm₁) hT hW₁⟩) with ⟨v, vm₁, ⟨U', l2, c2, s2⟩, hW₁, X', ⟨g', mk, t, L, e1, e2, hq, h1, hL, h2, h3⟩, st⟩ | ⟨q, vm₁, ⟨U', l2, c2, s2⟩, hW₁, X', ⟨g', mk, t, L, E, ce, e1, e2, hq, hce, hcv, hcl, h1, hL, h2, h3⟩, st⟩
  · dsimp only [Pt.U, Pt.locs, Pt.cells, Pt.slots] at X' e1 e2 h1 h2 h3 st
    subst h1; subst h2; subst h3
    exact Or.inl ⟨v, (T.setVm vm₁).calling g' mk (Value.ref b :: As).toArray, t, U', L, hT, X', hL, e1, e2, hq, st⟩
  · dsimp only [Pt.U, Pt.locs, Pt.cells, Pt.slots] at X' e1 e2 h1 h2 h3 st hcl
    subst h1; subst h2; subst h3
    exact Or.inr ⟨q, (T.setVm vm₁).calling g' mk (Value.ref b :: As).toArray, t, U', L, E, ce, hT, X', hL, e1, e2, hq, hce, hcv, vx_cls hW₁ hcl, st⟩
theorem vx_runSN {y : MethodName} {bytes cc : ByteArray} {maxL nL mc ms n index : Nat} {ret : Option FieldType} {ws : List Cond} {rm : Room} {Pc : Array Value → State → Prop} {Qc : Array Value → State → Outcome → State → Prop} {XC : String → State → State → Prop} {free : Addr → Prop} {Ts : List Cond} {own host : String} {As rest : List Value} {g : JFrame}
    (S : CallFix p m c cc nL s args Ts own) (hM : vx_Met l y ws rm Pc Qc XC mc ms free) (cw : va_CN R s args own index y host bytes maxL ret ws rm mc ms n ∧ (Cond.static y).before args s = true ∧ True) (hp : PreS s H Pc As)
    (hg : g.method = m) (hn : As.length = n) (hsize : g.locals.size = nL) (hstack : g.stack = As.reverse ++ rest) (hW : 2 * g.monitorRoom + (rest.map fun v => v.category).sum ≤ 8) (hdg : decode cc g.pc = .ok (.invokestatic index, 3)) (hf : cells + mc ≤ R.cells ∧ slots + ms ≤ R.slots) :
    vx_Run p l e R s m args below meth c H locs cells slots mc ms g rest (Qc As.toArray) XC free := by
  obtain ⟨⟨⟨hrc, hrs, hfr, hlo, hws, hcw⟩, hcode, hini, hy, hlen, hl⟩, hx1, hx2⟩ := cw
  have hK : vx_Back l R p e below s args y 3 8 (PreOf R mc ms Pc) (PostOf Qc mc ms free) (vx_Post XC mc ms free) := vx_back (bytes := bytes) (maxL := maxL) (ret := ret) hM hp.1 hrc hrs hfr hlo hws hcw (fun a' U hW => word_at hW (Or.inl (by first | rfl | simp [Cond.onTables, Cond.keeps, Cond.steady])) hini)
  obtain ⟨hx, hb, hml, ho, -⟩ := S
  have hPc := hp.2
  intro T hT X
  rcases vx_callSN X hx (bytes := bytes) (maxL := maxL) (ret := ret) ho hl hx1 hini hcode hy hK hg (hsize.trans hml.symm) (argsL := As) (rest := rest) (fun sig h => hn.trans (hlen sig h)) hstack hW (by rw [hb]; exact hdg)
    (fun vm₁ hW₁ => ⟨hf.1, hf.2, hPc (T.setVm vm₁) hT hW₁⟩) with ⟨v, vm₁, ⟨U', l2, c2, s2⟩, hW₁, X', ⟨g', mk, t, L, e1, e2, hq, h1, hL, h2, h3⟩, st⟩ | ⟨q, vm₁, ⟨U', l2, c2, s2⟩, hW₁, X', ⟨g', mk, t, L, E, ce, e1, e2, hq, hce, hcv, hcl, h1, hL, h2, h3⟩, st⟩
  · dsimp only [Pt.U, Pt.locs, Pt.cells, Pt.slots] at X' e1 e2 h1 h2 h3 st
    subst h1; subst h2; subst h3
    exact Or.inl ⟨v, (T.setVm vm₁).calling g' mk As.toArray, t, U', L, hT, X', hL, e1, e2, hq, st⟩
  · dsimp only [Pt.U, Pt.locs, Pt.cells, Pt.slots] at X' e1 e2 h1 h2 h3 st hcl
    subst h1; subst h2; subst h3
    exact Or.inr ⟨q, (T.setVm vm₁).calling g' mk As.toArray, t, U', L, E, ce, hT, X', hL, e1, e2, hq, hce, hcv, vx_cls hW₁ hcl, st⟩
end
/-! ===== END ===== -/
/-! ===== BEGIN calls by an interface of methods that may throw (vx_callIF, vx_runF follow va_callIF, va_runF of this kit) ===== -/
section
variable {p : Program} {l : Launch} {e : Env} {R : Room} {s : State} {m : MethodId} {args : Array Value} {below : List Frame} {meth : Method} {c : Code} {H : Heap} {locs : List Loc} {cells slots : Nat} {Q : State → Prop}
variable {mc ms : Nat} {free : Addr → Prop} {A0 A1 : Nat → Prop} {H0 : Heap} {a : Array Value} {pc : Nat} {ls : Array Slot} {st0 rest : List Value}
def vx_Run5 (p : Program) (l : Launch) (e : Env) (R : Room) (s : State) (m : MethodId) (args : Array Value) (below : List Frame) (meth : Method) (c : Code) (H : Heap) (locs : List Loc) (cells slots mc ms : Nat) (g : JFrame) (rest : List Value) (Qa : State → Outcome → State → Prop) (XC : String → State → State → Prop) (free : Addr → Prop) : Prop :=
  ∀ T : State, T.heap = H → Stand p l e R s m args below meth c T locs cells slots →
    (∃ (v : Option Value) (st₀ t T' : State) (L : List Loc), st₀.heap = H ∧ Stand p l e R s m args below meth c T' (locs ++ L) (cells + mc) (slots + ms) ∧ (∀ q ∈ L, free q.base) ∧ T'.heap = t.heap ∧ T'.vm = t.vm ∧ Qa st₀ (.returned v) t ∧
      Goes p e below T g T' { g with pc := g.pc + 5, stack := v.toList ++ rest }) ∨
    (∃ (q : Addr) (st₀ t T' : State) (L : List Loc) (E : String) (ce : Cell), st₀.heap = H ∧ Stand p l e R s m args below meth c T' (locs ++ L) (cells + mc) (slots + ms) ∧ (∀ z ∈ L, free z.base) ∧ T'.heap = t.heap ∧ T'.vm = t.vm ∧ XC E st₀ t ∧ t.heap[q]? = some ce ∧ ce.vm = .none ∧ s.vm.findClass E = some ce.cls ∧
      Steps p.tables e below (T.setTop g) ((T'.setTop { g with stack := rest }).pushFrame (.throwing q)))
theorem vx_callIF {T : State} (X : Stand p l e R s m args below meth c T locs cells slots) (hexec : p.tables.exec = Jvm.exec) {own C : String} {index count : Nat} {x y : MethodName} {bytes : ByteArray} {maxL : Nat} {ret : Option FieldType}
    (hown : s.vm.findClass own = some m.cls) (hlink : (Cond.methodLink own index x).before args s = true) (hdecl : (Cond.declares x).before args s = true) (hface : (Cond.interfaceMethod x.cls x.cls x.name x.desc).before args s = true)
    (hsel : (Cond.selects C x y).before args s = true) (hinst : (Cond.instanceMethod y).before args s = true) (hpub : (Cond.publicMethod y).before args s = true) (hunh : (Cond.unhidden C x.name x.desc).before args s = true)
    (hcast : (Cond.castable C x.cls).before args s = true) (hcode : (Cond.code y bytes maxL ret).before args s = true) (hx : x.cls ≠ "java/lang/invoke/MethodHandle" ∧ x.cls ≠ "java/lang/invoke/VarHandle")
    {W9 : Nat} {Pre : Pt → Array Value → Prop} {Post : Pt → Array Value → Option Value → Pt → Prop} {PostX : Pt → Array Value → Addr → Pt → Prop} (hK : vx_Back l R p e below s args y 5 W9 Pre Post PostX)
    {b : Addr} {cellB : Cell} {kB : Class} (hcell : T.heap[b]? = some cellB) (hobj : cellB.vm.isStatics = false) (hcls : s.vm.findClass C = some cellB.cls) (hkB : s.vm.classes[cellB.cls]? = some kB)
    {g : JFrame} (hg : g.method = m) (hsize : g.locals.size = c.maxLocals) {argsL rest : List Value} (hlen : ∀ sig, parseMethodDescriptor x.desc = some sig → argsL.length = sig.parameters.length)
    (hstack : g.stack = argsL.reverse ++ .ref b :: rest) (hW : 2 * g.monitorRoom + (rest.map fun v => v.category).sum ≤ W9) (hdg : decode c.code g.pc = .ok (.invokeinterface index count, 5))
    (hpre : ∀ vm₁, s.WarmedH vm₁ → Pre ⟨T.setVm vm₁, locs, cells, slots⟩ (Value.ref b :: argsL).toArray) :
    (∃ (v : Option Value) (vm₁ : Vm) (B : Pt), s.WarmedH vm₁ ∧ Stand p l e R s m args below meth c B.U B.locs B.cells B.slots ∧ Post ⟨T.setVm vm₁, locs, cells, slots⟩ (Value.ref b :: argsL).toArray v B ∧
      ∀ target, Steps p.tables e below (B.U.setTop { g with pc := g.pc + 5, stack := v.toList ++ rest }) target → Steps p.tables e below (T.setTop g) target) ∨
    (∃ (q : Addr) (vm₁ : Vm) (B : Pt), s.WarmedH vm₁ ∧ Stand p l e R s m args below meth c B.U B.locs B.cells B.slots ∧ PostX ⟨T.setVm vm₁, locs, cells, slots⟩ (Value.ref b :: argsL).toArray q B ∧
      Steps p.tables e below (T.setTop g) ((B.U.setTop { g with stack := rest }).pushFrame (.throwing q))) := by
  obtain ⟨r0, r, hn, hrm, hstR, hsigR⟩ := Cond.declares_spec hdecl
  obtain ⟨cL, kL, r1, hcL, hkL, hiL, hfoundL, hn1⟩ := Cond.interfaceMethod_spec hface
  cases hn.symm.trans hn1
  have hr0cls : r0.cls = cL := Option.some.inj ((findClass_of_methodNamed hn).symm.trans hcL)
  obtain ⟨hnameR, hdescR⟩ := name_of_methodNamed hn hrm
  obtain ⟨mk, methM, hnamed, hmethM, -, habM⟩ := Cond.instanceMethod_spec hinst
  obtain ⟨c2, r2, m2, q1, q2, q3, q4, -⟩ := Cond.selects_spec hsel
  cases hcls.symm.trans q1
  cases hfoundL.symm.trans q2
  cases hnamed.symm.trans q3
  have hselP : selectMethod e.platform s.vm cellB.cls r0 = .method mk := by rw [Launch.admits_selectMethod X.admits]; exact q4
  have hpubM : hasFlag methM.accessFlags Acc.public_ = true := Cond.publicMethod_spec hnamed hmethM hpub
  have hway : ((cellB.cls :: s.vm.superclasses cellB.cls).any fun k => (declaredIn s.vm r.name r.desc k).any fun (_, z) => z.isPrivate || z.isStatic) = false := by
    rw [hnameR, hdescR]; exact Cond.unhidden_spec hcls hunh
  obtain ⟨c3, t3, w1, w2, w3⟩ := Cond.castable_spec hcast
  cases hcls.symm.trans w1
  cases hcL.symm.trans w2
  obtain ⟨vm₁, X₁, hstep₁⟩ := X.invokeinterface hexec hown hlink hn hrm hstR (by rw [hr0cls]; exact hkL) hiL hx (a := b) (cell := cellB) (kcell := kB) hcell
    (fun z h => by rw [h] at hobj; cases hobj) hkB (by rw [hr0cls]; exact w3) hselP hmethM hway hpubM habM (g := g) hg (argsL := argsL) (rest := rest) (hlen _ hsigR) hstack hdg
  rcases hK m meth c ⟨T.setVm vm₁, locs, cells, slots⟩ { g with stack := rest } (.invokeinterface index count) mk (Value.ref b :: argsL).toArray X₁ hg hsize hdg hW (X₁.named hnamed) (hpre vm₁ X₁.warmed) with ⟨v, B, X', hpost, hsteps⟩ | ⟨q, B, X', hpost, hsteps⟩
  · exact Or.inl ⟨v, vm₁, B, X₁.warmed, X', hpost, fun target h => hstep₁ _ fun acts => by rw [doInvoke_state]; exact hsteps.trans h⟩
  · exact Or.inr ⟨q, vm₁, B, X₁.warmed, X', hpost, hstep₁ _ fun acts => by rw [doInvoke_state]; exact hsteps⟩
theorem vx_runF {x y : MethodName} {bytes cc : ByteArray} {maxL nL mc ms n index count : Nat} {ret : Option FieldType} {ws : List Cond} {rm : Room} {Pc : Array Value → State → Prop} {Qc : Array Value → State → Outcome → State → Prop} {XC : String → State → State → Prop} {free : Addr → Prop} {Ts : List Cond} {own C : String} {cC : ClassId} {b : Addr} {As rest : List Value} {g : JFrame}
    (hat : ClassAt s C cC) (S : CallFix p m c cc nL s args Ts own) (hM : vx_Met l y ws rm Pc Qc XC mc ms free) (cw : va_CI R s args own C index x y bytes maxL ret ws rm mc ms n) (hp : PreV s H C b Pc As)
    (hg : g.method = m) (hn : As.length = n) (hsize : g.locals.size = nL) (hstack : g.stack = As.reverse ++ .ref b :: rest) (hW : 2 * g.monitorRoom + (rest.map fun v => v.category).sum ≤ 8) (hdg : decode cc g.pc = .ok (.invokeinterface index count, 5)) (hf : cells + mc ≤ R.cells ∧ slots + ms ≤ R.slots) :
    vx_Run5 p l e R s m args below meth c H locs cells slots mc ms g rest (Qc (Value.ref b :: As).toArray) XC free := by
  obtain ⟨hrc, hrs, hfr, hlo, hws, hcw⟩ := cw.back
  have hini := cw.init
  have hK : vx_Back l R p e below s args y 5 8 (PreOf R mc ms Pc) (PostOf Qc mc ms free) (vx_Post XC mc ms free) := vx_back (bytes := bytes) (maxL := maxL) (ret := ret) hM hp.1 hrc hrs hfr hlo hws hcw (fun a' U hW => word_at hW (Or.inl (by first | rfl | simp [Cond.onTables, Cond.keeps, Cond.steady])) hini)
  obtain ⟨hx, hb, hml, ho, -⟩ := S
  obtain ⟨-, ⟨cellB, hcB, hoB, hclB⟩, hPc⟩ := hp
  obtain ⟨hfc, kB, hkB, -⟩ := hat
  cases hfc.symm.trans hclB
  intro T hT X
  rcases vx_callIF X hx (C := C) (bytes := bytes) (maxL := maxL) (ret := ret) ho cw.link cw.decl cw.face cw.sel cw.inst cw.pub cw.unh cw.cast cw.code cw.notMH hK (by rw [hT]; exact hcB) hoB hclB hkB hg (hsize.trans hml.symm) (argsL := As) (rest := rest) (fun sig h => hn.trans (cw.len sig h)) hstack hW (by rw [hb]; exact hdg)
    (fun vm₁ hW₁ => ⟨hf.1, hf.2, hPc (T.setVm vm₁) hT hW₁⟩) with ⟨v, vm₁, ⟨U', l2, c2, s2⟩, hW₁, X', ⟨g', mk, t, L, e1, e2, hq, h1, hL, h2, h3⟩, st⟩ | ⟨q, vm₁, ⟨U', l2, c2, s2⟩, hW₁, X', ⟨g', mk, t, L, E, ce, e1, e2, hq, hce, hcv, hcl, h1, hL, h2, h3⟩, st⟩
  · dsimp only [Pt.U, Pt.locs, Pt.cells, Pt.slots] at X' e1 e2 h1 h2 h3 st
    subst h1; subst h2; subst h3
    exact Or.inl ⟨v, (T.setVm vm₁).calling g' mk (Value.ref b :: As).toArray, t, U', L, hT, X', hL, e1, e2, hq, st⟩
  · dsimp only [Pt.U, Pt.locs, Pt.cells, Pt.slots] at X' e1 e2 h1 h2 h3 st hcl
    subst h1; subst h2; subst h3
    exact Or.inr ⟨q, (T.setVm vm₁).calling g' mk (Value.ref b :: As).toArray, t, U', L, E, ce, hT, X', hL, e1, e2, hq, hce, hcv, vx_cls hW₁ hcl, st⟩
theorem vx_callFv {S SX : Type} {post : S → Prop} {px : SX → Prop} {B : S → State → Prop} {BX : String → SX → State → Prop} {AX : Nat → Prop} (hr : vx_Run5 p l e R s m args below meth c H locs cells slots mc ms (F0 m pc ls st0) rest (va_Qv post B A1 a) (vx_X px BX AX) free) (hS : va_S A0 H0 H locs) (hA : ∀ q, q < H.size → A1 q → A0 q) (hf : ∀ q, free q → A0 q) (hAX : ∀ q, q < H.size → AX q → A0 q)
    (kx : ∀ (E : String) (ce : Cell) (q9 : Addr) (u : SX) (t : State) (H1 : Heap) (locs1 : List Loc), t.heap = H1 → s.vm.Alike t.vm → px u → BX E u t → H.size ≤ H1.size → (∀ q : Nat, q < H.size → ¬ AX q → H1[q]? = H[q]?) → va_S A0 H0 H1 locs1 → H1[q9]? = some ce → ce.vm = .none → s.vm.findClass E = some ce.cls → vx_W p l e R s m args below meth c H1 locs1 (cells + mc) (slots + ms) Q (F0 m pc ls rest) q9)
    (kk : ∀ (u : S) (t : State) (H1 : Heap) (locs1 : List Loc), t.heap = H1 → s.vm.Alike t.vm → post u → B u t → H.size ≤ H1.size → (∀ q : Nat, q < H.size → ¬ A1 q → H1[q]? = H[q]?) → va_S A0 H0 H1 locs1 → W p l e R s m args below meth c H1 locs1 (cells + mc) (slots + ms) Q (F0 m (pc + 5) ls (rest))) : W p l e R s m args below meth c H locs cells slots Q (F0 m pc ls st0) := by
  intro T hT X
  rcases hr T hT X with ⟨v, st₀, t, T', L, h0, X', hL, e1, e2, ⟨⟨u, hv, hp, hb⟩, hF⟩, st⟩ | ⟨q, st₀, t, T', L, E, ce, h0, X', hL, e1, e2, ⟨u, hp, hb, hF⟩, hce, hcv, hcl, st⟩
  · cases hv
    obtain ⟨k1, k2, k3⟩ := vx_keep h0 e1 hS hA hf hL hF
    obtain ⟨t2, a1, b1⟩ := kk u t T'.heap (locs ++ L) e1.symm (by rw [← e2]; exact X'.warmed.alike) hp hb k1 k2 k3 T' rfl X'
    exact ⟨t2, st t2 a1, b1⟩
  · obtain ⟨k1, k2, k3⟩ := vx_keep h0 e1 hS hAX hf hL hF
    obtain ⟨t2, a1, b1⟩ := kx E ce q u t T'.heap (locs ++ L) e1.symm (by rw [← e2]; exact X'.warmed.alike) hp hb k1 k2 k3 (by rw [e1]; exact hce) hcv hcl T' rfl X'
    exact ⟨t2, st.trans a1, b1⟩
theorem vx_callFi {S SX : Type} {post : Int32 → S → Prop} {px : SX → Prop} {B : S → State → Prop} {BX : String → SX → State → Prop} {AX : Nat → Prop} (hr : vx_Run5 p l e R s m args below meth c H locs cells slots mc ms (F0 m pc ls st0) rest (va_Qi post B A1 a) (vx_X px BX AX) free) (hS : va_S A0 H0 H locs) (hA : ∀ q, q < H.size → A1 q → A0 q) (hf : ∀ q, free q → A0 q) (hAX : ∀ q, q < H.size → AX q → A0 q)
    (kx : ∀ (E : String) (ce : Cell) (q9 : Addr) (u : SX) (t : State) (H1 : Heap) (locs1 : List Loc), t.heap = H1 → s.vm.Alike t.vm → px u → BX E u t → H.size ≤ H1.size → (∀ q : Nat, q < H.size → ¬ AX q → H1[q]? = H[q]?) → va_S A0 H0 H1 locs1 → H1[q9]? = some ce → ce.vm = .none → s.vm.findClass E = some ce.cls → vx_W p l e R s m args below meth c H1 locs1 (cells + mc) (slots + ms) Q (F0 m pc ls rest) q9)
    (kk : ∀ (r : Int32) (u : S) (t : State) (H1 : Heap) (locs1 : List Loc), t.heap = H1 → s.vm.Alike t.vm → post r u → B u t → H.size ≤ H1.size → (∀ q : Nat, q < H.size → ¬ A1 q → H1[q]? = H[q]?) → va_S A0 H0 H1 locs1 → W p l e R s m args below meth c H1 locs1 (cells + mc) (slots + ms) Q (F0 m (pc + 5) ls (.int r :: rest))) : W p l e R s m args below meth c H locs cells slots Q (F0 m pc ls st0) := by
  intro T hT X
  rcases hr T hT X with ⟨v, st₀, t, T', L, h0, X', hL, e1, e2, ⟨⟨r, u, hv, hp, hb⟩, hF⟩, st⟩ | ⟨q, st₀, t, T', L, E, ce, h0, X', hL, e1, e2, ⟨u, hp, hb, hF⟩, hce, hcv, hcl, st⟩
  · cases hv
    obtain ⟨k1, k2, k3⟩ := vx_keep h0 e1 hS hA hf hL hF
    obtain ⟨t2, a1, b1⟩ := kk r u t T'.heap (locs ++ L) e1.symm (by rw [← e2]; exact X'.warmed.alike) hp hb k1 k2 k3 T' rfl X'
    exact ⟨t2, st t2 a1, b1⟩
  · obtain ⟨k1, k2, k3⟩ := vx_keep h0 e1 hS hAX hf hL hF
    obtain ⟨t2, a1, b1⟩ := kx E ce q u t T'.heap (locs ++ L) e1.symm (by rw [← e2]; exact X'.warmed.alike) hp hb k1 k2 k3 (by rw [e1]; exact hce) hcv hcl T' rfl X'
    exact ⟨t2, st.trans a1, b1⟩
theorem vx_callFl {S SX : Type} {post : Int64 → S → Prop} {px : SX → Prop} {B : S → State → Prop} {BX : String → SX → State → Prop} {AX : Nat → Prop} (hr : vx_Run5 p l e R s m args below meth c H locs cells slots mc ms (F0 m pc ls st0) rest (va_Ql post B A1 a) (vx_X px BX AX) free) (hS : va_S A0 H0 H locs) (hA : ∀ q, q < H.size → A1 q → A0 q) (hf : ∀ q, free q → A0 q) (hAX : ∀ q, q < H.size → AX q → A0 q)
    (kx : ∀ (E : String) (ce : Cell) (q9 : Addr) (u : SX) (t : State) (H1 : Heap) (locs1 : List Loc), t.heap = H1 → s.vm.Alike t.vm → px u → BX E u t → H.size ≤ H1.size → (∀ q : Nat, q < H.size → ¬ AX q → H1[q]? = H[q]?) → va_S A0 H0 H1 locs1 → H1[q9]? = some ce → ce.vm = .none → s.vm.findClass E = some ce.cls → vx_W p l e R s m args below meth c H1 locs1 (cells + mc) (slots + ms) Q (F0 m pc ls rest) q9)
    (kk : ∀ (r : Int64) (u : S) (t : State) (H1 : Heap) (locs1 : List Loc), t.heap = H1 → s.vm.Alike t.vm → post r u → B u t → H.size ≤ H1.size → (∀ q : Nat, q < H.size → ¬ A1 q → H1[q]? = H[q]?) → va_S A0 H0 H1 locs1 → W p l e R s m args below meth c H1 locs1 (cells + mc) (slots + ms) Q (F0 m (pc + 5) ls (.long r :: rest))) : W p l e R s m args below meth c H locs cells slots Q (F0 m pc ls st0) := by
  intro T hT X
  rcases hr T hT X with ⟨v, st₀, t, T', L, h0, X', hL, e1, e2, ⟨⟨r, u, hv, hp, hb⟩, hF⟩, st⟩ | ⟨q, st₀, t, T', L, E, ce, h0, X', hL, e1, e2, ⟨u, hp, hb, hF⟩, hce, hcv, hcl, st⟩
  · cases hv
    obtain ⟨k1, k2, k3⟩ := vx_keep h0 e1 hS hA hf hL hF
    obtain ⟨t2, a1, b1⟩ := kk r u t T'.heap (locs ++ L) e1.symm (by rw [← e2]; exact X'.warmed.alike) hp hb k1 k2 k3 T' rfl X'
    exact ⟨t2, st t2 a1, b1⟩
  · obtain ⟨k1, k2, k3⟩ := vx_keep h0 e1 hS hAX hf hL hF
    obtain ⟨t2, a1, b1⟩ := kx E ce q u t T'.heap (locs ++ L) e1.symm (by rw [← e2]; exact X'.warmed.alike) hp hb k1 k2 k3 (by rw [e1]; exact hce) hcv hcl T' rfl X'
    exact ⟨t2, st.trans a1, b1⟩
theorem vx_callFf {S SX : Type} {post : UInt32 → S → Prop} {px : SX → Prop} {B : S → State → Prop} {BX : String → SX → State → Prop} {AX : Nat → Prop} (hr : vx_Run5 p l e R s m args below meth c H locs cells slots mc ms (F0 m pc ls st0) rest (va_Qf post B A1 a) (vx_X px BX AX) free) (hS : va_S A0 H0 H locs) (hA : ∀ q, q < H.size → A1 q → A0 q) (hf : ∀ q, free q → A0 q) (hAX : ∀ q, q < H.size → AX q → A0 q)
    (kx : ∀ (E : String) (ce : Cell) (q9 : Addr) (u : SX) (t : State) (H1 : Heap) (locs1 : List Loc), t.heap = H1 → s.vm.Alike t.vm → px u → BX E u t → H.size ≤ H1.size → (∀ q : Nat, q < H.size → ¬ AX q → H1[q]? = H[q]?) → va_S A0 H0 H1 locs1 → H1[q9]? = some ce → ce.vm = .none → s.vm.findClass E = some ce.cls → vx_W p l e R s m args below meth c H1 locs1 (cells + mc) (slots + ms) Q (F0 m pc ls rest) q9)
    (kk : ∀ (r : UInt32) (u : S) (t : State) (H1 : Heap) (locs1 : List Loc), t.heap = H1 → s.vm.Alike t.vm → post r u → B u t → H.size ≤ H1.size → (∀ q : Nat, q < H.size → ¬ A1 q → H1[q]? = H[q]?) → va_S A0 H0 H1 locs1 → W p l e R s m args below meth c H1 locs1 (cells + mc) (slots + ms) Q (F0 m (pc + 5) ls (.float r :: rest))) : W p l e R s m args below meth c H locs cells slots Q (F0 m pc ls st0) := by
  intro T hT X
  rcases hr T hT X with ⟨v, st₀, t, T', L, h0, X', hL, e1, e2, ⟨⟨r, u, hv, hp, hb⟩, hF⟩, st⟩ | ⟨q, st₀, t, T', L, E, ce, h0, X', hL, e1, e2, ⟨u, hp, hb, hF⟩, hce, hcv, hcl, st⟩
  · cases hv
    obtain ⟨k1, k2, k3⟩ := vx_keep h0 e1 hS hA hf hL hF
    obtain ⟨t2, a1, b1⟩ := kk r u t T'.heap (locs ++ L) e1.symm (by rw [← e2]; exact X'.warmed.alike) hp hb k1 k2 k3 T' rfl X'
    exact ⟨t2, st t2 a1, b1⟩
  · obtain ⟨k1, k2, k3⟩ := vx_keep h0 e1 hS hAX hf hL hF
    obtain ⟨t2, a1, b1⟩ := kx E ce q u t T'.heap (locs ++ L) e1.symm (by rw [← e2]; exact X'.warmed.alike) hp hb k1 k2 k3 (by rw [e1]; exact hce) hcv hcl T' rfl X'
    exact ⟨t2, st.trans a1, b1⟩
theorem vx_callFd {S SX : Type} {post : UInt64 → S → Prop} {px : SX → Prop} {B : S → State → Prop} {BX : String → SX → State → Prop} {AX : Nat → Prop} (hr : vx_Run5 p l e R s m args below meth c H locs cells slots mc ms (F0 m pc ls st0) rest (va_Qd post B A1 a) (vx_X px BX AX) free) (hS : va_S A0 H0 H locs) (hA : ∀ q, q < H.size → A1 q → A0 q) (hf : ∀ q, free q → A0 q) (hAX : ∀ q, q < H.size → AX q → A0 q)
    (kx : ∀ (E : String) (ce : Cell) (q9 : Addr) (u : SX) (t : State) (H1 : Heap) (locs1 : List Loc), t.heap = H1 → s.vm.Alike t.vm → px u → BX E u t → H.size ≤ H1.size → (∀ q : Nat, q < H.size → ¬ AX q → H1[q]? = H[q]?) → va_S A0 H0 H1 locs1 → H1[q9]? = some ce → ce.vm = .none → s.vm.findClass E = some ce.cls → vx_W p l e R s m args below meth c H1 locs1 (cells + mc) (slots + ms) Q (F0 m pc ls rest) q9)
    (kk : ∀ (r : UInt64) (u : S) (t : State) (H1 : Heap) (locs1 : List Loc), t.heap = H1 → s.vm.Alike t.vm → post r u → B u t → H.size ≤ H1.size → (∀ q : Nat, q < H.size → ¬ A1 q → H1[q]? = H[q]?) → va_S A0 H0 H1 locs1 → W p l e R s m args below meth c H1 locs1 (cells + mc) (slots + ms) Q (F0 m (pc + 5) ls (.double r :: rest))) : W p l e R s m args below meth c H locs cells slots Q (F0 m pc ls st0) := by
  intro T hT X
  rcases hr T hT X with ⟨v, st₀, t, T', L, h0, X', hL, e1, e2, ⟨⟨r, u, hv, hp, hb⟩, hF⟩, st⟩ | ⟨q, st₀, t, T', L, E, ce, h0, X', hL, e1, e2, ⟨u, hp, hb, hF⟩, hce, hcv, hcl, st⟩
  · cases hv
    obtain ⟨k1, k2, k3⟩ := vx_keep h0 e1 hS hA hf hL hF
    obtain ⟨t2, a1, b1⟩ := kk r u t T'.heap (locs ++ L) e1.symm (by rw [← e2]; exact X'.warmed.alike) hp hb k1 k2 k3 T' rfl X'
    exact ⟨t2, st t2 a1, b1⟩
  · obtain ⟨k1, k2, k3⟩ := vx_keep h0 e1 hS hAX hf hL hF
    obtain ⟨t2, a1, b1⟩ := kx E ce q u t T'.heap (locs ++ L) e1.symm (by rw [← e2]; exact X'.warmed.alike) hp hb k1 k2 k3 (by rw [e1]; exact hce) hcv hcl T' rfl X'
    exact ⟨t2, st.trans a1, b1⟩
end
/-! ===== END ===== -/
/-! ===== BEGIN by an interface, a method with a table of its own that may throw (follows va_callIFW, va_runFW) ===== -/
section
variable {p : Program} {l : Launch} {e : Env} {R : Room} {s : State} {m : MethodId} {args : Array Value} {below : List Frame} {meth : Method} {c : Code} {H : Heap} {locs : List Loc} {cells slots : Nat}
theorem vx_callIFW {T : State} (X : Stand p l e R s m args below meth c T locs cells slots) (hexec : p.tables.exec = Jvm.exec) {own C : String} {index count : Nat} {x y : MethodName} {bytes : ByteArray} {maxL : Nat} {ret : Option FieldType} {hh : List (Nat × Nat × Nat × Nat)}
    (hown : s.vm.findClass own = some m.cls) (hlink : (Cond.methodLink own index x).before args s = true) (hdecl : (Cond.declares x).before args s = true) (hface : (Cond.interfaceMethod x.cls x.cls x.name x.desc).before args s = true)
    (hsel : (Cond.selects C x y).before args s = true) (hinst : (Cond.instanceMethod y).before args s = true) (hpub : (Cond.publicMethod y).before args s = true) (hunh : (Cond.unhidden C x.name x.desc).before args s = true)
    (hcast : (Cond.castable C x.cls).before args s = true) (hcode : (Cond.codeWith y bytes maxL ret hh).before args s = true) (hx : x.cls ≠ "java/lang/invoke/MethodHandle" ∧ x.cls ≠ "java/lang/invoke/VarHandle")
    {W : Nat} {Pre : Pt → Array Value → Prop} {Post : Pt → Array Value → Option Value → Pt → Prop} {PostX : Pt → Array Value → Addr → Pt → Prop} (hK : vx_Back l R p e below s args y 5 W Pre Post PostX)
    {b : Addr} {cellB : Cell} {kB : Class} (hcell : T.heap[b]? = some cellB) (hobj : cellB.vm.isStatics = false) (hcls : s.vm.findClass C = some cellB.cls) (hkB : s.vm.classes[cellB.cls]? = some kB)
    {g : JFrame} (hg : g.method = m) (hsize : g.locals.size = c.maxLocals) {argsL rest : List Value} (hlen : ∀ sig, parseMethodDescriptor x.desc = some sig → argsL.length = sig.parameters.length)
    (hstack : g.stack = argsL.reverse ++ .ref b :: rest) (hW : 2 * g.monitorRoom + (rest.map fun v => v.category).sum ≤ W) (hdg : decode c.code g.pc = .ok (.invokeinterface index count, 5))
    (hpre : ∀ vm₁, s.WarmedH vm₁ → Pre ⟨T.setVm vm₁, locs, cells, slots⟩ (Value.ref b :: argsL).toArray) :
    (∃ (v : Option Value) (vm₁ : Vm) (B : Pt), s.WarmedH vm₁ ∧ Stand p l e R s m args below meth c B.U B.locs B.cells B.slots ∧ Post ⟨T.setVm vm₁, locs, cells, slots⟩ (Value.ref b :: argsL).toArray v B ∧
      ∀ target, Steps p.tables e below (B.U.setTop { g with pc := g.pc + 5, stack := v.toList ++ rest }) target → Steps p.tables e below (T.setTop g) target) ∨
    (∃ (q : Addr) (vm₁ : Vm) (B : Pt), s.WarmedH vm₁ ∧ Stand p l e R s m args below meth c B.U B.locs B.cells B.slots ∧ PostX ⟨T.setVm vm₁, locs, cells, slots⟩ (Value.ref b :: argsL).toArray q B ∧
      Steps p.tables e below (T.setTop g) ((B.U.setTop { g with stack := rest }).pushFrame (.throwing q))) := by
  obtain ⟨r0, r, hn, hrm, hstR, hsigR⟩ := Cond.declares_spec hdecl
  obtain ⟨cL, kL, r1, hcL, hkL, hiL, hfoundL, hn1⟩ := Cond.interfaceMethod_spec hface
  cases hn.symm.trans hn1
  have hr0cls : r0.cls = cL := Option.some.inj ((findClass_of_methodNamed hn).symm.trans hcL)
  obtain ⟨hnameR, hdescR⟩ := name_of_methodNamed hn hrm
  obtain ⟨mk, methM, hnamed, hmethM, -, habM⟩ := Cond.instanceMethod_spec hinst
  obtain ⟨c2, r2, m2, q1, q2, q3, q4, -⟩ := Cond.selects_spec hsel
  cases hcls.symm.trans q1
  cases hfoundL.symm.trans q2
  cases hnamed.symm.trans q3
  have hselP : selectMethod e.platform s.vm cellB.cls r0 = .method mk := by rw [Launch.admits_selectMethod X.admits]; exact q4
  have hpubM : hasFlag methM.accessFlags Acc.public_ = true := Cond.publicMethod_spec hnamed hmethM hpub
  have hway : ((cellB.cls :: s.vm.superclasses cellB.cls).any fun k => (declaredIn s.vm r.name r.desc k).any fun (_, z) => z.isPrivate || z.isStatic) = false := by
    rw [hnameR, hdescR]; exact Cond.unhidden_spec hcls hunh
  obtain ⟨c3, t3, w1, w2, w3⟩ := Cond.castable_spec hcast
  cases hcls.symm.trans w1
  cases hcL.symm.trans w2
  obtain ⟨vm₁, X₁, hstep₁⟩ := X.invokeinterface hexec hown hlink hn hrm hstR (by rw [hr0cls]; exact hkL) hiL hx (a := b) (cell := cellB) (kcell := kB) hcell
    (fun z h => by rw [h] at hobj; cases hobj) hkB (by rw [hr0cls]; exact w3) hselP hmethM hway hpubM habM (g := g) hg (argsL := argsL) (rest := rest) (hlen _ hsigR) hstack hdg
  rcases hK m meth c ⟨T.setVm vm₁, locs, cells, slots⟩ { g with stack := rest } (.invokeinterface index count) mk (Value.ref b :: argsL).toArray X₁ hg hsize hdg hW (X₁.named hnamed) (hpre vm₁ X₁.warmed) with ⟨v, B, X', hpost, hsteps⟩ | ⟨q, B, X', hpost, hsteps⟩
  · exact Or.inl ⟨v, vm₁, B, X₁.warmed, X', hpost, fun target h => hstep₁ _ fun acts => by rw [doInvoke_state]; exact hsteps.trans h⟩
  · exact Or.inr ⟨q, vm₁, B, X₁.warmed, X', hpost, hstep₁ _ fun acts => by rw [doInvoke_state]; exact hsteps⟩
theorem vx_runFW {x y : MethodName} {bytes cc : ByteArray} {maxL nL mc ms n index count : Nat} {ret : Option FieldType} {hh : List (Nat × Nat × Nat × Nat)} {ws : List Cond} {rm : Room} {Pc : Array Value → State → Prop} {Qc : Array Value → State → Outcome → State → Prop} {XC : String → State → State → Prop} {free : Addr → Prop} {Ts : List Cond} {own C : String} {cC : ClassId} {b : Addr} {As rest : List Value} {g : JFrame}
    (hat : ClassAt s C cC) (S : CallFix p m c cc nL s args Ts own) (hM : vx_Met l y ws rm Pc Qc XC mc ms free) (cw : va_CIW R s args own C index x y bytes maxL ret hh ws rm mc ms n) (hp : PreV s H C b Pc As)
    (hg : g.method = m) (hn : As.length = n) (hsize : g.locals.size = nL) (hstack : g.stack = As.reverse ++ .ref b :: rest) (hW : 2 * g.monitorRoom + (rest.map fun v => v.category).sum ≤ 8) (hdg : decode cc g.pc = .ok (.invokeinterface index count, 5)) (hf : cells + mc ≤ R.cells ∧ slots + ms ≤ R.slots) :
    vx_Run5 p l e R s m args below meth c H locs cells slots mc ms g rest (Qc (Value.ref b :: As).toArray) XC free := by
  obtain ⟨hrc, hrs, hfr, hlo, hws, hcw⟩ := cw.back
  have hini := cw.init
  have hK : vx_Back l R p e below s args y 5 8 (PreOf R mc ms Pc) (PostOf Qc mc ms free) (vx_Post XC mc ms free) := vx_backW (hh := hh) (bytes := bytes) (maxL := maxL) (ret := ret) hM hp.1 hrc hrs hfr hlo hws hcw (fun a' U hW => word_at hW (Or.inl (by first | rfl | simp [Cond.onTables, Cond.keeps, Cond.steady])) hini)
  obtain ⟨hx, hb, hml, ho, -⟩ := S
  obtain ⟨-, ⟨cellB, hcB, hoB, hclB⟩, hPc⟩ := hp
  obtain ⟨hfc, kB, hkB, -⟩ := hat
  cases hfc.symm.trans hclB
  intro T hT X
  rcases vx_callIFW X hx (C := C) (hh := hh) (bytes := bytes) (maxL := maxL) (ret := ret) ho cw.link cw.decl cw.face cw.sel cw.inst cw.pub cw.unh cw.cast cw.code cw.notMH hK (by rw [hT]; exact hcB) hoB hclB hkB hg (hsize.trans hml.symm) (argsL := As) (rest := rest) (fun sig h => hn.trans (cw.len sig h)) hstack hW (by rw [hb]; exact hdg)
    (fun vm₁ hW₁ => ⟨hf.1, hf.2, hPc (T.setVm vm₁) hT hW₁⟩) with ⟨v, vm₁, ⟨U', l2, c2, s2⟩, hW₁, X', ⟨g', mk, t, L, e1, e2, hq, h1, hL, h2, h3⟩, st⟩ | ⟨q, vm₁, ⟨U', l2, c2, s2⟩, hW₁, X', ⟨g', mk, t, L, E, ce, e1, e2, hq, hce, hcv, hcl, h1, hL, h2, h3⟩, st⟩
  · dsimp only [Pt.U, Pt.locs, Pt.cells, Pt.slots] at X' e1 e2 h1 h2 h3 st
    subst h1; subst h2; subst h3
    exact Or.inl ⟨v, (T.setVm vm₁).calling g' mk (Value.ref b :: As).toArray, t, U', L, hT, X', hL, e1, e2, hq, st⟩
  · dsimp only [Pt.U, Pt.locs, Pt.cells, Pt.slots] at X' e1 e2 h1 h2 h3 st hcl
    subst h1; subst h2; subst h3
    exact Or.inr ⟨q, (T.setVm vm₁).calling g' mk (Value.ref b :: As).toArray, t, U', L, E, ce, hT, X', hL, e1, e2, hq, hce, hcv, vx_cls hW₁ hcl, st⟩
end
/-! ===== END ===== -/
/-! ===== BEGIN .. of methods that hand back an object of the pool ===== -/
section
variable {p : Program} {l : Launch} {e : Env} {R : Room} {s : State} {m : MethodId} {args : Array Value} {below : List Frame} {meth : Method} {c : Code} {H : Heap} {locs : List Loc} {cells slots : Nat} {Q : State → Prop}
variable {mc ms : Nat} {free : Addr → Prop} {A0 A1 : Nat → Prop} {H0 : Heap} {a : Array Value} {pc : Nat} {ls : Array Slot} {st0 rest : List Value}
theorem vx_callq {S SX : Type} {post : Option Nat → S → Prop} {px : SX → Prop} {B : S → State → Prop} {BX : String → SX → State → Prop} {AX : Nat → Prop} (hr : vx_Run p l e R s m args below meth c H locs cells slots mc ms (F0 m pc ls st0) rest (va_Qq post B A1 a) (vx_X px BX AX) free) (hS : va_S A0 H0 H locs) (hA : ∀ q, q < H.size → A1 q → A0 q) (hf : ∀ q, free q → A0 q) (hAX : ∀ q, q < H.size → AX q → A0 q)
    (kx : ∀ (E : String) (ce : Cell) (q9 : Addr) (u : SX) (t : State) (H1 : Heap) (locs1 : List Loc), t.heap = H1 → s.vm.Alike t.vm → px u → BX E u t → H.size ≤ H1.size → (∀ q : Nat, q < H.size → ¬ AX q → H1[q]? = H[q]?) → va_S A0 H0 H1 locs1 → H1[q9]? = some ce → ce.vm = .none → s.vm.findClass E = some ce.cls → vx_W p l e R s m args below meth c H1 locs1 (cells + mc) (slots + ms) Q (F0 m pc ls rest) q9)
    (kk : ∀ (r : Option Nat) (u : S) (t : State) (H1 : Heap) (locs1 : List Loc), t.heap = H1 → s.vm.Alike t.vm → post r u → B u t → H.size ≤ H1.size → (∀ q : Nat, q < H.size → ¬ A1 q → H1[q]? = H[q]?) → va_S A0 H0 H1 locs1 → W p l e R s m args below meth c H1 locs1 (cells + mc) (slots + ms) Q (F0 m (pc + 3) ls (va_rf r :: rest))) : W p l e R s m args below meth c H locs cells slots Q (F0 m pc ls st0) := by
  intro T hT X
  rcases hr T hT X with ⟨v, st₀, t, T', L, h0, X', hL, e1, e2, ⟨⟨r, u, hv, hp, hb⟩, hF⟩, st⟩ | ⟨q, st₀, t, T', L, E, ce, h0, X', hL, e1, e2, ⟨u, hp, hb, hF⟩, hce, hcv, hcl, st⟩
  · cases hv
    obtain ⟨k1, k2, k3⟩ := vx_keep h0 e1 hS hA hf hL hF
    obtain ⟨t2, a1, b1⟩ := kk r u t T'.heap (locs ++ L) e1.symm (by rw [← e2]; exact X'.warmed.alike) hp hb k1 k2 k3 T' rfl X'
    exact ⟨t2, st t2 a1, b1⟩
  · obtain ⟨k1, k2, k3⟩ := vx_keep h0 e1 hS hAX hf hL hF
    obtain ⟨t2, a1, b1⟩ := kx E ce q u t T'.heap (locs ++ L) e1.symm (by rw [← e2]; exact X'.warmed.alike) hp hb k1 k2 k3 (by rw [e1]; exact hce) hcv hcl T' rfl X'
    exact ⟨t2, st.trans a1, b1⟩
end
/-! ===== END ===== -/
/-! ===== BEGIN .. a constant ===== -/
section
variable {p : Program} {l : Launch} {e : Env} {R : Room} {s : State} {m : MethodId} {args : Array Value} {below : List Frame} {meth : Method} {c : Code} {H : Heap} {locs : List Loc} {cells slots : Nat} {Q : State → Prop}
variable {mc ms : Nat} {free : Addr → Prop} {A0 A1 : Nat → Prop} {H0 : Heap} {a : Array Value} {pc : Nat} {ls : Array Slot} {st0 rest : List Value}
theorem vx_calle {ad : Nat → Nat} {S SX : Type} {post : Option Nat → S → Prop} {px : SX → Prop} {B : S → State → Prop} {BX : String → SX → State → Prop} {AX : Nat → Prop} (hr : vx_Run p l e R s m args below meth c H locs cells slots mc ms (F0 m pc ls st0) rest (va_Qe ad post B A1 a) (vx_X px BX AX) free) (hS : va_S A0 H0 H locs) (hA : ∀ q, q < H.size → A1 q → A0 q) (hf : ∀ q, free q → A0 q) (hAX : ∀ q, q < H.size → AX q → A0 q)
    (kx : ∀ (E : String) (ce : Cell) (q9 : Addr) (u : SX) (t : State) (H1 : Heap) (locs1 : List Loc), t.heap = H1 → s.vm.Alike t.vm → px u → BX E u t → H.size ≤ H1.size → (∀ q : Nat, q < H.size → ¬ AX q → H1[q]? = H[q]?) → va_S A0 H0 H1 locs1 → H1[q9]? = some ce → ce.vm = .none → s.vm.findClass E = some ce.cls → vx_W p l e R s m args below meth c H1 locs1 (cells + mc) (slots + ms) Q (F0 m pc ls rest) q9)
    (kk : ∀ (r : Option Nat) (u : S) (t : State) (H1 : Heap) (locs1 : List Loc), t.heap = H1 → s.vm.Alike t.vm → post r u → B u t → H.size ≤ H1.size → (∀ q : Nat, q < H.size → ¬ A1 q → H1[q]? = H[q]?) → va_S A0 H0 H1 locs1 → W p l e R s m args below meth c H1 locs1 (cells + mc) (slots + ms) Q (F0 m (pc + 3) ls (va_re ad r :: rest))) : W p l e R s m args below meth c H locs cells slots Q (F0 m pc ls st0) := by
  intro T hT X
  rcases hr T hT X with ⟨v, st₀, t, T', L, h0, X', hL, e1, e2, ⟨⟨r, u, hv, hp, hb⟩, hF⟩, st⟩ | ⟨q, st₀, t, T', L, E, ce, h0, X', hL, e1, e2, ⟨u, hp, hb, hF⟩, hce, hcv, hcl, st⟩
  · cases hv
    obtain ⟨k1, k2, k3⟩ := vx_keep h0 e1 hS hA hf hL hF
    obtain ⟨t2, a1, b1⟩ := kk r u t T'.heap (locs ++ L) e1.symm (by rw [← e2]; exact X'.warmed.alike) hp hb k1 k2 k3 T' rfl X'
    exact ⟨t2, st t2 a1, b1⟩
  · obtain ⟨k1, k2, k3⟩ := vx_keep h0 e1 hS hAX hf hL hF
    obtain ⟨t2, a1, b1⟩ := kx E ce q u t T'.heap (locs ++ L) e1.symm (by rw [← e2]; exact X'.warmed.alike) hp hb k1 k2 k3 (by rw [e1]; exact hce) hcv hcl T' rfl X'
    exact ⟨t2, st.trans a1, b1⟩
end
/-! ===== END ===== -/
/-! ===== BEGIN .. by an interface, an object ===== -/
section
variable {p : Program} {l : Launch} {e : Env} {R : Room} {s : State} {m : MethodId} {args : Array Value} {below : List Frame} {meth : Method} {c : Code} {H : Heap} {locs : List Loc} {cells slots : Nat} {Q : State → Prop}
variable {mc ms : Nat} {free : Addr → Prop} {A0 A1 : Nat → Prop} {H0 : Heap} {a : Array Value} {pc : Nat} {ls : Array Slot} {st0 rest : List Value}
theorem vx_callFq {S SX : Type} {post : Option Nat → S → Prop} {px : SX → Prop} {B : S → State → Prop} {BX : String → SX → State → Prop} {AX : Nat → Prop} (hr : vx_Run5 p l e R s m args below meth c H locs cells slots mc ms (F0 m pc ls st0) rest (va_Qq post B A1 a) (vx_X px BX AX) free) (hS : va_S A0 H0 H locs) (hA : ∀ q, q < H.size → A1 q → A0 q) (hf : ∀ q, free q → A0 q) (hAX : ∀ q, q < H.size → AX q → A0 q)
    (kx : ∀ (E : String) (ce : Cell) (q9 : Addr) (u : SX) (t : State) (H1 : Heap) (locs1 : List Loc), t.heap = H1 → s.vm.Alike t.vm → px u → BX E u t → H.size ≤ H1.size → (∀ q : Nat, q < H.size → ¬ AX q → H1[q]? = H[q]?) → va_S A0 H0 H1 locs1 → H1[q9]? = some ce → ce.vm = .none → s.vm.findClass E = some ce.cls → vx_W p l e R s m args below meth c H1 locs1 (cells + mc) (slots + ms) Q (F0 m pc ls rest) q9)
    (kk : ∀ (r : Option Nat) (u : S) (t : State) (H1 : Heap) (locs1 : List Loc), t.heap = H1 → s.vm.Alike t.vm → post r u → B u t → H.size ≤ H1.size → (∀ q : Nat, q < H.size → ¬ A1 q → H1[q]? = H[q]?) → va_S A0 H0 H1 locs1 → W p l e R s m args below meth c H1 locs1 (cells + mc) (slots + ms) Q (F0 m (pc + 5) ls (va_rf r :: rest))) : W p l e R s m args below meth c H locs cells slots Q (F0 m pc ls st0) := by
  intro T hT X
  rcases hr T hT X with ⟨v, st₀, t, T', L, h0, X', hL, e1, e2, ⟨⟨r, u, hv, hp, hb⟩, hF⟩, st⟩ | ⟨q, st₀, t, T', L, E, ce, h0, X', hL, e1, e2, ⟨u, hp, hb, hF⟩, hce, hcv, hcl, st⟩
  · cases hv
    obtain ⟨k1, k2, k3⟩ := vx_keep h0 e1 hS hA hf hL hF
    obtain ⟨t2, a1, b1⟩ := kk r u t T'.heap (locs ++ L) e1.symm (by rw [← e2]; exact X'.warmed.alike) hp hb k1 k2 k3 T' rfl X'
    exact ⟨t2, st t2 a1, b1⟩
  · obtain ⟨k1, k2, k3⟩ := vx_keep h0 e1 hS hAX hf hL hF
    obtain ⟨t2, a1, b1⟩ := kx E ce q u t T'.heap (locs ++ L) e1.symm (by rw [← e2]; exact X'.warmed.alike) hp hb k1 k2 k3 (by rw [e1]; exact hce) hcv hcl T' rfl X'
    exact ⟨t2, st.trans a1, b1⟩
end
/-! ===== END ===== -/
/-! ===== BEGIN .. by an interface, a constant ===== -/
section
variable {p : Program} {l : Launch} {e : Env} {R : Room} {s : State} {m : MethodId} {args : Array Value} {below : List Frame} {meth : Method} {c : Code} {H : Heap} {locs : List Loc} {cells slots : Nat} {Q : State → Prop}
variable {mc ms : Nat} {free : Addr → Prop} {A0 A1 : Nat → Prop} {H0 : Heap} {a : Array Value} {pc : Nat} {ls : Array Slot} {st0 rest : List Value}
theorem vx_callFe {ad : Nat → Nat} {S SX : Type} {post : Option Nat → S → Prop} {px : SX → Prop} {B : S → State → Prop} {BX : String → SX → State → Prop} {AX : Nat → Prop} (hr : vx_Run5 p l e R s m args below meth c H locs cells slots mc ms (F0 m pc ls st0) rest (va_Qe ad post B A1 a) (vx_X px BX AX) free) (hS : va_S A0 H0 H locs) (hA : ∀ q, q < H.size → A1 q → A0 q) (hf : ∀ q, free q → A0 q) (hAX : ∀ q, q < H.size → AX q → A0 q)
    (kx : ∀ (E : String) (ce : Cell) (q9 : Addr) (u : SX) (t : State) (H1 : Heap) (locs1 : List Loc), t.heap = H1 → s.vm.Alike t.vm → px u → BX E u t → H.size ≤ H1.size → (∀ q : Nat, q < H.size → ¬ AX q → H1[q]? = H[q]?) → va_S A0 H0 H1 locs1 → H1[q9]? = some ce → ce.vm = .none → s.vm.findClass E = some ce.cls → vx_W p l e R s m args below meth c H1 locs1 (cells + mc) (slots + ms) Q (F0 m pc ls rest) q9)
    (kk : ∀ (r : Option Nat) (u : S) (t : State) (H1 : Heap) (locs1 : List Loc), t.heap = H1 → s.vm.Alike t.vm → post r u → B u t → H.size ≤ H1.size → (∀ q : Nat, q < H.size → ¬ A1 q → H1[q]? = H[q]?) → va_S A0 H0 H1 locs1 → W p l e R s m args below meth c H1 locs1 (cells + mc) (slots + ms) Q (F0 m (pc + 5) ls (va_re ad r :: rest))) : W p l e R s m args below meth c H locs cells slots Q (F0 m pc ls st0) := by
  intro T hT X
  rcases hr T hT X with ⟨v, st₀, t, T', L, h0, X', hL, e1, e2, ⟨⟨r, u, hv, hp, hb⟩, hF⟩, st⟩ | ⟨q, st₀, t, T', L, E, ce, h0, X', hL, e1, e2, ⟨u, hp, hb, hF⟩, hce, hcv, hcl, st⟩
  · cases hv
    obtain ⟨k1, k2, k3⟩ := vx_keep h0 e1 hS hA hf hL hF
    obtain ⟨t2, a1, b1⟩ := kk r u t T'.heap (locs ++ L) e1.symm (by rw [← e2]; exact X'.warmed.alike) hp hb k1 k2 k3 T' rfl X'
    exact ⟨t2, st t2 a1, b1⟩
  · obtain ⟨k1, k2, k3⟩ := vx_keep h0 e1 hS hAX hf hL hF
    obtain ⟨t2, a1, b1⟩ := kx E ce q u t T'.heap (locs ++ L) e1.symm (by rw [← e2]; exact X'.warmed.alike) hp hb k1 k2 k3 (by rw [e1]; exact hce) hcv hcl T' rfl X'
    exact ⟨t2, st.trans a1, b1⟩
end
/-! ===== END ===== -/
/-! ===== BEGIN what the machine throws by itself: null at a field, at athrow ===== -/
section VXM2
variable {p : Program} {l : Launch} {e : Env} {R : Room} {s : State} {m : MethodId} {args : Array Value} {below : List Frame} {meth : Method} {c : Code} {H : Heap} {locs : List Loc} {cells slots : Nat}
variable {Q : State → Prop} {cc : ByteArray} {pc : Nat} {ls : Array Slot} {rest : List Value}
theorem vx_getfN {D cl tys} {own ref C : String} {T : u_T} {N ci index : Nat} {Ts : List Cond} (hexec : p.tables.exec = Jvm.exec) (hb : c.code = cc) (hts : ∀ w ∈ Ts, w.before args s = true) (hin : ∀ w ∈ u_ws C T N, w ∈ Ts) (hown : s.vm.findClass own = some m.cls) (hK : va_K D cl tys s) (hc : cl[ci]? = some (C, T, N)) (k : Nat) (hk : k < N) (hlink : (Cond.fieldLink own index ref (T k).2.1 (T k).2.2.1).before args s = true) (hsame : ∀ x, s.fieldFound? (T k).1 (T k).2.1 (T k).2.2.1 = some x → s.fieldFound? ref (T k).2.1 (T k).2.2.1 = some x) (hdg : decode cc pc = .ok (.getfield index, 3)) (kk : vx_NoteN p l e R s m args below meth c H locs cells slots Q (F0 m pc ls rest)) : W p l e R s m args below meth c H locs cells slots Q (F0 m pc ls (.null :: rest)) := by
  obtain ⟨hS, hfc, kC, hkC, -⟩ := hK.1 ci _ hc
  obtain ⟨cf, kf, fi, f, hi, -⟩ := hS k hk
  intro U hU X
  obtain ⟨vm', X1, st1⟩ := X.getfieldNull hexec hown hlink (hsame _ hi) (u_facts hfc hkC (u_lays hts hin hk) hi).1 (g := F0 m pc ls (.null :: rest)) rfl (rest := rest) rfl (by rw [hb]; exact hdg)
  obtain ⟨t, st, q⟩ := kk (U.setVm vm') hU X1
  exact ⟨t, st1 t st, q⟩
theorem vx_getfNN {D cl tys} {own ref C host : String} {T : u_T} {N ci index : Nat} {Ts : List Cond} (hexec : p.tables.exec = Jvm.exec) (hb : c.code = cc) (hts : ∀ w ∈ Ts, w.before args s = true) (hin : ∀ w ∈ u_ws C T N, w ∈ Ts) (hown : s.vm.findClass own = some m.cls) (hK : va_K D cl tys s) (hc : cl[ci]? = some (C, T, N)) (k : Nat) (hk : k < N) (hlink : (Cond.fieldLinkNest own index ref (T k).2.1 (T k).2.2.1 host).before args s = true) (hsame : ∀ x, s.fieldFound? (T k).1 (T k).2.1 (T k).2.2.1 = some x → s.fieldFound? ref (T k).2.1 (T k).2.2.1 = some x) (hdg : decode cc pc = .ok (.getfield index, 3)) (kk : vx_NoteN p l e R s m args below meth c H locs cells slots Q (F0 m pc ls rest)) : W p l e R s m args below meth c H locs cells slots Q (F0 m pc ls (.null :: rest)) := by
  obtain ⟨hS, hfc, kC, hkC, -⟩ := hK.1 ci _ hc
  obtain ⟨cf, kf, fi, f, hi, -⟩ := hS k hk
  intro U hU X
  obtain ⟨vm', X1, st1⟩ := X.getfieldNullNest hexec hown hlink (hsame _ hi) (u_facts hfc hkC (u_lays hts hin hk) hi).1 (g := F0 m pc ls (.null :: rest)) rfl (rest := rest) rfl (by rw [hb]; exact hdg)
  obtain ⟨t, st, q⟩ := kk (U.setVm vm') hU X1
  exact ⟨t, st1 t st, q⟩
theorem vx_putfN {D cl tys} {own ref C : String} {T : u_T} {N ci index : Nat} {Ts : List Cond} (hexec : p.tables.exec = Jvm.exec) (hb : c.code = cc) (hts : ∀ w ∈ Ts, w.before args s = true) (hin : ∀ w ∈ u_ws C T N, w ∈ Ts) (hown : s.vm.findClass own = some m.cls) (hK : va_K D cl tys s) (hc : cl[ci]? = some (C, T, N)) (k : Nat) (hk : k < N) (hlink : (Cond.fieldLink own index ref (T k).2.1 (T k).2.2.1).before args s = true) (hsame : ∀ x, s.fieldFound? (T k).1 (T k).2.1 (T k).2.2.1 = some x → s.fieldFound? ref (T k).2.1 (T k).2.2.1 = some x) (hfin : (T k).2.2.2 = false) {v : Value} (hdg : decode cc pc = .ok (.putfield index, 3)) (kk : vx_NoteN p l e R s m args below meth c H locs cells slots Q (F0 m pc ls rest)) : W p l e R s m args below meth c H locs cells slots Q (F0 m pc ls (v :: .null :: rest)) := by
  obtain ⟨hS, hfc, kC, hkC, -⟩ := hK.1 ci _ hc
  obtain ⟨cf, kf, fi, f, hi, -⟩ := hS k hk
  have hlay := hts _ (hin _ (u_in_lay hk))
  unfold u_lay at hlay
  rw [if_neg (by rw [hfin]; decide)] at hlay
  obtain ⟨c9, k9, cf9, kf9, fi9, f9, -, -, hi9, hst9, hnf9, -⟩ := Cond.lays_spec hlay
  cases hi.symm.trans hi9
  intro U hU X
  obtain ⟨vm', X1, st1⟩ := X.putfieldNull hexec hown hlink (hsame _ hi) hst9 hnf9 (g := F0 m pc ls (v :: .null :: rest)) rfl (v := v) (rest := rest) rfl (by rw [hb]; exact hdg)
  obtain ⟨t, st, q⟩ := kk (U.setVm vm') hU X1
  exact ⟨t, st1 t st, q⟩
theorem vx_putfNN {D cl tys} {own ref C host : String} {T : u_T} {N ci index : Nat} {Ts : List Cond} (hexec : p.tables.exec = Jvm.exec) (hb : c.code = cc) (hts : ∀ w ∈ Ts, w.before args s = true) (hin : ∀ w ∈ u_ws C T N, w ∈ Ts) (hown : s.vm.findClass own = some m.cls) (hK : va_K D cl tys s) (hc : cl[ci]? = some (C, T, N)) (k : Nat) (hk : k < N) (hlink : (Cond.fieldLinkNest own index ref (T k).2.1 (T k).2.2.1 host).before args s = true) (hsame : ∀ x, s.fieldFound? (T k).1 (T k).2.1 (T k).2.2.1 = some x → s.fieldFound? ref (T k).2.1 (T k).2.2.1 = some x) (hfin : (T k).2.2.2 = false) {v : Value} (hdg : decode cc pc = .ok (.putfield index, 3)) (kk : vx_NoteN p l e R s m args below meth c H locs cells slots Q (F0 m pc ls rest)) : W p l e R s m args below meth c H locs cells slots Q (F0 m pc ls (v :: .null :: rest)) := by
  obtain ⟨hS, hfc, kC, hkC, -⟩ := hK.1 ci _ hc
  obtain ⟨cf, kf, fi, f, hi, -⟩ := hS k hk
  have hlay := hts _ (hin _ (u_in_lay hk))
  unfold u_lay at hlay
  rw [if_neg (by rw [hfin]; decide)] at hlay
  obtain ⟨c9, k9, cf9, kf9, fi9, f9, -, -, hi9, hst9, hnf9, -⟩ := Cond.lays_spec hlay
  cases hi.symm.trans hi9
  intro U hU X
  obtain ⟨vm', X1, st1⟩ := X.putfieldNullNest hexec hown hlink (hsame _ hi) hst9 hnf9 (g := F0 m pc ls (v :: .null :: rest)) rfl (v := v) (rest := rest) rfl (by rw [hb]; exact hdg)
  obtain ⟨t, st, q⟩ := kk (U.setVm vm') hU X1
  exact ⟨t, st1 t st, q⟩
theorem vx_athrowN (hexec : p.tables.exec = Jvm.exec) (hb : c.code = cc) (hdg : decode cc pc = .ok (.athrow, 1)) (k : vx_NoteN p l e R s m args below meth c H locs cells slots Q (F0 m pc ls rest)) : W p l e R s m args below meth c H locs cells slots Q (F0 m pc ls (.null :: rest)) := by
  intro T hT X
  obtain ⟨t, st, q⟩ := k T hT X
  exact ⟨t, X.athrowNull hexec (g := F0 m pc ls (.null :: rest)) rfl (rest := rest) rfl (by rw [hb]; exact hdg) t st, q⟩
end VXM2
/-! ===== END ===== -/

theorem vr_outer (c : ClassId) (N h0 : Nat) : ∀ i : Nat, Jvm.Free.Multi.outerC c N h0 i = arrV c N (fun j => va_rf (if j < i then some (h0 + 1 + j) else none))
  | 0 => by
    show ({ cls := c, slots := Array.replicate N .null, vm := .none } : Cell) = _
    rw [arrV_new]
    refine congrArg (arrV c N) (funext fun j => ?_)
    simp [va_rf]
  | i + 1 => by
    show (Jvm.Free.Multi.outerC c N h0 i).setSlot i (.ref (h0 + 1 + i)) = _
    rw [vr_outer c N h0 i, arrV_store]
    refine congrArg (arrV c N) (funext fun j => ?_)
    by_cases e : j = i
    · subst e
      simp [updV, va_rf]
    · by_cases h : j < i
      · simp [updV, e, h, Nat.lt_succ_of_lt h]
      · simp [updV, e, h, show ¬ j < i + 1 by omega]
end
section
/-! 'throw new X(text)' as in the part ahead (its texts, with one fact more: the heap grows by just one cell) -/
section EndsZ
variable {p : Program} {l : Launch} {e : Env} {R : Room} {s : State} {m : MethodId} {args : Array Value} {below : List Frame} {meth : Method} {c : Code} {H : Heap} {locs : List Loc} {cells slots : Nat} {Q : State → Prop}
variable {mc ms : Nat} {free : Addr → Prop} {A0 A1 : Nat → Prop} {H0 : Heap} {a : Array Value} {ls : Array Slot} {st0 rest : List Value}
variable {Qc : Array Value → State → Outcome → State → Prop} {XC : String → State → State → Prop}
theorem vx_throwSz {cc : ByteArray} {pc : Nat} (hexec : p.tables.exec = Jvm.exec) (hb : c.code = cc) (hl : l.stackTraces = false) {own cls text : String} {names : List String} {ik is ic mc ms sa : Nat} {A : Nat → Prop}
    (hown : s.vm.findClass own = some m.cls) (hcls : Bundle.fit cls = true) (hnames : ∀ n ∈ names, Bundle.fit n = true)
    (hk : (Cond.classLink own ik cls).before args s = true) (hini : (Cond.initialized cls).before args s = true) (hstr : vk_R own is text sa s) (hat : ∀ w ∈ vx_atS own ic cls names, w.before args s = true)
    (hgood : ∀ w ∈ Cond.classLink own ik cls :: Cond.initialized cls :: vx_atS own ic cls names, vx_ot w = true)
    (hU : vx_Zq Bundle.tN "UNASSIGNED_STACK" Bundle.steD A s s.heap) (hN : vx_Zq Bundle.tN "SUPPRESSED_SENTINEL" Bundle.listD A s s.heap) (hS : va_S A s.heap H locs) (hsize : ls.size = c.maxLocals)
    (d0 : decode cc pc = .ok (.new ik, 3)) (d3 : decode cc (pc + 3) = .ok (.dup, 1)) (d4 : decode cc (pc + 4) = .ok (.ldc is, 2)) (d6 : decode cc (pc + 6) = .ok (.invokespecial ic, 3)) (d9 : decode cc (pc + 9) = .ok (.athrow, 1))
    (hout : ∀ x ∈ c.exceptionTable.toList, covers x (pc + 9) = false)
    (hRframes : names.length + 3 < R.frames) (hRlocals : (rest.map fun v => v.category).sum + (13 * (names.length + 1) + 43) ≤ R.locals) (hRcells : cells + 1 ≤ R.cells) (hRslots : slots + 6 ≤ R.slots) (hlocks : meth.locks = false)
    (hx : ∀ t : State, s.vm.Alike t.vm → t.heap.size = H.size + 1 → (∀ q : Nat, q < H.size → t.heap[q]? = H[q]?) → XC cls s t)
    (hf : ∀ z ∈ locs, free z.base) (hc : cells + 1 ≤ mc) (hs : slots + 6 ≤ ms) :
    W p l e R s m args below meth c H locs cells slots (vx_MQ below Qc XC args s mc ms free) (F0 m pc ls rest) := by
  intro T hT X
  have htr : e.platform.stackTraces = false := (show e.platform.stackTraces = l.stackTraces by rw [X.admits.platform]).trans hl
  have Y := vx_rebase X (R' := { frames := R.frames, locals := R.locals, cells := 1, slots := 6 }) (Nat.le_refl _) (Nat.le_refl _) hRcells hRslots
  obtain ⟨s', hA⟩ : ∃ z, z = (T.setVm s.vm).setFrames (.invoking m args :: below) := ⟨_, rfl⟩
  rw [← hA] at Y
  have hvm : s'.vm = s.vm := by rw [hA]; rfl
  have hhp : s'.heap = H := by rw [hA]; exact hT
  have hW0 : s.WarmedH s'.vm := by rw [hvm]; exact State.WarmedH.refl s
  have hat' : ∀ w ∈ vx_atS own ic cls names, w.before args s' = true := fun w hw => vx_ot_at hW0 hvm.symm (hgood w (List.mem_cons_of_mem _ (List.mem_cons_of_mem _ hw))) (hat w hw)
  have hk' : (Cond.classLink own ik cls).before args s' = true := vx_ot_at hW0 hvm.symm (hgood _ List.mem_cons_self) hk
  have hini' : (Cond.initialized cls).before args s' = true := vx_ot_at hW0 hvm.symm (hgood _ (List.mem_cons_of_mem _ List.mem_cons_self)) hini
  have hU' : vx_Zq Bundle.tN "UNASSIGNED_STACK" Bundle.steD A s' s'.heap := by rw [hhp]; exact vx_Zq.moved hW0.alike (hU.kept hS.2.1)
  have hN' : vx_Zq Bundle.tN "SUPPRESSED_SENTINEL" Bundle.listD A s' s'.heap := by rw [hhp]; exact vx_Zq.moved hW0.alike (hN.kept hS.2.1)
  have h : ∀ w ∈ Bundle.ownAtoms own ic cls names, w.before args s' = true := vx_own hat' (vx_isRefq hU'.1) (vx_isRefq hN'.1) hU'.2.word hN'.2.word
  have hown' : s'.vm.findClass own = some m.cls := by rw [hvm]; exact hown
  have hins : (Cond.instantiable cls 6).before args s' = true := h _ (by simp [Bundle.ownAtoms])
  obtain ⟨vm₁, cX, kX, hfX, hkX, -, -, X₁, st1⟩ := Y.newCold hexec (own := own) (C := cls) (index := ik) (n := 6) hown' hk' hins hini'
    (g := F0 m pc ls rest) rfl (by rw [hb]; exact d0) (Nat.le_refl _) (Nat.le_refl _)
  generalize hT1 : (T.setVm vm₁).pushCell { cls := cX, slots := kX.instanceTypes.map defaultValue, vm := .none } = T1 at X₁ st1
  have hcat : (Value.ref T.heap.size).category = 1 := rfl
  have hcellA : T1.heap[T.heap.size]? = some (freshCell cX kX) := by rw [← hT1]; exact State.heap_pushCell_size _ _
  have d3' : decode c.code (pc + 3) = .ok (.dup, 1) := by rw [hb]; exact d3
  have d4' : decode c.code (pc + 4) = .ok (.ldc is, 2) := by rw [hb]; exact d4
  have hstr' : vk_R own is text sa s' := vk_R.warm hW0 hstr
  obtain ⟨U, hsteps, hrun, hend, hW, hsame, ce, hce, hO⟩ := X₁.ctorThrowS hexec htr (own := own) (cls := cls) (names := names) (ic := ic) hown' hcls hnames h (fun x hx => nomatch hx) hfX hkX hcellA (by rw [hhp, hT]; exact Nat.le_refl _) (msg := .ref sa) rfl
    (g := { method := m, pc := pc + 6, locals := ls, stack := .ref sa :: .ref T.heap.size :: .ref T.heap.size :: rest, locked := none }) rfl hsize rfl rfl (rest := rest) rfl
    (by rw [hb]; exact d6) (by rw [hb]; exact d9) hout hRframes (by simp only [List.map_cons, List.sum_cons, hcat]; omega) hlocks
  obtain ⟨f1, f2⟩ := vx_frame hsame
  rw [hhp] at f1 f2
  have hWs : s.WarmedH U.vm := State.WarmedH.trans hW0 hW
  have hcl : s.vm.findClass cls = some ce.cls := by
    have h9 := hO.cls
    rw [hvm] at h9
    exact h9
  have hall : s.sameButNew ({ U with vm := s.vm } : State) locs mc ms := by
    subst hA
    obtain ⟨e1, e2⟩ := hsame
    rw [State.setFrames_setFrames] at e1
    have h2 : (T.setVm s.vm).sameButNew ({ U with vm := s.vm } : State) [] (0 + 1) (0 + 6) := ⟨e1, e2⟩
    have h3 := X.same.trans h2
    rw [List.append_nil] at h3
    exact h3.mono hc hs
  have hszU : U.heap.size = H.size + 1 := by
    have g1 : U.heap.size ≤ s'.heap.size + 1 := hsame.2.2.1
    have g2 : T.heap.size < U.heap.size := (Array.getElem?_eq_some_iff.mp hce).1
    rw [hhp] at g1
    rw [hT] at g2
    omega
  refine ⟨U, ?_, .threw T.heap.size, hrun, hend, Or.inr ⟨T.heap.size, rfl, cls, ce, locs, hx U hWs.alike hszU (fun q hq => f2 q hq (fun z hz => nomatch hz)), hce, hO.vm, hcl, hWs, hall, hf⟩⟩
  refine st1 _ ?_
  show Steps p.tables e below (T1.setTop { method := m, pc := pc + 3, locals := ls, stack := .ref T.heap.size :: rest, locked := none }) _
  jvm_step X₁.here [X₁.here.top, hexec, d3', Value.category]
  exact X₁.ldcString hexec (own := own) (text := text) (index := is) (a := sa) hown' hstr'.1 hstr'.2
    (g := { method := m, pc := pc + 4, locals := ls, stack := .ref T.heap.size :: .ref T.heap.size :: rest, locked := none }) rfl d4' _ hsteps
theorem vx_throwSWz {cc : ByteArray} {pc : Nat} (hexec : p.tables.exec = Jvm.exec) (hb : c.code = cc) (hl : l.stackTraces = false) {own cls text : String} {names : List String} {ik is ic mc ms sa : Nat} {A : Nat → Prop}
    (hown : s.vm.findClass own = some m.cls) (hcls : Bundle.fit cls = true) (hnames : ∀ n ∈ names, Bundle.fit n = true)
    (hk : (Cond.classLink own ik cls).before args s = true) (hini : (Cond.initialized cls).before args s = true) (hstr : vk_R own is text sa s) (hat : ∀ w ∈ vx_atS own ic cls names, w.before args s = true)
    (hgood : ∀ w ∈ Cond.classLink own ik cls :: Cond.initialized cls :: vx_atS own ic cls names, vx_ot w = true)
    (hU : vx_Zq Bundle.tN "UNASSIGNED_STACK" Bundle.steD A s s.heap) (hN : vx_Zq Bundle.tN "SUPPRESSED_SENTINEL" Bundle.listD A s s.heap) (hS : va_S A s.heap H locs) (hsize : ls.size = c.maxLocals)
    (d0 : decode cc pc = .ok (.new ik, 3)) (d3 : decode cc (pc + 3) = .ok (.dup, 1)) (d4 : decode cc (pc + 4) = .ok (.ldc_w is, 3)) (d7 : decode cc (pc + 7) = .ok (.invokespecial ic, 3)) (d10 : decode cc (pc + 10) = .ok (.athrow, 1))
    (hout : ∀ x ∈ c.exceptionTable.toList, covers x (pc + 10) = false)
    (hRframes : names.length + 3 < R.frames) (hRlocals : (rest.map fun v => v.category).sum + (13 * (names.length + 1) + 43) ≤ R.locals) (hRcells : cells + 1 ≤ R.cells) (hRslots : slots + 6 ≤ R.slots) (hlocks : meth.locks = false)
    (hx : ∀ t : State, s.vm.Alike t.vm → t.heap.size = H.size + 1 → (∀ q : Nat, q < H.size → t.heap[q]? = H[q]?) → XC cls s t)
    (hf : ∀ z ∈ locs, free z.base) (hc : cells + 1 ≤ mc) (hs : slots + 6 ≤ ms) :
    W p l e R s m args below meth c H locs cells slots (vx_MQ below Qc XC args s mc ms free) (F0 m pc ls rest) := by
  intro T hT X
  have htr : e.platform.stackTraces = false := (show e.platform.stackTraces = l.stackTraces by rw [X.admits.platform]).trans hl
  have Y := vx_rebase X (R' := { frames := R.frames, locals := R.locals, cells := 1, slots := 6 }) (Nat.le_refl _) (Nat.le_refl _) hRcells hRslots
  obtain ⟨s', hA⟩ : ∃ z, z = (T.setVm s.vm).setFrames (.invoking m args :: below) := ⟨_, rfl⟩
  rw [← hA] at Y
  have hvm : s'.vm = s.vm := by rw [hA]; rfl
  have hhp : s'.heap = H := by rw [hA]; exact hT
  have hW0 : s.WarmedH s'.vm := by rw [hvm]; exact State.WarmedH.refl s
  have hat' : ∀ w ∈ vx_atS own ic cls names, w.before args s' = true := fun w hw => vx_ot_at hW0 hvm.symm (hgood w (List.mem_cons_of_mem _ (List.mem_cons_of_mem _ hw))) (hat w hw)
  have hk' : (Cond.classLink own ik cls).before args s' = true := vx_ot_at hW0 hvm.symm (hgood _ List.mem_cons_self) hk
  have hini' : (Cond.initialized cls).before args s' = true := vx_ot_at hW0 hvm.symm (hgood _ (List.mem_cons_of_mem _ List.mem_cons_self)) hini
  have hU' : vx_Zq Bundle.tN "UNASSIGNED_STACK" Bundle.steD A s' s'.heap := by rw [hhp]; exact vx_Zq.moved hW0.alike (hU.kept hS.2.1)
  have hN' : vx_Zq Bundle.tN "SUPPRESSED_SENTINEL" Bundle.listD A s' s'.heap := by rw [hhp]; exact vx_Zq.moved hW0.alike (hN.kept hS.2.1)
  have h : ∀ w ∈ Bundle.ownAtoms own ic cls names, w.before args s' = true := vx_own hat' (vx_isRefq hU'.1) (vx_isRefq hN'.1) hU'.2.word hN'.2.word
  have hown' : s'.vm.findClass own = some m.cls := by rw [hvm]; exact hown
  have hins : (Cond.instantiable cls 6).before args s' = true := h _ (by simp [Bundle.ownAtoms])
  obtain ⟨vm₁, cX, kX, hfX, hkX, -, -, X₁, st1⟩ := Y.newCold hexec (own := own) (C := cls) (index := ik) (n := 6) hown' hk' hins hini'
    (g := F0 m pc ls rest) rfl (by rw [hb]; exact d0) (Nat.le_refl _) (Nat.le_refl _)
  generalize hT1 : (T.setVm vm₁).pushCell { cls := cX, slots := kX.instanceTypes.map defaultValue, vm := .none } = T1 at X₁ st1
  have hcat : (Value.ref T.heap.size).category = 1 := rfl
  have hcellA : T1.heap[T.heap.size]? = some (freshCell cX kX) := by rw [← hT1]; exact State.heap_pushCell_size _ _
  have d3' : decode c.code (pc + 3) = .ok (.dup, 1) := by rw [hb]; exact d3
  have d4' : decode c.code (pc + 4) = .ok (.ldc_w is, 3) := by rw [hb]; exact d4
  have hstr' : vk_R own is text sa s' := vk_R.warm hW0 hstr
  obtain ⟨U, hsteps, hrun, hend, hW, hsame, ce, hce, hO⟩ := X₁.ctorThrowS hexec htr (own := own) (cls := cls) (names := names) (ic := ic) hown' hcls hnames h (fun x hx => nomatch hx) hfX hkX hcellA (by rw [hhp, hT]; exact Nat.le_refl _) (msg := .ref sa) rfl
    (g := { method := m, pc := pc + 7, locals := ls, stack := .ref sa :: .ref T.heap.size :: .ref T.heap.size :: rest, locked := none }) rfl hsize rfl rfl (rest := rest) rfl
    (by rw [hb]; exact d7) (by rw [hb]; exact d10) hout hRframes (by simp only [List.map_cons, List.sum_cons, hcat]; omega) hlocks
  obtain ⟨f1, f2⟩ := vx_frame hsame
  rw [hhp] at f1 f2
  have hWs : s.WarmedH U.vm := State.WarmedH.trans hW0 hW
  have hcl : s.vm.findClass cls = some ce.cls := by
    have h9 := hO.cls
    rw [hvm] at h9
    exact h9
  have hall : s.sameButNew ({ U with vm := s.vm } : State) locs mc ms := by
    subst hA
    obtain ⟨e1, e2⟩ := hsame
    rw [State.setFrames_setFrames] at e1
    have h2 : (T.setVm s.vm).sameButNew ({ U with vm := s.vm } : State) [] (0 + 1) (0 + 6) := ⟨e1, e2⟩
    have h3 := X.same.trans h2
    rw [List.append_nil] at h3
    exact h3.mono hc hs
  have hszU : U.heap.size = H.size + 1 := by
    have g1 : U.heap.size ≤ s'.heap.size + 1 := hsame.2.2.1
    have g2 : T.heap.size < U.heap.size := (Array.getElem?_eq_some_iff.mp hce).1
    rw [hhp] at g1
    rw [hT] at g2
    omega
  refine ⟨U, ?_, .threw T.heap.size, hrun, hend, Or.inr ⟨T.heap.size, rfl, cls, ce, locs, hx U hWs.alike hszU (fun q hq => f2 q hq (fun z hz => nomatch hz)), hce, hO.vm, hcl, hWs, hall, hf⟩⟩
  refine st1 _ ?_
  show Steps p.tables e below (T1.setTop { method := m, pc := pc + 3, locals := ls, stack := .ref T.heap.size :: rest, locked := none }) _
  jvm_step X₁.here [X₁.here.top, hexec, d3', Value.category]
  exact X₁.ldcStringW hexec (own := own) (text := text) (index := is) (a := sa) hown' hstr'.1 hstr'.2
    (g := { method := m, pc := pc + 4, locals := ls, stack := .ref T.heap.size :: .ref T.heap.size :: rest, locked := none }) rfl d4' _ hsteps
end EndsZ
end
section
/-! A SMALL MACHINE OVER RELATIVE ADDRESSES: its heap, its steps as a transformer of predicates, and 'Spec', what a method does -/
/-- kinds of cells: 0 none; 1 int[], 2 long[], 3 char[], 4 byte[], 5 double[], 6 int[][], 7 Data[], 8 byte[] of a constant; 10 + ci an object of class ci -/
abbrev HP : Type := (Nat → Nat × Nat) × (Nat → Nat → Int32) × (Nat → Nat → Int64) × (Nat → Nat → Option Nat) × (Nat → Nat → UInt64) × Nat × Nat
def hK (A : HP) : Nat → Nat × Nat := A.1
def hI (A : HP) : Nat → Nat → Int32 := A.2.1
def hJ (A : HP) : Nat → Nat → Int64 := A.2.2.1
def hR (A : HP) : Nat → Nat → Option Nat := A.2.2.2.1
def hU (A : HP) : Nat → Nat → UInt64 := A.2.2.2.2.1
def hn (A : HP) : Nat := A.2.2.2.2.2.1
def hw (A : HP) : Nat := A.2.2.2.2.2.2
def up2 {α : Type} (f : Nat → Nat → α) (a i : Nat) (v : α) : Nat → Nat → α := fun b j => if b = a ∧ j = i then v else f b j
def sI (A : HP) (a i : Nat) (v : Int32) : HP := (A.1, up2 A.2.1 a i v, A.2.2)
def sJ (A : HP) (a i : Nat) (v : Int64) : HP := (A.1, A.2.1, up2 A.2.2.1 a i v, A.2.2.2)
def sR (A : HP) (a i : Nat) (v : Option Nat) : HP := (A.1, A.2.1, A.2.2.1, up2 A.2.2.2.1 a i v, A.2.2.2.2)
def sU (A : HP) (a i : Nat) (v : UInt64) : HP := (A.1, A.2.1, A.2.2.1, A.2.2.2.1, up2 A.2.2.2.2.1 a i v, A.2.2.2.2.2)
/-- n places of the row at src from sp on, to the row at dst from dp on -/
def cpI (A : HP) (src sp dst dp n : Nat) : HP := (A.1, (fun b j => if b = dst ∧ dp ≤ j ∧ j < dp + n then A.2.1 src (sp + (j - dp)) else A.2.1 b j), A.2.2)
/-- a new cell of a kind, all its places 0 or none, that takes w slots -/
def mk (A : HP) (k : Nat × Nat) (w : Nat) : HP := ((fun b => if b = hn A then k else A.1 b), (fun b j => if b = hn A then 0 else A.2.1 b j), (fun b j => if b = hn A then 0 else A.2.2.1 b j), (fun b j => if b = hn A then none else A.2.2.2.1 b j), (fun b j => if b = hn A then 0 else A.2.2.2.2.1 b j), hn A + 1, hw A + w)
/-- c rows of n places each, behind an outer row of c places -/
def mkG (A : HP) (k k2 : Nat) (c n : Nat) : HP := ((fun b => if b = hn A then (k, c) else if hn A < b ∧ b ≤ hn A + c then (k2, n) else A.1 b), (fun b j => if hn A ≤ b ∧ b ≤ hn A + c then 0 else A.2.1 b j), (fun b j => if hn A ≤ b ∧ b ≤ hn A + c then 0 else A.2.2.1 b j), (fun b j => if b = hn A then (if j < c then some (hn A + 1 + j) else none) else if hn A ≤ b ∧ b ≤ hn A + c then none else A.2.2.2.1 b j), (fun b j => if hn A ≤ b ∧ b ≤ hn A + c then 0 else A.2.2.2.2.1 b j), hn A + 1 + c, hw A + c + c * n)
/-- an exception's cell: nothing is said of it -/
def junk (A : HP) (w : Nat) : HP := (A.1, A.2.1, A.2.2.1, A.2.2.2.1, A.2.2.2.2.1, hn A + 1, hw A + w)
/-- where constants begin -/
def BIG : Nat := 1000000000
abbrev LV : Type := List (Option Value)
abbrev Out : Type := (Option Value) ⊕ Nat
/-- a row of code: the place, the instruction, the next place, a number, further numbers -/
abbrev Row : Type := Nat × Instr × Nat × Int32 × List Nat
def lk : Nat → List Row → Option (Instr × Nat × Int32 × List Nat)
  | _, [] => none
  | k, r :: l => cond (Nat.beq k r.1) (some r.2) (lk k l)
def nth {α : Type} : List α → Nat → Option α
  | [], _ => none
  | a :: _, 0 => some a
  | _ :: l, n + 1 => nth l n
/-- the place ahead holds no number of two slots -/
def okS (L : LV) : Nat → Bool
  | 0 => true
  | j + 1 => match nth L j with
    | some (some v) => match v.category with
      | 2 => false
      | _ => true
    | _ => true
/-- a frame's first locals -/
def argL : List Value → LV
  | [] => []
  | v :: l => match v.category with
    | 2 => some v :: none :: argL l
    | _ => some v :: argL l
def entL (n : Nat) (as : List Value) : LV := argL as ++ List.replicate (n - (argL as).length) none
/-- the arguments of a call, and what stays on the stack -/
def popN : Nat → List Value → List Value → Option (List Value × List Value)
  | 0, st, acc => some (acc, st)
  | n + 1, v :: st, acc => popN n st (v :: acc)
  | _ + 1, [], _ => none
/-- words on a stack -/
def catS : List Value → Nat
  | [] => 0
  | v :: l => v.category + catS l
/-- a handler that covers the place, for the exception's number -/
def findH : List (Nat × Nat × Nat × Nat) → Nat → Nat → Option Nat
  | [], _, _ => none
  | (a, b, h, e) :: l, pc, E => cond (Nat.ble a pc && Nat.blt pc b && Nat.beq e E) (some h) (findH l pc E)
def cmpP : ClassFile.Cond → Int32 → Int32 → Prop
  | .eq, x, y => x = y
  | .ne, x, y => ¬ x = y
  | .lt, x, y => x < y
  | .ge, x, y => y ≤ x
  | .gt, x, y => y < x
  | .le, x, y => x ≤ y
/-- a value of a field or an array of a type of few bits stays what it is -/
def fitT (t : Nat) (v : Int32) : Prop := match t with
  | 0 => True
  | 3 => vp_nar .char v = v
  | 4 => vp_nar .byte v = v
  | _ => vp_nar .boolean v = v
/-- where a switch goes: (number, target) .. -/
def swP (x : Int32) : List Nat → Nat → (Nat → Prop) → Prop
  | n :: t :: l, d, K => (x = Int32.ofNat n → K t) ∧ (¬ x = Int32.ofNat n → swP x l d K)
  | _, d, K => K d
def isBA (k : Nat × Nat) : Prop := k.1 = 4 ∨ k.1 = 8
abbrev SpecT : Type := Nat → List Value → HP → (Out → HP → Prop) → Prop
/-- instructions that move numbers about on the stack alone -/
def stkI (i : Instr) (cst : Int32) (x : List Nat) (st : List Value) : Option (List Value) :=
  match i with
  | .iconst _ | .bipush _ | .sipush _ => some (.int cst :: st)
  | .lconst l => match l with
    | 0 => some (.long 0 :: st)
    | _ => some (.long 1 :: st)
  | .ldc _ | .ldc_w _ => match x with
    | [] => some (.int cst :: st)
    | k :: _ => some (.ref (BIG + k) :: st)
  | .ldc2_w _ => match x with
    | [n] => some (.long (Int64.ofNat n) :: st)
    | _ => some (.long (Int64.ofInt cst.toInt) :: st)
  | .getstatic _ => match x with
    | [] => some (.int cst :: st)
    | k :: _ => some (.ref (BIG + k) :: st)
  | .aconst_null => some (.null :: st)
  | .dconst d => match d with
    | 0 => some (.double FP.dconst0 :: st)
    | _ => none
  | .fconst d => match d with
    | 0 => some (.float FP.fconst0 :: st)
    | _ => none
  | .dup => match st with
    | v :: r => match v.category with
      | 1 => some (v :: v :: r)
      | _ => none
    | _ => none
  | .dup_x1 => match st with
    | a :: b :: r => match a.category, b.category with
      | 1, 1 => some (a :: b :: a :: r)
      | _, _ => none
    | _ => none
  | .dup2 => match st with
    | a :: b :: r => match a.category, b.category with
      | 1, 1 => some (a :: b :: a :: b :: r)
      | _, _ => none
    | _ => none
  | .pop => match st with
    | v :: r => match v.category with
      | 1 => some r
      | _ => none
    | _ => none
  | .iadd => match st with
    | .int y :: .int x :: r => some (.int (x + y) :: r)
    | _ => none
  | .isub => match st with
    | .int y :: .int x :: r => some (.int (x - y) :: r)
    | _ => none
  | .imul => match st with
    | .int y :: .int x :: r => some (.int (x * y) :: r)
    | _ => none
  | .iand => match st with
    | .int y :: .int x :: r => some (.int (x &&& y) :: r)
    | _ => none
  | .ior => match st with
    | .int y :: .int x :: r => some (.int (x ||| y) :: r)
    | _ => none
  | .ineg => match st with
    | .int x :: r => some (.int (-x) :: r)
    | _ => none
  | .ishl => match st with
    | .int y :: .int x :: r => some (.int (x <<< (y &&& 31)) :: r)
    | _ => none
  | .ishr => match st with
    | .int y :: .int x :: r => some (.int (x >>> (y &&& 31)) :: r)
    | _ => none
  | .iushr => match st with
    | .int y :: .int x :: r => some (.int (x.toUInt32 >>> (y.toUInt32 &&& Int32.toUInt32 31)).toInt32 :: r)
    | _ => none
  | .lshl => match st with
    | .int y :: .long x :: r => some (.long (x <<< (y.toInt64 &&& 63)) :: r)
    | _ => none
  | .lshr => match st with
    | .int y :: .long x :: r => some (.long (x >>> (y.toInt64 &&& 63)) :: r)
    | _ => none
  | .land => match st with
    | .long y :: .long x :: r => some (.long (x &&& y) :: r)
    | _ => none
  | .lor => match st with
    | .long y :: .long x :: r => some (.long (x ||| y) :: r)
    | _ => none
  | .lsub => match st with
    | .long y :: .long x :: r => some (.long (x - y) :: r)
    | _ => none
  | .lcmp => match st with
    | .long y :: .long x :: r => some (.int (lg_cmp x y) :: r)
    | _ => none
  | .i2l => match st with
    | .int x :: r => some (.long x.toInt64 :: r)
    | _ => none
  | .i2c => match st with
    | .int x :: r => some (.int (x.toUInt32 % 65536).toInt32 :: r)
    | _ => none
  | .i2b => match st with
    | .int x :: r => some (.int x.toInt8.toInt32 :: r)
    | _ => none
  | .i2d => match st with
    | .int x :: r => some (.double (FP.i2d x) :: r)
    | _ => none
  | .i2f => match st with
    | .int x :: r => some (.float (FP.i2f x) :: r)
    | _ => none
  | .dcmp op => match st with
    | .double y :: .double x :: r => some (.int (Op.cmpValue (FP.dcmp x y) op) :: r)
    | _ => none
  | .fcmp op => match st with
    | .float y :: .float x :: r => some (.int (Op.cmpValue (FP.fcmp x y) op) :: r)
    | _ => none
  | _ => none
/-- no exception's marker -/
def noJ : List Value → Bool
  | [] => true
  | v :: l => match v with
    | .retAddr _ => false
    | _ => noJ l
/-- a call, and where it goes on -/
def callP (S : SpecT) (hh : List (Nat × Nat × Nat × Nat)) (Post : Out → HP → Prop) (pc nx : Nat) (L : LV) (G : Nat → LV → List Value → HP → Prop) (k : Nat) (as r : List Value) (A : HP) : Prop :=
  cond (Nat.ble (catS r) 8 && noJ as) (S k as A (fun o A' => match o with
    | .inl none => G nx L r A'
    | .inl (some v) => G nx L (v :: r) A'
    | .inr E => match findH hh pc E with
      | some h => G h L [.retAddr 0] A'
      | none => match hh with
        | [] => Post (.inr E) A'
        | _ => False)) False
/-- one step: what has to hold, and where it goes. S: what the methods that it calls do; rt: the type of the answer (0 int, 3 char, 4 byte, 5 boolean) -/
def stepI (S : SpecT) (hh : List (Nat × Nat × Nat × Nat)) (rt : Nat) (Post : Out → HP → Prop) (pc : Nat) (i : Instr) (nx : Nat) (cst : Int32) (x : List Nat) (L : LV) (st : List Value) (A : HP) (G : Nat → LV → List Value → HP → Prop) : Prop :=
  match i with
  | .iload _ | .iload_n _ => match x with
    | k :: _ => match nth L k with
      | some (some (.int v)) => G nx L (.int v :: st) A
      | _ => False
    | _ => False
  | .aload _ | .aload_n _ => match x with
    | k :: _ => match nth L k with
      | some (some (.ref v)) => G nx L (.ref v :: st) A
      | some (some .null) => G nx L (.null :: st) A
      | _ => False
    | _ => False
  | .lload _ | .lload_n _ => match x with
    | k :: _ => match nth L k with
      | some (some (.long v)) => G nx L (.long v :: st) A
      | _ => False
    | _ => False
  | .dload _ => match x with
    | k :: _ => match nth L k with
      | some (some (.double v)) => G nx L (.double v :: st) A
      | _ => False
    | _ => False
  | .fload _ => match x with
    | k :: _ => match nth L k with
      | some (some (.float v)) => G nx L (.float v :: st) A
      | _ => False
    | _ => False
  | .istore _ | .istore_n _ => match x, st with
    | k :: _, .int v :: r => cond (okS L k) (G nx (L.set k (some (.int v))) r A) False
    | _, _ => False
  | .astore _ | .astore_n _ => match x, st with
    | k :: _, .ref v :: r => cond (okS L k) (G nx (L.set k (some (.ref v))) r A) False
    | k :: _, .retAddr _ :: r => cond (okS L k) (G nx (L.set k none) r A) False
    | _, _ => False
  | .lstore _ | .lstore_n _ => match x, st with
    | k :: _, .long v :: r => cond (okS L k) (G nx ((L.set k (some (.long v))).set (k + 1) none) r A) False
    | _, _ => False
  | .dstore _ => match x, st with
    | k :: _, .double v :: r => cond (okS L k) (G nx ((L.set k (some (.double v))).set (k + 1) none) r A) False
    | _, _ => False
  | .fstore _ => match x, st with
    | k :: _, .float v :: r => cond (okS L k) (G nx (L.set k (some (.float v))) r A) False
    | _, _ => False
  | .iinc _ _ => match x with
    | k :: _ => match nth L k with
      | some (some (.int v)) => cond (okS L k) (G nx (L.set k (some (.int (v + cst)))) st A) False
      | _ => False
    | _ => False
  | .goto _ => match x with
    | t :: _ => G t L st A
    | _ => False
  | .ifCond c _ => match x, st with
    | t :: _, .int v :: r => (cmpP c v 0 → G t L r A) ∧ (¬ cmpP c v 0 → G nx L r A)
    | _, _ => False
  | .if_icmp c _ => match x, st with
    | t :: _, .int w :: .int v :: r => (cmpP c v w → G t L r A) ∧ (¬ cmpP c v w → G nx L r A)
    | _, _ => False
  | .ifnonnull _ => match x, st with
    | t :: _, .ref _ :: r => G t L r A
    | _, .null :: r => G nx L r A
    | _, _ => False
  | .tableswitch _ _ _ _ | .lookupswitch _ _ => match x, st with
    | d :: l, .int v :: r => swP v l d (fun t => G t L r A)
    | _, _ => False
  | .idiv => match st with
    | .int w :: .int v :: r => ¬ w = 0 ∧ G nx L (.int (v / w) :: r) A
    | _ => False
  | .irem => match st with
    | .int w :: .int v :: r => ¬ w = 0 ∧ G nx L (.int (v - v / w * w) :: r) A
    | _ => False
  | .ddiv => match st with
    | .double w :: .double v :: r => vf_n64 (FP.ddiv v w) ∧ G nx L (.double (FP.ddiv v w) :: r) A
    | _ => False
  | .fdiv => match st with
    | .float w :: .float v :: r => vf_n32 (FP.fdiv v w) ∧ G nx L (.float (FP.fdiv v w) :: r) A
    | _ => False
  | .f2d => match st with
    | .float v :: r => vf_n64 (FP.f2d v) ∧ G nx L (.double (FP.f2d v) :: r) A
    | _ => False
  | .getfield _ => match x, st with
    | ci :: k :: t :: _, .ref a :: r => hK A a = (10 + ci, 0) ∧ (match t with
      | 1 => G nx L (.long (hJ A a k) :: r) A
      | 2 => ∃ b, hR A a k = some b ∧ G nx L (.ref b :: r) A
      | _ => G nx L (.int (hI A a k) :: r) A)
    | _, _ => False
  | .putfield _ => match x, st with
    | ci :: k :: t :: _, v :: .ref a :: r => hK A a = (10 + ci, 0) ∧ (match t, v with
      | 1, .long w => G nx L r (sJ A a k w)
      | 2, .ref w => G nx L r (sR A a k (some w))
      | 1, _ => False
      | 2, _ => False
      | t, .int w => fitT t w ∧ G nx L r (sI A a k w)
      | _, _ => False)
    | _, _ => False
  | .arraylength => match st with
    | .ref a :: r => ∃ t n, hK A a = (t, n) ∧ 0 < t ∧ t ≤ 8 ∧ G nx L (.int (Int32.ofNat n) :: r) A
    | _ => False
  | .iaload => match st with
    | .int j :: .ref a :: r => ∃ n, hK A a = (1, n) ∧ vp_in j n ∧ G nx L (.int (hI A a j.toNatClampNeg) :: r) A
    | _ => False
  | .caload => match st with
    | .int j :: .ref a :: r => ∃ n, hK A a = (3, n) ∧ vp_in j n ∧ G nx L (.int (hI A a j.toNatClampNeg) :: r) A
    | _ => False
  | .baload => match st with
    | .int j :: .ref a :: r => ∃ n t, hK A a = (t, n) ∧ (t = 4 ∨ t = 8) ∧ vp_in j n ∧ G nx L (.int (hI A a j.toNatClampNeg) :: r) A
    | _ => False
  | .laload => match st with
    | .int j :: .ref a :: r => ∃ n, hK A a = (2, n) ∧ vp_in j n ∧ G nx L (.long (hJ A a j.toNatClampNeg) :: r) A
    | _ => False
  | .daload => match st with
    | .int j :: .ref a :: r => ∃ n, hK A a = (5, n) ∧ vp_in j n ∧ G nx L (.double (hU A a j.toNatClampNeg) :: r) A
    | _ => False
  | .aaload => match st with
    | .int j :: .ref a :: r => ∃ n t b, hK A a = (t, n) ∧ (t = 6 ∨ t = 7) ∧ vp_in j n ∧ hR A a j.toNatClampNeg = some b ∧ G nx L (.ref b :: r) A
    | _ => False
  | .iastore => match st with
    | .int w :: .int j :: .ref a :: r => ∃ n, hK A a = (1, n) ∧ vp_in j n ∧ G nx L r (sI A a j.toNatClampNeg w)
    | _ => False
  | .castore => match st with
    | .int w :: .int j :: .ref a :: r => ∃ n, hK A a = (3, n) ∧ vp_in j n ∧ G nx L r (sI A a j.toNatClampNeg (vp_nar .char w))
    | _ => False
  | .bastore => match st with
    | .int w :: .int j :: .ref a :: r => ∃ n, hK A a = (4, n) ∧ vp_in j n ∧ G nx L r (sI A a j.toNatClampNeg (vp_nar .byte w))
    | _ => False
  | .lastore => match st with
    | .long w :: .int j :: .ref a :: r => ∃ n, hK A a = (2, n) ∧ vp_in j n ∧ G nx L r (sJ A a j.toNatClampNeg w)
    | _ => False
  | .dastore => match st with
    | .double w :: .int j :: .ref a :: r => ∃ n, hK A a = (5, n) ∧ vp_in j n ∧ G nx L r (sU A a j.toNatClampNeg w)
    | _ => False
  | .aastore => match st with
    | .ref w :: .int j :: .ref a :: r => ∃ n, hK A a = (7, n) ∧ hK A w = (12, 0) ∧ vp_in j n ∧ G nx L r (sR A a j.toNatClampNeg (some w))
    | _ => False
  | .new _ => match x, st with
    | [ci, w], st => G nx L (.ref (hn A) :: st) (mk A (10 + ci, 0) w)
    | [E], [] => Post (.inr E) (junk A 6)
    | _, _ => False
  | .newarray _ => match x, st with
    | t :: _, .int m :: r => ¬ m < 0 ∧ m.toNatClampNeg ≤ 65536 ∧ G nx L (.ref (hn A) :: r) (mk A (t, m.toNatClampNeg) m.toNatClampNeg)
    | _, _ => False
  | .anewarray _ => match st with
    | .int m :: r => ¬ m < 0 ∧ m.toNatClampNeg ≤ 65536 ∧ G nx L (.ref (hn A) :: r) (mk A (7, m.toNatClampNeg) m.toNatClampNeg)
    | _ => False
  | .multianewarray _ _ => match st with
    | .int m :: .int n :: r => ¬ m < 0 ∧ ¬ n < 0 ∧ 0 < n.toNatClampNeg ∧ m.toNatClampNeg ≤ 1000 ∧ n.toNatClampNeg ≤ 1000 ∧ G nx L (.ref (hn A) :: r) (mkG A 6 1 n.toNatClampNeg m.toNatClampNeg)
    | _ => False
  | .ireturn => match st with
    | [.int v] => fitT rt v ∧ Post (.inl (some (.int v))) A
    | _ => False
  | .lreturn => match st with
    | [.long v] => Post (.inl (some (.long v))) A
    | _ => False
  | .dreturn => match st with
    | [.double v] => Post (.inl (some (.double v))) A
    | _ => False
  | .freturn => match st with
    | [.float v] => Post (.inl (some (.float v))) A
    | _ => False
  | .areturn => match st with
    | [.ref v] => Post (.inl (some (.ref v))) A
    | _ => False
  | .return_ => match st with
    | [] => Post (.inl none) A
    | _ => False
  | .invokevirtual _ | .invokestatic _ | .invokespecial _ => match x with
    | [0, k, np] => match popN np st [] with
      | some (as, r) => callP S hh Post pc nx L G k as r A
      | none => False
    | [6, k, np, ci] => match popN np st [] with
      | some (as, r) => (match as with
        | .ref b :: _ => hK A b = (10 + ci, 0)
        | _ => False) ∧ callP S hh Post pc nx L G k as r A
      | none => False
    | [1] => match st with
      | .ref _ :: r => cond (Nat.ble (catS r) 8) (G nx L r A) False
      | _ => False
    | [2] => match st with
      | [.int n, .int dp, .ref d, .int sp, .ref s] => ∃ t n0 t1 n1, hK A s = (t, n0) ∧ hK A d = (t1, n1) ∧ ((t = 1 ∧ t1 = 1) ∨ (t = 3 ∧ t1 = 3) ∨ ((t = 4 ∨ t = 8) ∧ t1 = 4)) ∧ ¬ sp < 0 ∧ ¬ dp < 0 ∧ ¬ n < 0 ∧ sp.toNatClampNeg + n.toNatClampNeg ≤ n0 ∧ dp.toNatClampNeg + n.toNatClampNeg ≤ n1 ∧
          (∀ j, j < n.toNatClampNeg → fitT (if t = 8 then 4 else if t = 1 then 0 else t) (hI A s (sp.toNatClampNeg + j))) ∧ G nx L [] (cpI A s sp.toNatClampNeg d dp.toNatClampNeg n.toNatClampNeg)
      | _ => False
    | [3] => match st with
      | .int w :: .int v :: r => cond (Nat.ble (catS r) 8) (G nx L (.int (if v < w then w else v) :: r) A) False
      | _ => False
    | [4] => match st with
      | .int w :: .int v :: r => cond (Nat.ble (catS r) 8) (G nx L (.int (if w < v then w else v) :: r) A) False
      | _ => False
    | [5] => match st with
      | .int v :: r => cond (Nat.ble (catS r) 8) (G nx L (.int (if 0 ≤ v then v else 0 - v) :: r) A) False
      | _ => False
    | _ => False
  | i => match stkI i cst x st with
    | some st' => G nx L st' A
    | none => False
/-- a method's code: rows, locals, the type of the answer, handlers -/
abbrev MDT : Type := List Row × Nat × Nat × List (Nat × Nat × Nat × Nat)
def stepP (S : SpecT) (M : MDT) (Post : Out → HP → Prop) (pc : Nat) (L : LV) (st : List Value) (A : HP) (G : Nat → LV → List Value → HP → Prop) : Prop :=
  match lk pc M.1 with
  | some (i, nx, cst, x) => stepI S M.2.2.2 M.2.2.1 Post pc i nx cst x L st A G
  | none => False
/-- what method k does at the depth d: all predicates that follow its code backwards hold at its start -/
def SpecF (md : Nat → MDT) : Nat → SpecT
  | 0 => fun _ _ _ _ => False
  | d + 1 => fun k as A Post => ∀ G : Nat → LV → List Value → HP → Prop, (∀ pc L st A, stepP (SpecF md d) (md k) Post pc L st A G → G pc L st A) → G 0 (entL (md k).2.1 as) [] A
end
section
/-! the rows of code, by program out of the decode rows of claim/NAMES.whole.lean.txt and the links of tables_1 -/
def cl_L_law_0 : List Row := [(0, .new 8, 3, 0, [8, 14]), (3, .dup, 4, 0, []), (4, .invokespecial 158, 7, 0, [0, 1, 1]), (7, .astore_n 1, 8, 0, [1]), (8, .new 159, 11, 0, [9, 22]), (11, .dup, 12, 0, []), (12, .invokespecial 161, 15, 0, [0, 2, 1]), (15, .astore_n 2, 16, 0, [2]), (16, .iconst 1, 17, 1, []), (17, .newarray .long, 19, 0, [2]), (19, .astore_n 3, 20, 0, [3]), (20, .iconst 1, 21, 1, []), (21, .newarray .double, 23, 0, [5]), (23, .astore 4, 25, 0, [4]), (25, .iconst 0, 26, 0, []), (26, .istore 5, 28, 0, [5]), (28, .iload 5, 30, 0, [5]), (30, .aload_n 0, 31, 0, [0]), (31, .arraylength, 32, 0, []), (32, .iconst 5, 33, 5, []), (33, .isub, 34, 0, []), (34, .if_icmp .gt 2807, 37, 0, [2841]), (37, .aload_n 0, 38, 0, [0]), (38, .iload 5, 40, 0, [5]), (40, .iaload, 41, 0, []), (41, .bipush 63, 43, 63, []), (43, .iand, 44, 0, []), (44, .tableswitch 2791 0 53 #[232, 300, 380, 460, 473, 486, 542, 598, 654, 710, 766, 829, 885, 979, 1035, 1048, 1104, 1160, 1216, 1272, 1328, 1391, 1454, 1498, 1542, 1555, 1599, 1655, 1711, 1724, 1737, 1750, 1806, 1850, 1949, 2005, 2061, 2074, 2087, 2100, 2165, 2231, 2244, 2300, 2356, 2412, 2470, 2514, 2558, 2602, 2646, 2690, 2734, 2747], 276, 0, [2835, 0, 276, 1, 344, 2, 424, 3, 504, 4, 517, 5, 530, 6, 586, 7, 642, 8, 698, 9, 754, 10, 810, 11, 873, 12, 929, 13, 1023, 14, 1079, 15, 1092, 16, 1148, 17, 1204, 18, 1260, 19, 1316, 20, 1372, 21, 1435, 22, 1498, 23, 1542, 24, 1586, 25, 1599, 26, 1643, 27, 1699, 28, 1755, 29, 1768, 30, 1781, 31, 1794, 32, 1850, 33, 1894, 34, 1993, 35, 2049, 36, 2105, 37, 2118, 38, 2131, 39, 2144, 40, 2209, 41, 2275, 42, 2288, 43, 2344, 44, 2400, 45, 2456, 46, 2514, 47, 2558, 48, 2602, 49, 2646, 50, 2690, 51, 2734, 52, 2778, 53, 2791]), (276, .aload_n 1, 277, 0, [1]), (277, .aload_n 0, 278, 0, [0]), (278, .iload 5, 280, 0, [5]), (280, .iconst 1, 281, 1, []), (281, .iadd, 282, 0, []), (282, .iaload, 283, 0, []), (283, .aload_n 0, 284, 0, [0]), (284, .iload 5, 286, 0, [5]), (286, .iconst 2, 287, 2, []), (287, .iadd, 288, 0, []), (288, .iaload, 289, 0, []), (289, .aload_n 3, 290, 0, [3]), (290, .invokestatic 162, 293, 0, [0, 3, 4]), (293, .istore 6, 295, 0, [6]), (295, .aload_n 2, 296, 0, [2]), (296, .aload_n 0, 297, 0, [0]), (297, .iload 5, 299, 0, [5]), (299, .iconst 1, 300, 1, []), (300, .iadd, 301, 0, []), (301, .iaload, 302, 0, []), (302, .aload_n 0, 303, 0, [0]), (303, .iload 5, 305, 0, [5]), (305, .iconst 2, 306, 2, []), (306, .iadd, 307, 0, []), (307, .iaload, 308, 0, []), (308, .invokevirtual 167, 311, 0, [6, 4, 3, 9]), (311, .istore 7, 313, 0, [7]), (313, .aload_n 2, 314, 0, [2]), (314, .invokevirtual 168, 317, 0, [6, 5, 1, 9]), (317, .iload 6, 319, 0, [6]), (319, .if_icmp .eq 5, 322, 0, [324]), (322, .iconst 0, 323, 0, [])]
def cl_L_law_1 : List Row := [(323, .ireturn, 324, 0, []), (324, .iload 6, 326, 0, [6]), (326, .ifCond .ne 15, 329, 0, [341]), (329, .aload_n 3, 330, 0, [3]), (330, .iconst 0, 331, 0, []), (331, .laload, 332, 0, []), (332, .iload 7, 334, 0, [7]), (334, .i2l, 335, 0, []), (335, .lcmp, 336, 0, []), (336, .ifCond .eq 5, 339, 0, [341]), (339, .iconst 0, 340, 0, []), (340, .ireturn, 341, 0, []), (341, .goto 2494, 344, 0, [2835]), (344, .aload_n 1, 345, 0, [1]), (345, .aload_n 0, 346, 0, [0]), (346, .iload 5, 348, 0, [5]), (348, .iconst 1, 349, 1, []), (349, .iadd, 350, 0, []), (350, .iaload, 351, 0, []), (351, .aload_n 0, 352, 0, [0]), (352, .iload 5, 354, 0, [5]), (354, .iconst 2, 355, 2, []), (355, .iadd, 356, 0, []), (356, .iaload, 357, 0, []), (357, .aload_n 0, 358, 0, [0]), (358, .iload 5, 360, 0, [5]), (360, .iconst 3, 361, 3, []), (361, .iadd, 362, 0, []), (362, .iaload, 363, 0, []), (363, .aload_n 3, 364, 0, [3]), (364, .invokestatic 171, 367, 0, [0, 6, 5]), (367, .istore 6, 369, 0, [6]), (369, .aload_n 2, 370, 0, [2]), (370, .aload_n 0, 371, 0, [0]), (371, .iload 5, 373, 0, [5]), (373, .iconst 1, 374, 1, []), (374, .iadd, 375, 0, []), (375, .iaload, 376, 0, []), (376, .aload_n 0, 377, 0, [0]), (377, .iload 5, 379, 0, [5]), (379, .iconst 2, 380, 2, []), (380, .iadd, 381, 0, []), (381, .iaload, 382, 0, []), (382, .aload_n 0, 383, 0, [0]), (383, .iload 5, 385, 0, [5]), (385, .iconst 3, 386, 3, []), (386, .iadd, 387, 0, []), (387, .iaload, 388, 0, []), (388, .invokevirtual 174, 391, 0, [6, 7, 4, 9]), (391, .istore 7, 393, 0, [7]), (393, .aload_n 2, 394, 0, [2]), (394, .invokevirtual 168, 397, 0, [6, 5, 1, 9]), (397, .iload 6, 399, 0, [6]), (399, .if_icmp .eq 5, 402, 0, [404]), (402, .iconst 0, 403, 0, []), (403, .ireturn, 404, 0, []), (404, .iload 6, 406, 0, [6]), (406, .ifCond .ne 15, 409, 0, [421]), (409, .aload_n 3, 410, 0, [3]), (410, .iconst 0, 411, 0, [])]
def cl_L_law_2 : List Row := [(411, .laload, 412, 0, []), (412, .iload 7, 414, 0, [7]), (414, .i2l, 415, 0, []), (415, .lcmp, 416, 0, []), (416, .ifCond .eq 5, 419, 0, [421]), (419, .iconst 0, 420, 0, []), (420, .ireturn, 421, 0, []), (421, .goto 2414, 424, 0, [2835]), (424, .aload_n 1, 425, 0, [1]), (425, .aload_n 0, 426, 0, [0]), (426, .iload 5, 428, 0, [5]), (428, .iconst 1, 429, 1, []), (429, .iadd, 430, 0, []), (430, .iaload, 431, 0, []), (431, .aload_n 0, 432, 0, [0]), (432, .iload 5, 434, 0, [5]), (434, .iconst 2, 435, 2, []), (435, .iadd, 436, 0, []), (436, .iaload, 437, 0, []), (437, .aload_n 0, 438, 0, [0]), (438, .iload 5, 440, 0, [5]), (440, .iconst 3, 441, 3, []), (441, .iadd, 442, 0, []), (442, .iaload, 443, 0, []), (443, .aload_n 3, 444, 0, [3]), (444, .invokestatic 175, 447, 0, [0, 8, 5]), (447, .istore 6, 449, 0, [6]), (449, .aload_n 2, 450, 0, [2]), (450, .aload_n 0, 451, 0, [0]), (451, .iload 5, 453, 0, [5]), (453, .iconst 1, 454, 1, []), (454, .iadd, 455, 0, []), (455, .iaload, 456, 0, []), (456, .aload_n 0, 457, 0, [0]), (457, .iload 5, 459, 0, [5]), (459, .iconst 2, 460, 2, []), (460, .iadd, 461, 0, []), (461, .iaload, 462, 0, []), (462, .aload_n 0, 463, 0, [0]), (463, .iload 5, 465, 0, [5]), (465, .iconst 3, 466, 3, []), (466, .iadd, 467, 0, []), (467, .iaload, 468, 0, []), (468, .invokevirtual 177, 471, 0, [6, 9, 4, 9]), (471, .istore 7, 473, 0, [7]), (473, .aload_n 2, 474, 0, [2]), (474, .invokevirtual 168, 477, 0, [6, 5, 1, 9]), (477, .iload 6, 479, 0, [6]), (479, .if_icmp .eq 5, 482, 0, [484]), (482, .iconst 0, 483, 0, []), (483, .ireturn, 484, 0, []), (484, .iload 6, 486, 0, [6]), (486, .ifCond .ne 15, 489, 0, [501]), (489, .aload_n 3, 490, 0, [3]), (490, .iconst 0, 491, 0, []), (491, .laload, 492, 0, []), (492, .iload 7, 494, 0, [7]), (494, .i2l, 495, 0, []), (495, .lcmp, 496, 0, []), (496, .ifCond .eq 5, 499, 0, [501])]
def cl_L_law_3 : List Row := [(499, .iconst 0, 500, 0, []), (500, .ireturn, 501, 0, []), (501, .goto 2334, 504, 0, [2835]), (504, .aload_n 1, 505, 0, [1]), (505, .invokevirtual 178, 508, 0, [6, 10, 1, 8]), (508, .aload_n 2, 509, 0, [2]), (509, .invokevirtual 181, 512, 0, [6, 11, 1, 9]), (512, .if_icmp .eq 2323, 515, 0, [2835]), (515, .iconst 0, 516, 0, []), (516, .ireturn, 517, 0, []), (517, .aload_n 1, 518, 0, [1]), (518, .invokevirtual 182, 521, 0, [6, 12, 1, 8]), (521, .aload_n 2, 522, 0, [2]), (522, .invokevirtual 185, 525, 0, [6, 13, 1, 9]), (525, .if_icmp .eq 2310, 528, 0, [2835]), (528, .iconst 0, 529, 0, []), (529, .ireturn, 530, 0, []), (530, .aload_n 1, 531, 0, [1]), (531, .aload_n 0, 532, 0, [0]), (532, .iload 5, 534, 0, [5]), (534, .iconst 1, 535, 1, []), (535, .iadd, 536, 0, []), (536, .iaload, 537, 0, []), (537, .aload_n 3, 538, 0, [3]), (538, .invokestatic 186, 541, 0, [0, 14, 3]), (541, .istore 6, 543, 0, [6]), (543, .aload_n 2, 544, 0, [2]), (544, .aload_n 0, 545, 0, [0]), (545, .iload 5, 547, 0, [5]), (547, .iconst 1, 548, 1, []), (548, .iadd, 549, 0, []), (549, .iaload, 550, 0, []), (550, .invokevirtual 189, 553, 0, [6, 15, 2, 9]), (553, .istore 7, 555, 0, [7]), (555, .aload_n 2, 556, 0, [2]), (556, .invokevirtual 168, 559, 0, [6, 5, 1, 9]), (559, .iload 6, 561, 0, [6]), (561, .if_icmp .eq 5, 564, 0, [566]), (564, .iconst 0, 565, 0, []), (565, .ireturn, 566, 0, []), (566, .iload 6, 568, 0, [6]), (568, .ifCond .ne 15, 571, 0, [583]), (571, .aload_n 3, 572, 0, [3]), (572, .iconst 0, 573, 0, []), (573, .laload, 574, 0, []), (574, .iload 7, 576, 0, [7]), (576, .i2l, 577, 0, []), (577, .lcmp, 578, 0, []), (578, .ifCond .eq 5, 581, 0, [583]), (581, .iconst 0, 582, 0, []), (582, .ireturn, 583, 0, []), (583, .goto 2252, 586, 0, [2835]), (586, .aload_n 1, 587, 0, [1]), (587, .aload_n 0, 588, 0, [0]), (588, .iload 5, 590, 0, [5]), (590, .iconst 1, 591, 1, []), (591, .iadd, 592, 0, []), (592, .iaload, 593, 0, []), (593, .aload_n 3, 594, 0, [3]), (594, .invokestatic 190, 597, 0, [0, 16, 3])]
def cl_L_law_4 : List Row := [(597, .istore 6, 599, 0, [6]), (599, .aload_n 2, 600, 0, [2]), (600, .aload_n 0, 601, 0, [0]), (601, .iload 5, 603, 0, [5]), (603, .iconst 1, 604, 1, []), (604, .iadd, 605, 0, []), (605, .iaload, 606, 0, []), (606, .invokevirtual 192, 609, 0, [6, 17, 2, 9]), (609, .istore 7, 611, 0, [7]), (611, .aload_n 2, 612, 0, [2]), (612, .invokevirtual 168, 615, 0, [6, 5, 1, 9]), (615, .iload 6, 617, 0, [6]), (617, .if_icmp .eq 5, 620, 0, [622]), (620, .iconst 0, 621, 0, []), (621, .ireturn, 622, 0, []), (622, .iload 6, 624, 0, [6]), (624, .ifCond .ne 15, 627, 0, [639]), (627, .aload_n 3, 628, 0, [3]), (628, .iconst 0, 629, 0, []), (629, .laload, 630, 0, []), (630, .iload 7, 632, 0, [7]), (632, .i2l, 633, 0, []), (633, .lcmp, 634, 0, []), (634, .ifCond .eq 5, 637, 0, [639]), (637, .iconst 0, 638, 0, []), (638, .ireturn, 639, 0, []), (639, .goto 2196, 642, 0, [2835]), (642, .aload_n 1, 643, 0, [1]), (643, .aload_n 0, 644, 0, [0]), (644, .iload 5, 646, 0, [5]), (646, .iconst 1, 647, 1, []), (647, .iadd, 648, 0, []), (648, .iaload, 649, 0, []), (649, .aload_n 3, 650, 0, [3]), (650, .invokestatic 193, 653, 0, [0, 18, 3]), (653, .istore 6, 655, 0, [6]), (655, .aload_n 2, 656, 0, [2]), (656, .aload_n 0, 657, 0, [0]), (657, .iload 5, 659, 0, [5]), (659, .iconst 1, 660, 1, []), (660, .iadd, 661, 0, []), (661, .iaload, 662, 0, []), (662, .invokevirtual 195, 665, 0, [6, 19, 2, 9]), (665, .istore 7, 667, 0, [7]), (667, .aload_n 2, 668, 0, [2]), (668, .invokevirtual 168, 671, 0, [6, 5, 1, 9]), (671, .iload 6, 673, 0, [6]), (673, .if_icmp .eq 5, 676, 0, [678]), (676, .iconst 0, 677, 0, []), (677, .ireturn, 678, 0, []), (678, .iload 6, 680, 0, [6]), (680, .ifCond .ne 15, 683, 0, [695]), (683, .aload_n 3, 684, 0, [3]), (684, .iconst 0, 685, 0, []), (685, .laload, 686, 0, []), (686, .iload 7, 688, 0, [7]), (688, .i2l, 689, 0, []), (689, .lcmp, 690, 0, []), (690, .ifCond .eq 5, 693, 0, [695]), (693, .iconst 0, 694, 0, [])]
def cl_L_law_5 : List Row := [(694, .ireturn, 695, 0, []), (695, .goto 2140, 698, 0, [2835]), (698, .aload_n 1, 699, 0, [1]), (699, .aload_n 0, 700, 0, [0]), (700, .iload 5, 702, 0, [5]), (702, .iconst 1, 703, 1, []), (703, .iadd, 704, 0, []), (704, .iaload, 705, 0, []), (705, .aload_n 3, 706, 0, [3]), (706, .invokestatic 196, 709, 0, [0, 20, 3]), (709, .istore 6, 711, 0, [6]), (711, .aload_n 2, 712, 0, [2]), (712, .aload_n 0, 713, 0, [0]), (713, .iload 5, 715, 0, [5]), (715, .iconst 1, 716, 1, []), (716, .iadd, 717, 0, []), (717, .iaload, 718, 0, []), (718, .invokevirtual 198, 721, 0, [6, 21, 2, 9]), (721, .istore 7, 723, 0, [7]), (723, .aload_n 2, 724, 0, [2]), (724, .invokevirtual 168, 727, 0, [6, 5, 1, 9]), (727, .iload 6, 729, 0, [6]), (729, .if_icmp .eq 5, 732, 0, [734]), (732, .iconst 0, 733, 0, []), (733, .ireturn, 734, 0, []), (734, .iload 6, 736, 0, [6]), (736, .ifCond .ne 15, 739, 0, [751]), (739, .aload_n 3, 740, 0, [3]), (740, .iconst 0, 741, 0, []), (741, .laload, 742, 0, []), (742, .iload 7, 744, 0, [7]), (744, .i2l, 745, 0, []), (745, .lcmp, 746, 0, []), (746, .ifCond .eq 5, 749, 0, [751]), (749, .iconst 0, 750, 0, []), (750, .ireturn, 751, 0, []), (751, .goto 2084, 754, 0, [2835]), (754, .aload_n 1, 755, 0, [1]), (755, .aload_n 0, 756, 0, [0]), (756, .iload 5, 758, 0, [5]), (758, .iconst 1, 759, 1, []), (759, .iadd, 760, 0, []), (760, .iaload, 761, 0, []), (761, .aload_n 3, 762, 0, [3]), (762, .invokestatic 199, 765, 0, [0, 22, 3]), (765, .istore 6, 767, 0, [6]), (767, .aload_n 2, 768, 0, [2]), (768, .aload_n 0, 769, 0, [0]), (769, .iload 5, 771, 0, [5]), (771, .iconst 1, 772, 1, []), (772, .iadd, 773, 0, []), (773, .iaload, 774, 0, []), (774, .invokevirtual 201, 777, 0, [6, 23, 2, 9]), (777, .istore 7, 779, 0, [7]), (779, .aload_n 2, 780, 0, [2]), (780, .invokevirtual 168, 783, 0, [6, 5, 1, 9]), (783, .iload 6, 785, 0, [6]), (785, .if_icmp .eq 5, 788, 0, [790]), (788, .iconst 0, 789, 0, []), (789, .ireturn, 790, 0, [])]
def cl_L_law_6 : List Row := [(790, .iload 6, 792, 0, [6]), (792, .ifCond .ne 15, 795, 0, [807]), (795, .aload_n 3, 796, 0, [3]), (796, .iconst 0, 797, 0, []), (797, .laload, 798, 0, []), (798, .iload 7, 800, 0, [7]), (800, .i2l, 801, 0, []), (801, .lcmp, 802, 0, []), (802, .ifCond .eq 5, 805, 0, [807]), (805, .iconst 0, 806, 0, []), (806, .ireturn, 807, 0, []), (807, .goto 2028, 810, 0, [2835]), (810, .aload_n 1, 811, 0, [1]), (811, .aload_n 0, 812, 0, [0]), (812, .iload 5, 814, 0, [5]), (814, .iconst 1, 815, 1, []), (815, .iadd, 816, 0, []), (816, .iaload, 817, 0, []), (817, .aload_n 3, 818, 0, [3]), (818, .invokestatic 202, 821, 0, [0, 24, 3]), (821, .istore 6, 823, 0, [6]), (823, .aload_n 2, 824, 0, [2]), (824, .aload_n 0, 825, 0, [0]), (825, .iload 5, 827, 0, [5]), (827, .iconst 1, 828, 1, []), (828, .iadd, 829, 0, []), (829, .iaload, 830, 0, []), (830, .invokevirtual 204, 833, 0, [6, 25, 2, 9]), (833, .istore 7, 835, 0, [7]), (835, .aload_n 2, 836, 0, [2]), (836, .invokevirtual 168, 839, 0, [6, 5, 1, 9]), (839, .iload 6, 841, 0, [6]), (841, .if_icmp .eq 5, 844, 0, [846]), (844, .iconst 0, 845, 0, []), (845, .ireturn, 846, 0, []), (846, .iload 6, 848, 0, [6]), (848, .ifCond .ne 22, 851, 0, [870]), (851, .aload_n 3, 852, 0, [3]), (852, .iconst 0, 853, 0, []), (853, .laload, 854, 0, []), (854, .iload 7, 856, 0, [7]), (856, .ifCond .eq 7, 859, 0, [863]), (859, .lconst 1, 860, 0, []), (860, .goto 4, 863, 0, [864]), (863, .lconst 0, 864, 0, []), (864, .lcmp, 865, 0, []), (865, .ifCond .eq 5, 868, 0, [870]), (868, .iconst 0, 869, 0, []), (869, .ireturn, 870, 0, []), (870, .goto 1965, 873, 0, [2835]), (873, .aload_n 1, 874, 0, [1]), (874, .aload_n 0, 875, 0, [0]), (875, .iload 5, 877, 0, [5]), (877, .iconst 1, 878, 1, []), (878, .iadd, 879, 0, []), (879, .iaload, 880, 0, []), (880, .aload_n 3, 881, 0, [3]), (881, .invokestatic 205, 884, 0, [0, 26, 3]), (884, .istore 6, 886, 0, [6]), (886, .aload_n 2, 887, 0, [2])]
def cl_L_law_7 : List Row := [(887, .aload_n 0, 888, 0, [0]), (888, .iload 5, 890, 0, [5]), (890, .iconst 1, 891, 1, []), (891, .iadd, 892, 0, []), (892, .iaload, 893, 0, []), (893, .invokevirtual 207, 896, 0, [6, 27, 2, 9]), (896, .istore 7, 898, 0, [7]), (898, .aload_n 2, 899, 0, [2]), (899, .invokevirtual 168, 902, 0, [6, 5, 1, 9]), (902, .iload 6, 904, 0, [6]), (904, .if_icmp .eq 5, 907, 0, [909]), (907, .iconst 0, 908, 0, []), (908, .ireturn, 909, 0, []), (909, .iload 6, 911, 0, [6]), (911, .ifCond .ne 15, 914, 0, [926]), (914, .aload_n 3, 915, 0, [3]), (915, .iconst 0, 916, 0, []), (916, .laload, 917, 0, []), (917, .iload 7, 919, 0, [7]), (919, .i2l, 920, 0, []), (920, .lcmp, 921, 0, []), (921, .ifCond .eq 5, 924, 0, [926]), (924, .iconst 0, 925, 0, []), (925, .ireturn, 926, 0, []), (926, .goto 1909, 929, 0, [2835]), (929, .aload_n 1, 930, 0, [1]), (930, .aload_n 0, 931, 0, [0]), (931, .iload 5, 933, 0, [5]), (933, .iconst 1, 934, 1, []), (934, .iadd, 935, 0, []), (935, .iaload, 936, 0, []), (936, .i2c, 937, 0, []), (937, .aload_n 0, 938, 0, [0]), (938, .iload 5, 940, 0, [5]), (940, .iconst 2, 941, 2, []), (941, .iadd, 942, 0, []), (942, .iaload, 943, 0, []), (943, .aload_n 0, 944, 0, [0]), (944, .iload 5, 946, 0, [5]), (946, .iconst 3, 947, 3, []), (947, .iadd, 948, 0, []), (948, .iaload, 949, 0, []), (949, .aload_n 0, 950, 0, [0]), (950, .iload 5, 952, 0, [5]), (952, .iconst 4, 953, 4, []), (953, .iadd, 954, 0, []), (954, .iaload, 955, 0, []), (955, .aload_n 3, 956, 0, [3]), (956, .invokestatic 208, 959, 0, [0, 28, 6]), (959, .istore 6, 961, 0, [6]), (961, .aload_n 2, 962, 0, [2]), (962, .aload_n 0, 963, 0, [0]), (963, .iload 5, 965, 0, [5]), (965, .iconst 1, 966, 1, []), (966, .iadd, 967, 0, []), (967, .iaload, 968, 0, []), (968, .i2c, 969, 0, []), (969, .aload_n 0, 970, 0, [0]), (970, .iload 5, 972, 0, [5]), (972, .iconst 2, 973, 2, [])]
def cl_L_law_8 : List Row := [(973, .iadd, 974, 0, []), (974, .iaload, 975, 0, []), (975, .aload_n 0, 976, 0, [0]), (976, .iload 5, 978, 0, [5]), (978, .iconst 3, 979, 3, []), (979, .iadd, 980, 0, []), (980, .iaload, 981, 0, []), (981, .aload_n 0, 982, 0, [0]), (982, .iload 5, 984, 0, [5]), (984, .iconst 4, 985, 4, []), (985, .iadd, 986, 0, []), (986, .iaload, 987, 0, []), (987, .invokevirtual 211, 990, 0, [6, 29, 5, 9]), (990, .istore 7, 992, 0, [7]), (992, .aload_n 2, 993, 0, [2]), (993, .invokevirtual 168, 996, 0, [6, 5, 1, 9]), (996, .iload 6, 998, 0, [6]), (998, .if_icmp .eq 5, 1001, 0, [1003]), (1001, .iconst 0, 1002, 0, []), (1002, .ireturn, 1003, 0, []), (1003, .iload 6, 1005, 0, [6]), (1005, .ifCond .ne 15, 1008, 0, [1020]), (1008, .aload_n 3, 1009, 0, [3]), (1009, .iconst 0, 1010, 0, []), (1010, .laload, 1011, 0, []), (1011, .iload 7, 1013, 0, [7]), (1013, .i2l, 1014, 0, []), (1014, .lcmp, 1015, 0, []), (1015, .ifCond .eq 5, 1018, 0, [1020]), (1018, .iconst 0, 1019, 0, []), (1019, .ireturn, 1020, 0, []), (1020, .goto 1815, 1023, 0, [2835]), (1023, .aload_n 1, 1024, 0, [1]), (1024, .aload_n 0, 1025, 0, [0]), (1025, .iload 5, 1027, 0, [5]), (1027, .iconst 1, 1028, 1, []), (1028, .iadd, 1029, 0, []), (1029, .iaload, 1030, 0, []), (1030, .aload_n 3, 1031, 0, [3]), (1031, .invokestatic 212, 1034, 0, [0, 30, 3]), (1034, .istore 6, 1036, 0, [6]), (1036, .aload_n 2, 1037, 0, [2]), (1037, .aload_n 0, 1038, 0, [0]), (1038, .iload 5, 1040, 0, [5]), (1040, .iconst 1, 1041, 1, []), (1041, .iadd, 1042, 0, []), (1042, .iaload, 1043, 0, []), (1043, .invokevirtual 214, 1046, 0, [6, 31, 2, 9]), (1046, .istore 7, 1048, 0, [7]), (1048, .aload_n 2, 1049, 0, [2]), (1049, .invokevirtual 168, 1052, 0, [6, 5, 1, 9]), (1052, .iload 6, 1054, 0, [6]), (1054, .if_icmp .eq 5, 1057, 0, [1059]), (1057, .iconst 0, 1058, 0, []), (1058, .ireturn, 1059, 0, []), (1059, .iload 6, 1061, 0, [6]), (1061, .ifCond .ne 15, 1064, 0, [1076]), (1064, .aload_n 3, 1065, 0, [3]), (1065, .iconst 0, 1066, 0, []), (1066, .laload, 1067, 0, [])]
def cl_L_law_9 : List Row := [(1067, .iload 7, 1069, 0, [7]), (1069, .i2l, 1070, 0, []), (1070, .lcmp, 1071, 0, []), (1071, .ifCond .eq 5, 1074, 0, [1076]), (1074, .iconst 0, 1075, 0, []), (1075, .ireturn, 1076, 0, []), (1076, .goto 1759, 1079, 0, [2835]), (1079, .aload_n 1, 1080, 0, [1]), (1080, .invokevirtual 215, 1083, 0, [6, 32, 1, 8]), (1083, .aload_n 2, 1084, 0, [2]), (1084, .invokevirtual 218, 1087, 0, [6, 33, 1, 9]), (1087, .if_icmp .eq 1748, 1090, 0, [2835]), (1090, .iconst 0, 1091, 0, []), (1091, .ireturn, 1092, 0, []), (1092, .aload_n 1, 1093, 0, [1]), (1093, .aload_n 0, 1094, 0, [0]), (1094, .iload 5, 1096, 0, [5]), (1096, .iconst 1, 1097, 1, []), (1097, .iadd, 1098, 0, []), (1098, .iaload, 1099, 0, []), (1099, .aload_n 3, 1100, 0, [3]), (1100, .invokestatic 219, 1103, 0, [0, 34, 3]), (1103, .istore 6, 1105, 0, [6]), (1105, .aload_n 2, 1106, 0, [2]), (1106, .aload_n 0, 1107, 0, [0]), (1107, .iload 5, 1109, 0, [5]), (1109, .iconst 1, 1110, 1, []), (1110, .iadd, 1111, 0, []), (1111, .iaload, 1112, 0, []), (1112, .invokevirtual 221, 1115, 0, [6, 35, 2, 9]), (1115, .istore 7, 1117, 0, [7]), (1117, .aload_n 2, 1118, 0, [2]), (1118, .invokevirtual 168, 1121, 0, [6, 5, 1, 9]), (1121, .iload 6, 1123, 0, [6]), (1123, .if_icmp .eq 5, 1126, 0, [1128]), (1126, .iconst 0, 1127, 0, []), (1127, .ireturn, 1128, 0, []), (1128, .iload 6, 1130, 0, [6]), (1130, .ifCond .ne 15, 1133, 0, [1145]), (1133, .aload_n 3, 1134, 0, [3]), (1134, .iconst 0, 1135, 0, []), (1135, .laload, 1136, 0, []), (1136, .iload 7, 1138, 0, [7]), (1138, .i2l, 1139, 0, []), (1139, .lcmp, 1140, 0, []), (1140, .ifCond .eq 5, 1143, 0, [1145]), (1143, .iconst 0, 1144, 0, []), (1144, .ireturn, 1145, 0, []), (1145, .goto 1690, 1148, 0, [2835]), (1148, .aload_n 1, 1149, 0, [1]), (1149, .aload_n 0, 1150, 0, [0]), (1150, .iload 5, 1152, 0, [5]), (1152, .iconst 1, 1153, 1, []), (1153, .iadd, 1154, 0, []), (1154, .iaload, 1155, 0, []), (1155, .aload_n 3, 1156, 0, [3]), (1156, .invokestatic 222, 1159, 0, [0, 36, 3]), (1159, .istore 6, 1161, 0, [6]), (1161, .aload_n 2, 1162, 0, [2]), (1162, .aload_n 0, 1163, 0, [0])]
def cl_L_law_10 : List Row := [(1163, .iload 5, 1165, 0, [5]), (1165, .iconst 1, 1166, 1, []), (1166, .iadd, 1167, 0, []), (1167, .iaload, 1168, 0, []), (1168, .invokevirtual 224, 1171, 0, [6, 37, 2, 9]), (1171, .istore 7, 1173, 0, [7]), (1173, .aload_n 2, 1174, 0, [2]), (1174, .invokevirtual 168, 1177, 0, [6, 5, 1, 9]), (1177, .iload 6, 1179, 0, [6]), (1179, .if_icmp .eq 5, 1182, 0, [1184]), (1182, .iconst 0, 1183, 0, []), (1183, .ireturn, 1184, 0, []), (1184, .iload 6, 1186, 0, [6]), (1186, .ifCond .ne 15, 1189, 0, [1201]), (1189, .aload_n 3, 1190, 0, [3]), (1190, .iconst 0, 1191, 0, []), (1191, .laload, 1192, 0, []), (1192, .iload 7, 1194, 0, [7]), (1194, .i2l, 1195, 0, []), (1195, .lcmp, 1196, 0, []), (1196, .ifCond .eq 5, 1199, 0, [1201]), (1199, .iconst 0, 1200, 0, []), (1200, .ireturn, 1201, 0, []), (1201, .goto 1634, 1204, 0, [2835]), (1204, .aload_n 1, 1205, 0, [1]), (1205, .aload_n 0, 1206, 0, [0]), (1206, .iload 5, 1208, 0, [5]), (1208, .iconst 1, 1209, 1, []), (1209, .iadd, 1210, 0, []), (1210, .iaload, 1211, 0, []), (1211, .aload_n 3, 1212, 0, [3]), (1212, .invokestatic 225, 1215, 0, [0, 38, 3]), (1215, .istore 6, 1217, 0, [6]), (1217, .aload_n 2, 1218, 0, [2]), (1218, .aload_n 0, 1219, 0, [0]), (1219, .iload 5, 1221, 0, [5]), (1221, .iconst 1, 1222, 1, []), (1222, .iadd, 1223, 0, []), (1223, .iaload, 1224, 0, []), (1224, .invokevirtual 227, 1227, 0, [6, 39, 2, 9]), (1227, .istore 7, 1229, 0, [7]), (1229, .aload_n 2, 1230, 0, [2]), (1230, .invokevirtual 168, 1233, 0, [6, 5, 1, 9]), (1233, .iload 6, 1235, 0, [6]), (1235, .if_icmp .eq 5, 1238, 0, [1240]), (1238, .iconst 0, 1239, 0, []), (1239, .ireturn, 1240, 0, []), (1240, .iload 6, 1242, 0, [6]), (1242, .ifCond .ne 15, 1245, 0, [1257]), (1245, .aload_n 3, 1246, 0, [3]), (1246, .iconst 0, 1247, 0, []), (1247, .laload, 1248, 0, []), (1248, .iload 7, 1250, 0, [7]), (1250, .i2l, 1251, 0, []), (1251, .lcmp, 1252, 0, []), (1252, .ifCond .eq 5, 1255, 0, [1257]), (1255, .iconst 0, 1256, 0, []), (1256, .ireturn, 1257, 0, []), (1257, .goto 1578, 1260, 0, [2835]), (1260, .aload_n 1, 1261, 0, [1])]
def cl_L_law_11 : List Row := [(1261, .aload_n 0, 1262, 0, [0]), (1262, .iload 5, 1264, 0, [5]), (1264, .iconst 1, 1265, 1, []), (1265, .iadd, 1266, 0, []), (1266, .iaload, 1267, 0, []), (1267, .aload_n 3, 1268, 0, [3]), (1268, .invokestatic 228, 1271, 0, [0, 40, 3]), (1271, .istore 6, 1273, 0, [6]), (1273, .aload_n 2, 1274, 0, [2]), (1274, .aload_n 0, 1275, 0, [0]), (1275, .iload 5, 1277, 0, [5]), (1277, .iconst 1, 1278, 1, []), (1278, .iadd, 1279, 0, []), (1279, .iaload, 1280, 0, []), (1280, .invokevirtual 230, 1283, 0, [6, 41, 2, 9]), (1283, .istore 7, 1285, 0, [7]), (1285, .aload_n 2, 1286, 0, [2]), (1286, .invokevirtual 168, 1289, 0, [6, 5, 1, 9]), (1289, .iload 6, 1291, 0, [6]), (1291, .if_icmp .eq 5, 1294, 0, [1296]), (1294, .iconst 0, 1295, 0, []), (1295, .ireturn, 1296, 0, []), (1296, .iload 6, 1298, 0, [6]), (1298, .ifCond .ne 15, 1301, 0, [1313]), (1301, .aload_n 3, 1302, 0, [3]), (1302, .iconst 0, 1303, 0, []), (1303, .laload, 1304, 0, []), (1304, .iload 7, 1306, 0, [7]), (1306, .i2l, 1307, 0, []), (1307, .lcmp, 1308, 0, []), (1308, .ifCond .eq 5, 1311, 0, [1313]), (1311, .iconst 0, 1312, 0, []), (1312, .ireturn, 1313, 0, []), (1313, .goto 1522, 1316, 0, [2835]), (1316, .aload_n 1, 1317, 0, [1]), (1317, .aload_n 0, 1318, 0, [0]), (1318, .iload 5, 1320, 0, [5]), (1320, .iconst 1, 1321, 1, []), (1321, .iadd, 1322, 0, []), (1322, .iaload, 1323, 0, []), (1323, .aload_n 3, 1324, 0, [3]), (1324, .invokestatic 231, 1327, 0, [0, 42, 3]), (1327, .istore 6, 1329, 0, [6]), (1329, .aload_n 2, 1330, 0, [2]), (1330, .aload_n 0, 1331, 0, [0]), (1331, .iload 5, 1333, 0, [5]), (1333, .iconst 1, 1334, 1, []), (1334, .iadd, 1335, 0, []), (1335, .iaload, 1336, 0, []), (1336, .invokevirtual 233, 1339, 0, [6, 43, 2, 9]), (1339, .istore 7, 1341, 0, [7]), (1341, .aload_n 2, 1342, 0, [2]), (1342, .invokevirtual 168, 1345, 0, [6, 5, 1, 9]), (1345, .iload 6, 1347, 0, [6]), (1347, .if_icmp .eq 5, 1350, 0, [1352]), (1350, .iconst 0, 1351, 0, []), (1351, .ireturn, 1352, 0, []), (1352, .iload 6, 1354, 0, [6]), (1354, .ifCond .ne 15, 1357, 0, [1369]), (1357, .aload_n 3, 1358, 0, [3])]
def cl_L_law_12 : List Row := [(1358, .iconst 0, 1359, 0, []), (1359, .laload, 1360, 0, []), (1360, .iload 7, 1362, 0, [7]), (1362, .i2l, 1363, 0, []), (1363, .lcmp, 1364, 0, []), (1364, .ifCond .eq 5, 1367, 0, [1369]), (1367, .iconst 0, 1368, 0, []), (1368, .ireturn, 1369, 0, []), (1369, .goto 1466, 1372, 0, [2835]), (1372, .aload_n 1, 1373, 0, [1]), (1373, .aload_n 0, 1374, 0, [0]), (1374, .iload 5, 1376, 0, [5]), (1376, .iconst 1, 1377, 1, []), (1377, .iadd, 1378, 0, []), (1378, .iaload, 1379, 0, []), (1379, .aload_n 3, 1380, 0, [3]), (1380, .invokestatic 234, 1383, 0, [0, 44, 3]), (1383, .istore 6, 1385, 0, [6]), (1385, .aload_n 2, 1386, 0, [2]), (1386, .aload_n 0, 1387, 0, [0]), (1387, .iload 5, 1389, 0, [5]), (1389, .iconst 1, 1390, 1, []), (1390, .iadd, 1391, 0, []), (1391, .iaload, 1392, 0, []), (1392, .invokevirtual 236, 1395, 0, [6, 45, 2, 9]), (1395, .istore 7, 1397, 0, [7]), (1397, .aload_n 2, 1398, 0, [2]), (1398, .invokevirtual 168, 1401, 0, [6, 5, 1, 9]), (1401, .iload 6, 1403, 0, [6]), (1403, .if_icmp .eq 5, 1406, 0, [1408]), (1406, .iconst 0, 1407, 0, []), (1407, .ireturn, 1408, 0, []), (1408, .iload 6, 1410, 0, [6]), (1410, .ifCond .ne 22, 1413, 0, [1432]), (1413, .aload_n 3, 1414, 0, [3]), (1414, .iconst 0, 1415, 0, []), (1415, .laload, 1416, 0, []), (1416, .iload 7, 1418, 0, [7]), (1418, .ifCond .eq 7, 1421, 0, [1425]), (1421, .lconst 1, 1422, 0, []), (1422, .goto 4, 1425, 0, [1426]), (1425, .lconst 0, 1426, 0, []), (1426, .lcmp, 1427, 0, []), (1427, .ifCond .eq 5, 1430, 0, [1432]), (1430, .iconst 0, 1431, 0, []), (1431, .ireturn, 1432, 0, []), (1432, .goto 1403, 1435, 0, [2835]), (1435, .aload_n 1, 1436, 0, [1]), (1436, .aload_n 0, 1437, 0, [0]), (1437, .iload 5, 1439, 0, [5]), (1439, .iconst 1, 1440, 1, []), (1440, .iadd, 1441, 0, []), (1441, .iaload, 1442, 0, []), (1442, .aload_n 3, 1443, 0, [3]), (1443, .invokestatic 237, 1446, 0, [0, 46, 3]), (1446, .istore 6, 1448, 0, [6]), (1448, .aload_n 2, 1449, 0, [2]), (1449, .aload_n 0, 1450, 0, [0]), (1450, .iload 5, 1452, 0, [5]), (1452, .iconst 1, 1453, 1, [])]
def cl_L_law_13 : List Row := [(1453, .iadd, 1454, 0, []), (1454, .iaload, 1455, 0, []), (1455, .invokevirtual 239, 1458, 0, [6, 47, 2, 9]), (1458, .istore 7, 1460, 0, [7]), (1460, .aload_n 2, 1461, 0, [2]), (1461, .invokevirtual 168, 1464, 0, [6, 5, 1, 9]), (1464, .iload 6, 1466, 0, [6]), (1466, .if_icmp .eq 5, 1469, 0, [1471]), (1469, .iconst 0, 1470, 0, []), (1470, .ireturn, 1471, 0, []), (1471, .iload 6, 1473, 0, [6]), (1473, .ifCond .ne 22, 1476, 0, [1495]), (1476, .aload_n 3, 1477, 0, [3]), (1477, .iconst 0, 1478, 0, []), (1478, .laload, 1479, 0, []), (1479, .iload 7, 1481, 0, [7]), (1481, .ifCond .eq 7, 1484, 0, [1488]), (1484, .lconst 1, 1485, 0, []), (1485, .goto 4, 1488, 0, [1489]), (1488, .lconst 0, 1489, 0, []), (1489, .lcmp, 1490, 0, []), (1490, .ifCond .eq 5, 1493, 0, [1495]), (1493, .iconst 0, 1494, 0, []), (1494, .ireturn, 1495, 0, []), (1495, .goto 1340, 1498, 0, [2835]), (1498, .aload_n 1, 1499, 0, [1]), (1499, .aload_n 3, 1500, 0, [3]), (1500, .invokestatic 240, 1503, 0, [0, 48, 2]), (1503, .istore 6, 1505, 0, [6]), (1505, .aload_n 2, 1506, 0, [2]), (1506, .invokevirtual 243, 1509, 0, [6, 49, 1, 9]), (1509, .istore 7, 1511, 0, [7]), (1511, .aload_n 2, 1512, 0, [2]), (1512, .invokevirtual 168, 1515, 0, [6, 5, 1, 9]), (1515, .iload 6, 1517, 0, [6]), (1517, .if_icmp .eq 5, 1520, 0, [1522]), (1520, .iconst 0, 1521, 0, []), (1521, .ireturn, 1522, 0, []), (1522, .iload 6, 1524, 0, [6]), (1524, .ifCond .ne 15, 1527, 0, [1539]), (1527, .aload_n 3, 1528, 0, [3]), (1528, .iconst 0, 1529, 0, []), (1529, .laload, 1530, 0, []), (1530, .iload 7, 1532, 0, [7]), (1532, .i2l, 1533, 0, []), (1533, .lcmp, 1534, 0, []), (1534, .ifCond .eq 5, 1537, 0, [1539]), (1537, .iconst 0, 1538, 0, []), (1538, .ireturn, 1539, 0, []), (1539, .goto 1296, 1542, 0, [2835]), (1542, .aload_n 1, 1543, 0, [1]), (1543, .aload_n 3, 1544, 0, [3]), (1544, .invokestatic 244, 1547, 0, [0, 50, 2]), (1547, .istore 6, 1549, 0, [6]), (1549, .aload_n 2, 1550, 0, [2]), (1550, .invokevirtual 246, 1553, 0, [6, 51, 1, 9]), (1553, .istore 7, 1555, 0, [7]), (1555, .aload_n 2, 1556, 0, [2]), (1556, .invokevirtual 168, 1559, 0, [6, 5, 1, 9]), (1559, .iload 6, 1561, 0, [6])]
def cl_L_law_14 : List Row := [(1561, .if_icmp .eq 5, 1564, 0, [1566]), (1564, .iconst 0, 1565, 0, []), (1565, .ireturn, 1566, 0, []), (1566, .iload 6, 1568, 0, [6]), (1568, .ifCond .ne 15, 1571, 0, [1583]), (1571, .aload_n 3, 1572, 0, [3]), (1572, .iconst 0, 1573, 0, []), (1573, .laload, 1574, 0, []), (1574, .iload 7, 1576, 0, [7]), (1576, .i2l, 1577, 0, []), (1577, .lcmp, 1578, 0, []), (1578, .ifCond .eq 5, 1581, 0, [1583]), (1581, .iconst 0, 1582, 0, []), (1582, .ireturn, 1583, 0, []), (1583, .goto 1252, 1586, 0, [2835]), (1586, .aload_n 1, 1587, 0, [1]), (1587, .invokevirtual 247, 1590, 0, [6, 52, 1, 8]), (1590, .aload_n 2, 1591, 0, [2]), (1591, .invokevirtual 251, 1594, 0, [6, 53, 1, 9]), (1594, .if_icmp .eq 1241, 1597, 0, [2835]), (1597, .iconst 0, 1598, 0, []), (1598, .ireturn, 1599, 0, []), (1599, .aload_n 1, 1600, 0, [1]), (1600, .aload_n 3, 1601, 0, [3]), (1601, .invokestatic 252, 1604, 0, [0, 54, 2]), (1604, .istore 6, 1606, 0, [6]), (1606, .aload_n 2, 1607, 0, [2]), (1607, .invokevirtual 254, 1610, 0, [6, 55, 1, 9]), (1610, .istore 7, 1612, 0, [7]), (1612, .aload_n 2, 1613, 0, [2]), (1613, .invokevirtual 168, 1616, 0, [6, 5, 1, 9]), (1616, .iload 6, 1618, 0, [6]), (1618, .if_icmp .eq 5, 1621, 0, [1623]), (1621, .iconst 0, 1622, 0, []), (1622, .ireturn, 1623, 0, []), (1623, .iload 6, 1625, 0, [6]), (1625, .ifCond .ne 15, 1628, 0, [1640]), (1628, .aload_n 3, 1629, 0, [3]), (1629, .iconst 0, 1630, 0, []), (1630, .laload, 1631, 0, []), (1631, .iload 7, 1633, 0, [7]), (1633, .i2l, 1634, 0, []), (1634, .lcmp, 1635, 0, []), (1635, .ifCond .eq 5, 1638, 0, [1640]), (1638, .iconst 0, 1639, 0, []), (1639, .ireturn, 1640, 0, []), (1640, .goto 1195, 1643, 0, [2835]), (1643, .aload_n 1, 1644, 0, [1]), (1644, .aload_n 0, 1645, 0, [0]), (1645, .iload 5, 1647, 0, [5]), (1647, .iconst 1, 1648, 1, []), (1648, .iadd, 1649, 0, []), (1649, .iaload, 1650, 0, []), (1650, .aload_n 3, 1651, 0, [3]), (1651, .invokestatic 255, 1654, 0, [0, 56, 3]), (1654, .istore 6, 1656, 0, [6]), (1656, .aload_n 2, 1657, 0, [2]), (1657, .aload_n 0, 1658, 0, [0]), (1658, .iload 5, 1660, 0, [5]), (1660, .iconst 1, 1661, 1, [])]
def cl_L_law_15 : List Row := [(1661, .iadd, 1662, 0, []), (1662, .iaload, 1663, 0, []), (1663, .invokevirtual 257, 1666, 0, [6, 57, 2, 9]), (1666, .istore 7, 1668, 0, [7]), (1668, .aload_n 2, 1669, 0, [2]), (1669, .invokevirtual 168, 1672, 0, [6, 5, 1, 9]), (1672, .iload 6, 1674, 0, [6]), (1674, .if_icmp .eq 5, 1677, 0, [1679]), (1677, .iconst 0, 1678, 0, []), (1678, .ireturn, 1679, 0, []), (1679, .iload 6, 1681, 0, [6]), (1681, .ifCond .ne 15, 1684, 0, [1696]), (1684, .aload_n 3, 1685, 0, [3]), (1685, .iconst 0, 1686, 0, []), (1686, .laload, 1687, 0, []), (1687, .iload 7, 1689, 0, [7]), (1689, .i2l, 1690, 0, []), (1690, .lcmp, 1691, 0, []), (1691, .ifCond .eq 5, 1694, 0, [1696]), (1694, .iconst 0, 1695, 0, []), (1695, .ireturn, 1696, 0, []), (1696, .goto 1139, 1699, 0, [2835]), (1699, .aload_n 1, 1700, 0, [1]), (1700, .aload_n 0, 1701, 0, [0]), (1701, .iload 5, 1703, 0, [5]), (1703, .iconst 1, 1704, 1, []), (1704, .iadd, 1705, 0, []), (1705, .iaload, 1706, 0, []), (1706, .aload_n 3, 1707, 0, [3]), (1707, .invokestatic 258, 1710, 0, [0, 58, 3]), (1710, .istore 6, 1712, 0, [6]), (1712, .aload_n 2, 1713, 0, [2]), (1713, .aload_n 0, 1714, 0, [0]), (1714, .iload 5, 1716, 0, [5]), (1716, .iconst 1, 1717, 1, []), (1717, .iadd, 1718, 0, []), (1718, .iaload, 1719, 0, []), (1719, .invokevirtual 260, 1722, 0, [6, 59, 2, 9]), (1722, .istore 7, 1724, 0, [7]), (1724, .aload_n 2, 1725, 0, [2]), (1725, .invokevirtual 168, 1728, 0, [6, 5, 1, 9]), (1728, .iload 6, 1730, 0, [6]), (1730, .if_icmp .eq 5, 1733, 0, [1735]), (1733, .iconst 0, 1734, 0, []), (1734, .ireturn, 1735, 0, []), (1735, .iload 6, 1737, 0, [6]), (1737, .ifCond .ne 15, 1740, 0, [1752]), (1740, .aload_n 3, 1741, 0, [3]), (1741, .iconst 0, 1742, 0, []), (1742, .laload, 1743, 0, []), (1743, .iload 7, 1745, 0, [7]), (1745, .i2l, 1746, 0, []), (1746, .lcmp, 1747, 0, []), (1747, .ifCond .eq 5, 1750, 0, [1752]), (1750, .iconst 0, 1751, 0, []), (1751, .ireturn, 1752, 0, []), (1752, .goto 1083, 1755, 0, [2835]), (1755, .aload_n 1, 1756, 0, [1]), (1756, .invokevirtual 261, 1759, 0, [6, 60, 1, 8]), (1759, .aload_n 2, 1760, 0, [2])]
def cl_L_law_16 : List Row := [(1760, .invokevirtual 264, 1763, 0, [6, 61, 1, 9]), (1763, .if_icmp .eq 1072, 1766, 0, [2835]), (1766, .iconst 0, 1767, 0, []), (1767, .ireturn, 1768, 0, []), (1768, .aload_n 1, 1769, 0, [1]), (1769, .invokevirtual 265, 1772, 0, [6, 62, 1, 8]), (1772, .aload_n 2, 1773, 0, [2]), (1773, .invokevirtual 268, 1776, 0, [6, 63, 1, 9]), (1776, .if_icmp .eq 1059, 1779, 0, [2835]), (1779, .iconst 0, 1780, 0, []), (1780, .ireturn, 1781, 0, []), (1781, .aload_n 1, 1782, 0, [1]), (1782, .invokevirtual 269, 1785, 0, [6, 64, 1, 8]), (1785, .aload_n 2, 1786, 0, [2]), (1786, .invokevirtual 272, 1789, 0, [6, 65, 1, 9]), (1789, .if_icmp .eq 1046, 1792, 0, [2835]), (1792, .iconst 0, 1793, 0, []), (1793, .ireturn, 1794, 0, []), (1794, .aload_n 1, 1795, 0, [1]), (1795, .aload_n 0, 1796, 0, [0]), (1796, .iload 5, 1798, 0, [5]), (1798, .iconst 1, 1799, 1, []), (1799, .iadd, 1800, 0, []), (1800, .iaload, 1801, 0, []), (1801, .aload_n 3, 1802, 0, [3]), (1802, .invokestatic 273, 1805, 0, [0, 66, 3]), (1805, .istore 6, 1807, 0, [6]), (1807, .aload_n 2, 1808, 0, [2]), (1808, .aload_n 0, 1809, 0, [0]), (1809, .iload 5, 1811, 0, [5]), (1811, .iconst 1, 1812, 1, []), (1812, .iadd, 1813, 0, []), (1813, .iaload, 1814, 0, []), (1814, .invokevirtual 275, 1817, 0, [6, 67, 2, 9]), (1817, .istore 7, 1819, 0, [7]), (1819, .aload_n 2, 1820, 0, [2]), (1820, .invokevirtual 168, 1823, 0, [6, 5, 1, 9]), (1823, .iload 6, 1825, 0, [6]), (1825, .if_icmp .eq 5, 1828, 0, [1830]), (1828, .iconst 0, 1829, 0, []), (1829, .ireturn, 1830, 0, []), (1830, .iload 6, 1832, 0, [6]), (1832, .ifCond .ne 15, 1835, 0, [1847]), (1835, .aload_n 3, 1836, 0, [3]), (1836, .iconst 0, 1837, 0, []), (1837, .laload, 1838, 0, []), (1838, .iload 7, 1840, 0, [7]), (1840, .i2l, 1841, 0, []), (1841, .lcmp, 1842, 0, []), (1842, .ifCond .eq 5, 1845, 0, [1847]), (1845, .iconst 0, 1846, 0, []), (1846, .ireturn, 1847, 0, []), (1847, .goto 988, 1850, 0, [2835]), (1850, .aload_n 1, 1851, 0, [1]), (1851, .aload_n 3, 1852, 0, [3]), (1852, .invokestatic 276, 1855, 0, [0, 68, 2]), (1855, .istore 6, 1857, 0, [6]), (1857, .aload_n 2, 1858, 0, [2]), (1858, .invokevirtual 278, 1861, 0, [6, 69, 1, 9]), (1861, .istore 7, 1863, 0, [7])]
def cl_L_law_17 : List Row := [(1863, .aload_n 2, 1864, 0, [2]), (1864, .invokevirtual 168, 1867, 0, [6, 5, 1, 9]), (1867, .iload 6, 1869, 0, [6]), (1869, .if_icmp .eq 5, 1872, 0, [1874]), (1872, .iconst 0, 1873, 0, []), (1873, .ireturn, 1874, 0, []), (1874, .iload 6, 1876, 0, [6]), (1876, .ifCond .ne 15, 1879, 0, [1891]), (1879, .aload_n 3, 1880, 0, [3]), (1880, .iconst 0, 1881, 0, []), (1881, .laload, 1882, 0, []), (1882, .iload 7, 1884, 0, [7]), (1884, .i2l, 1885, 0, []), (1885, .lcmp, 1886, 0, []), (1886, .ifCond .eq 5, 1889, 0, [1891]), (1889, .iconst 0, 1890, 0, []), (1890, .ireturn, 1891, 0, []), (1891, .goto 944, 1894, 0, [2835]), (1894, .aload_n 1, 1895, 0, [1]), (1895, .aload_n 0, 1896, 0, [0]), (1896, .iload 5, 1898, 0, [5]), (1898, .iconst 1, 1899, 1, []), (1899, .iadd, 1900, 0, []), (1900, .iaload, 1901, 0, []), (1901, .aload_n 0, 1902, 0, [0]), (1902, .iload 5, 1904, 0, [5]), (1904, .iconst 2, 1905, 2, []), (1905, .iadd, 1906, 0, []), (1906, .iaload, 1907, 0, []), (1907, .aload_n 0, 1908, 0, [0]), (1908, .iload 5, 1910, 0, [5]), (1910, .iconst 3, 1911, 3, []), (1911, .iadd, 1912, 0, []), (1912, .iaload, 1913, 0, []), (1913, .aload_n 0, 1914, 0, [0]), (1914, .iload 5, 1916, 0, [5]), (1916, .iconst 4, 1917, 4, []), (1917, .iadd, 1918, 0, []), (1918, .iaload, 1919, 0, []), (1919, .aload_n 3, 1920, 0, [3]), (1920, .invokestatic 279, 1923, 0, [0, 70, 6]), (1923, .istore 6, 1925, 0, [6]), (1925, .aload_n 2, 1926, 0, [2]), (1926, .aload_n 0, 1927, 0, [0]), (1927, .iload 5, 1929, 0, [5]), (1929, .iconst 1, 1930, 1, []), (1930, .iadd, 1931, 0, []), (1931, .iaload, 1932, 0, []), (1932, .aload_n 0, 1933, 0, [0]), (1933, .iload 5, 1935, 0, [5]), (1935, .iconst 2, 1936, 2, []), (1936, .iadd, 1937, 0, []), (1937, .iaload, 1938, 0, []), (1938, .aload_n 0, 1939, 0, [0]), (1939, .iload 5, 1941, 0, [5]), (1941, .iconst 3, 1942, 3, []), (1942, .iadd, 1943, 0, []), (1943, .iaload, 1944, 0, []), (1944, .aload_n 0, 1945, 0, [0]), (1945, .iload 5, 1947, 0, [5])]
def cl_L_law_18 : List Row := [(1947, .iconst 4, 1948, 4, []), (1948, .iadd, 1949, 0, []), (1949, .iaload, 1950, 0, []), (1950, .invokevirtual 282, 1953, 0, [6, 71, 5, 9]), (1953, .istore 7, 1955, 0, [7]), (1955, .aload_n 2, 1956, 0, [2]), (1956, .invokevirtual 168, 1959, 0, [6, 5, 1, 9]), (1959, .iload 6, 1961, 0, [6]), (1961, .if_icmp .eq 5, 1964, 0, [1966]), (1964, .iconst 0, 1965, 0, []), (1965, .ireturn, 1966, 0, []), (1966, .iload 6, 1968, 0, [6]), (1968, .ifCond .ne 22, 1971, 0, [1990]), (1971, .aload_n 3, 1972, 0, [3]), (1972, .iconst 0, 1973, 0, []), (1973, .laload, 1974, 0, []), (1974, .iload 7, 1976, 0, [7]), (1976, .ifCond .eq 7, 1979, 0, [1983]), (1979, .lconst 1, 1980, 0, []), (1980, .goto 4, 1983, 0, [1984]), (1983, .lconst 0, 1984, 0, []), (1984, .lcmp, 1985, 0, []), (1985, .ifCond .eq 5, 1988, 0, [1990]), (1988, .iconst 0, 1989, 0, []), (1989, .ireturn, 1990, 0, []), (1990, .goto 845, 1993, 0, [2835]), (1993, .aload_n 1, 1994, 0, [1]), (1994, .aload_n 0, 1995, 0, [0]), (1995, .iload 5, 1997, 0, [5]), (1997, .iconst 1, 1998, 1, []), (1998, .iadd, 1999, 0, []), (1999, .iaload, 2000, 0, []), (2000, .aload_n 3, 2001, 0, [3]), (2001, .invokestatic 283, 2004, 0, [0, 72, 3]), (2004, .istore 6, 2006, 0, [6]), (2006, .aload_n 2, 2007, 0, [2]), (2007, .aload_n 0, 2008, 0, [0]), (2008, .iload 5, 2010, 0, [5]), (2010, .iconst 1, 2011, 1, []), (2011, .iadd, 2012, 0, []), (2012, .iaload, 2013, 0, []), (2013, .invokevirtual 285, 2016, 0, [6, 73, 2, 9]), (2016, .istore 7, 2018, 0, [7]), (2018, .aload_n 2, 2019, 0, [2]), (2019, .invokevirtual 168, 2022, 0, [6, 5, 1, 9]), (2022, .iload 6, 2024, 0, [6]), (2024, .if_icmp .eq 5, 2027, 0, [2029]), (2027, .iconst 0, 2028, 0, []), (2028, .ireturn, 2029, 0, []), (2029, .iload 6, 2031, 0, [6]), (2031, .ifCond .ne 15, 2034, 0, [2046]), (2034, .aload_n 3, 2035, 0, [3]), (2035, .iconst 0, 2036, 0, []), (2036, .laload, 2037, 0, []), (2037, .iload 7, 2039, 0, [7]), (2039, .i2l, 2040, 0, []), (2040, .lcmp, 2041, 0, []), (2041, .ifCond .eq 5, 2044, 0, [2046]), (2044, .iconst 0, 2045, 0, []), (2045, .ireturn, 2046, 0, [])]
def cl_L_law_19 : List Row := [(2046, .goto 789, 2049, 0, [2835]), (2049, .aload_n 1, 2050, 0, [1]), (2050, .aload_n 0, 2051, 0, [0]), (2051, .iload 5, 2053, 0, [5]), (2053, .iconst 1, 2054, 1, []), (2054, .iadd, 2055, 0, []), (2055, .iaload, 2056, 0, []), (2056, .aload_n 3, 2057, 0, [3]), (2057, .invokestatic 286, 2060, 0, [0, 74, 3]), (2060, .istore 6, 2062, 0, [6]), (2062, .aload_n 2, 2063, 0, [2]), (2063, .aload_n 0, 2064, 0, [0]), (2064, .iload 5, 2066, 0, [5]), (2066, .iconst 1, 2067, 1, []), (2067, .iadd, 2068, 0, []), (2068, .iaload, 2069, 0, []), (2069, .invokevirtual 288, 2072, 0, [6, 75, 2, 9]), (2072, .istore 7, 2074, 0, [7]), (2074, .aload_n 2, 2075, 0, [2]), (2075, .invokevirtual 168, 2078, 0, [6, 5, 1, 9]), (2078, .iload 6, 2080, 0, [6]), (2080, .if_icmp .eq 5, 2083, 0, [2085]), (2083, .iconst 0, 2084, 0, []), (2084, .ireturn, 2085, 0, []), (2085, .iload 6, 2087, 0, [6]), (2087, .ifCond .ne 15, 2090, 0, [2102]), (2090, .aload_n 3, 2091, 0, [3]), (2091, .iconst 0, 2092, 0, []), (2092, .laload, 2093, 0, []), (2093, .iload 7, 2095, 0, [7]), (2095, .i2l, 2096, 0, []), (2096, .lcmp, 2097, 0, []), (2097, .ifCond .eq 5, 2100, 0, [2102]), (2100, .iconst 0, 2101, 0, []), (2101, .ireturn, 2102, 0, []), (2102, .goto 733, 2105, 0, [2835]), (2105, .aload_n 1, 2106, 0, [1]), (2106, .invokevirtual 289, 2109, 0, [6, 76, 1, 8]), (2109, .aload_n 2, 2110, 0, [2]), (2110, .invokevirtual 292, 2113, 0, [6, 77, 1, 9]), (2113, .if_icmp .eq 722, 2116, 0, [2835]), (2116, .iconst 0, 2117, 0, []), (2117, .ireturn, 2118, 0, []), (2118, .aload_n 1, 2119, 0, [1]), (2119, .invokevirtual 293, 2122, 0, [6, 78, 1, 8]), (2122, .aload_n 2, 2123, 0, [2]), (2123, .invokevirtual 296, 2126, 0, [6, 79, 1, 9]), (2126, .if_icmp .eq 709, 2129, 0, [2835]), (2129, .iconst 0, 2130, 0, []), (2130, .ireturn, 2131, 0, []), (2131, .aload_n 1, 2132, 0, [1]), (2132, .invokevirtual 297, 2135, 0, [6, 80, 1, 8]), (2135, .aload_n 2, 2136, 0, [2]), (2136, .invokevirtual 300, 2139, 0, [6, 81, 1, 9]), (2139, .if_icmp .eq 696, 2142, 0, [2835]), (2142, .iconst 0, 2143, 0, []), (2143, .ireturn, 2144, 0, []), (2144, .aload_n 1, 2145, 0, [1]), (2145, .aload 4, 2147, 0, [4]), (2147, .invokestatic 301, 2150, 0, [0, 82, 2])]
def cl_L_law_20 : List Row := [(2150, .istore 6, 2152, 0, [6]), (2152, .aload_n 2, 2153, 0, [2]), (2153, .invokevirtual 304, 2156, 0, [6, 83, 1, 9]), (2156, .dstore 7, 2158, 0, [7]), (2158, .aload_n 2, 2159, 0, [2]), (2159, .invokevirtual 168, 2162, 0, [6, 5, 1, 9]), (2162, .iload 6, 2164, 0, [6]), (2164, .if_icmp .eq 5, 2167, 0, [2169]), (2167, .iconst 0, 2168, 0, []), (2168, .ireturn, 2169, 0, []), (2169, .iload 6, 2171, 0, [6]), (2171, .ifCond .ne 35, 2174, 0, [2206]), (2174, .aload 4, 2176, 0, [4]), (2176, .iconst 0, 2177, 0, []), (2177, .daload, 2178, 0, []), (2178, .dload 7, 2180, 0, [7]), (2180, .dcmp .l, 2181, 0, []), (2181, .ifCond .eq 25, 2184, 0, [2206]), (2184, .aload 4, 2186, 0, [4]), (2186, .iconst 0, 2187, 0, []), (2187, .daload, 2188, 0, []), (2188, .aload 4, 2190, 0, [4]), (2190, .iconst 0, 2191, 0, []), (2191, .daload, 2192, 0, []), (2192, .dcmp .l, 2193, 0, []), (2193, .ifCond .eq 11, 2196, 0, [2204]), (2196, .dload 7, 2198, 0, [7]), (2198, .dload 7, 2200, 0, [7]), (2200, .dcmp .l, 2201, 0, []), (2201, .ifCond .ne 5, 2204, 0, [2206]), (2204, .iconst 0, 2205, 0, []), (2205, .ireturn, 2206, 0, []), (2206, .goto 629, 2209, 0, [2835]), (2209, .aload_n 1, 2210, 0, [1]), (2210, .aload 4, 2212, 0, [4]), (2212, .invokestatic 305, 2215, 0, [0, 84, 2]), (2215, .istore 6, 2217, 0, [6]), (2217, .aload_n 2, 2218, 0, [2]), (2218, .invokevirtual 307, 2221, 0, [6, 85, 1, 9]), (2221, .fstore 7, 2223, 0, [7]), (2223, .aload_n 2, 2224, 0, [2]), (2224, .invokevirtual 168, 2227, 0, [6, 5, 1, 9]), (2227, .iload 6, 2229, 0, [6]), (2229, .if_icmp .eq 5, 2232, 0, [2234]), (2232, .iconst 0, 2233, 0, []), (2233, .ireturn, 2234, 0, []), (2234, .iload 6, 2236, 0, [6]), (2236, .ifCond .ne 36, 2239, 0, [2272]), (2239, .aload 4, 2241, 0, [4]), (2241, .iconst 0, 2242, 0, []), (2242, .daload, 2243, 0, []), (2243, .fload 7, 2245, 0, [7]), (2245, .f2d, 2246, 0, []), (2246, .dcmp .l, 2247, 0, []), (2247, .ifCond .eq 25, 2250, 0, [2272]), (2250, .aload 4, 2252, 0, [4]), (2252, .iconst 0, 2253, 0, []), (2253, .daload, 2254, 0, []), (2254, .aload 4, 2256, 0, [4]), (2256, .iconst 0, 2257, 0, [])]
def cl_L_law_21 : List Row := [(2257, .daload, 2258, 0, []), (2258, .dcmp .l, 2259, 0, []), (2259, .ifCond .eq 11, 2262, 0, [2270]), (2262, .fload 7, 2264, 0, [7]), (2264, .fload 7, 2266, 0, [7]), (2266, .fcmp .l, 2267, 0, []), (2267, .ifCond .ne 5, 2270, 0, [2272]), (2270, .iconst 0, 2271, 0, []), (2271, .ireturn, 2272, 0, []), (2272, .goto 563, 2275, 0, [2835]), (2275, .aload_n 1, 2276, 0, [1]), (2276, .invokevirtual 308, 2279, 0, [6, 86, 1, 8]), (2279, .aload_n 2, 2280, 0, [2]), (2280, .invokevirtual 311, 2283, 0, [6, 87, 1, 9]), (2283, .if_icmp .eq 552, 2286, 0, [2835]), (2286, .iconst 0, 2287, 0, []), (2287, .ireturn, 2288, 0, []), (2288, .aload_n 1, 2289, 0, [1]), (2289, .aload_n 0, 2290, 0, [0]), (2290, .iload 5, 2292, 0, [5]), (2292, .iconst 1, 2293, 1, []), (2293, .iadd, 2294, 0, []), (2294, .iaload, 2295, 0, []), (2295, .aload_n 3, 2296, 0, [3]), (2296, .invokestatic 312, 2299, 0, [0, 88, 3]), (2299, .istore 6, 2301, 0, [6]), (2301, .aload_n 2, 2302, 0, [2]), (2302, .aload_n 0, 2303, 0, [0]), (2303, .iload 5, 2305, 0, [5]), (2305, .iconst 1, 2306, 1, []), (2306, .iadd, 2307, 0, []), (2307, .iaload, 2308, 0, []), (2308, .invokevirtual 314, 2311, 0, [6, 89, 2, 9]), (2311, .istore 7, 2313, 0, [7]), (2313, .aload_n 2, 2314, 0, [2]), (2314, .invokevirtual 168, 2317, 0, [6, 5, 1, 9]), (2317, .iload 6, 2319, 0, [6]), (2319, .if_icmp .eq 5, 2322, 0, [2324]), (2322, .iconst 0, 2323, 0, []), (2323, .ireturn, 2324, 0, []), (2324, .iload 6, 2326, 0, [6]), (2326, .ifCond .ne 15, 2329, 0, [2341]), (2329, .aload_n 3, 2330, 0, [3]), (2330, .iconst 0, 2331, 0, []), (2331, .laload, 2332, 0, []), (2332, .iload 7, 2334, 0, [7]), (2334, .i2l, 2335, 0, []), (2335, .lcmp, 2336, 0, []), (2336, .ifCond .eq 5, 2339, 0, [2341]), (2339, .iconst 0, 2340, 0, []), (2340, .ireturn, 2341, 0, []), (2341, .goto 494, 2344, 0, [2835]), (2344, .aload_n 1, 2345, 0, [1]), (2345, .aload_n 0, 2346, 0, [0]), (2346, .iload 5, 2348, 0, [5]), (2348, .iconst 1, 2349, 1, []), (2349, .iadd, 2350, 0, []), (2350, .iaload, 2351, 0, []), (2351, .aload_n 3, 2352, 0, [3]), (2352, .invokestatic 315, 2355, 0, [0, 90, 3])]
def cl_L_law_22 : List Row := [(2355, .istore 6, 2357, 0, [6]), (2357, .aload_n 2, 2358, 0, [2]), (2358, .aload_n 0, 2359, 0, [0]), (2359, .iload 5, 2361, 0, [5]), (2361, .iconst 1, 2362, 1, []), (2362, .iadd, 2363, 0, []), (2363, .iaload, 2364, 0, []), (2364, .invokevirtual 317, 2367, 0, [6, 91, 2, 9]), (2367, .istore 7, 2369, 0, [7]), (2369, .aload_n 2, 2370, 0, [2]), (2370, .invokevirtual 168, 2373, 0, [6, 5, 1, 9]), (2373, .iload 6, 2375, 0, [6]), (2375, .if_icmp .eq 5, 2378, 0, [2380]), (2378, .iconst 0, 2379, 0, []), (2379, .ireturn, 2380, 0, []), (2380, .iload 6, 2382, 0, [6]), (2382, .ifCond .ne 15, 2385, 0, [2397]), (2385, .aload_n 3, 2386, 0, [3]), (2386, .iconst 0, 2387, 0, []), (2387, .laload, 2388, 0, []), (2388, .iload 7, 2390, 0, [7]), (2390, .i2l, 2391, 0, []), (2391, .lcmp, 2392, 0, []), (2392, .ifCond .eq 5, 2395, 0, [2397]), (2395, .iconst 0, 2396, 0, []), (2396, .ireturn, 2397, 0, []), (2397, .goto 438, 2400, 0, [2835]), (2400, .aload_n 1, 2401, 0, [1]), (2401, .aload_n 0, 2402, 0, [0]), (2402, .iload 5, 2404, 0, [5]), (2404, .iconst 1, 2405, 1, []), (2405, .iadd, 2406, 0, []), (2406, .iaload, 2407, 0, []), (2407, .aload_n 3, 2408, 0, [3]), (2408, .invokestatic 318, 2411, 0, [0, 92, 3]), (2411, .istore 6, 2413, 0, [6]), (2413, .aload_n 2, 2414, 0, [2]), (2414, .aload_n 0, 2415, 0, [0]), (2415, .iload 5, 2417, 0, [5]), (2417, .iconst 1, 2418, 1, []), (2418, .iadd, 2419, 0, []), (2419, .iaload, 2420, 0, []), (2420, .invokevirtual 320, 2423, 0, [6, 93, 2, 9]), (2423, .istore 7, 2425, 0, [7]), (2425, .aload_n 2, 2426, 0, [2]), (2426, .invokevirtual 168, 2429, 0, [6, 5, 1, 9]), (2429, .iload 6, 2431, 0, [6]), (2431, .if_icmp .eq 5, 2434, 0, [2436]), (2434, .iconst 0, 2435, 0, []), (2435, .ireturn, 2436, 0, []), (2436, .iload 6, 2438, 0, [6]), (2438, .ifCond .ne 15, 2441, 0, [2453]), (2441, .aload_n 3, 2442, 0, [3]), (2442, .iconst 0, 2443, 0, []), (2443, .laload, 2444, 0, []), (2444, .iload 7, 2446, 0, [7]), (2446, .i2l, 2447, 0, []), (2447, .lcmp, 2448, 0, []), (2448, .ifCond .eq 5, 2451, 0, [2453]), (2451, .iconst 0, 2452, 0, [])]
def cl_L_law_23 : List Row := [(2452, .ireturn, 2453, 0, []), (2453, .goto 382, 2456, 0, [2835]), (2456, .aload_n 1, 2457, 0, [1]), (2457, .aload_n 0, 2458, 0, [0]), (2458, .iload 5, 2460, 0, [5]), (2460, .iconst 1, 2461, 1, []), (2461, .iadd, 2462, 0, []), (2462, .iaload, 2463, 0, []), (2463, .i2c, 2464, 0, []), (2464, .aload_n 3, 2465, 0, [3]), (2465, .invokestatic 321, 2468, 0, [0, 94, 3]), (2468, .istore 6, 2470, 0, [6]), (2470, .aload_n 2, 2471, 0, [2]), (2471, .aload_n 0, 2472, 0, [0]), (2472, .iload 5, 2474, 0, [5]), (2474, .iconst 1, 2475, 1, []), (2475, .iadd, 2476, 0, []), (2476, .iaload, 2477, 0, []), (2477, .i2c, 2478, 0, []), (2478, .invokevirtual 324, 2481, 0, [6, 95, 2, 9]), (2481, .istore 7, 2483, 0, [7]), (2483, .aload_n 2, 2484, 0, [2]), (2484, .invokevirtual 168, 2487, 0, [6, 5, 1, 9]), (2487, .iload 6, 2489, 0, [6]), (2489, .if_icmp .eq 5, 2492, 0, [2494]), (2492, .iconst 0, 2493, 0, []), (2493, .ireturn, 2494, 0, []), (2494, .iload 6, 2496, 0, [6]), (2496, .ifCond .ne 15, 2499, 0, [2511]), (2499, .aload_n 3, 2500, 0, [3]), (2500, .iconst 0, 2501, 0, []), (2501, .laload, 2502, 0, []), (2502, .iload 7, 2504, 0, [7]), (2504, .i2l, 2505, 0, []), (2505, .lcmp, 2506, 0, []), (2506, .ifCond .eq 5, 2509, 0, [2511]), (2509, .iconst 0, 2510, 0, []), (2510, .ireturn, 2511, 0, []), (2511, .goto 324, 2514, 0, [2835]), (2514, .aload_n 1, 2515, 0, [1]), (2515, .aload_n 3, 2516, 0, [3]), (2516, .invokestatic 325, 2519, 0, [0, 96, 2]), (2519, .istore 6, 2521, 0, [6]), (2521, .aload_n 2, 2522, 0, [2]), (2522, .invokevirtual 327, 2525, 0, [6, 97, 1, 9]), (2525, .istore 7, 2527, 0, [7]), (2527, .aload_n 2, 2528, 0, [2]), (2528, .invokevirtual 168, 2531, 0, [6, 5, 1, 9]), (2531, .iload 6, 2533, 0, [6]), (2533, .if_icmp .eq 5, 2536, 0, [2538]), (2536, .iconst 0, 2537, 0, []), (2537, .ireturn, 2538, 0, []), (2538, .iload 6, 2540, 0, [6]), (2540, .ifCond .ne 15, 2543, 0, [2555]), (2543, .aload_n 3, 2544, 0, [3]), (2544, .iconst 0, 2545, 0, []), (2545, .laload, 2546, 0, []), (2546, .iload 7, 2548, 0, [7]), (2548, .i2l, 2549, 0, []), (2549, .lcmp, 2550, 0, [])]
def cl_L_law_24 : List Row := [(2550, .ifCond .eq 5, 2553, 0, [2555]), (2553, .iconst 0, 2554, 0, []), (2554, .ireturn, 2555, 0, []), (2555, .goto 280, 2558, 0, [2835]), (2558, .aload_n 1, 2559, 0, [1]), (2559, .aload_n 3, 2560, 0, [3]), (2560, .invokestatic 328, 2563, 0, [0, 98, 2]), (2563, .istore 6, 2565, 0, [6]), (2565, .aload_n 2, 2566, 0, [2]), (2566, .invokevirtual 330, 2569, 0, [6, 99, 1, 9]), (2569, .istore 7, 2571, 0, [7]), (2571, .aload_n 2, 2572, 0, [2]), (2572, .invokevirtual 168, 2575, 0, [6, 5, 1, 9]), (2575, .iload 6, 2577, 0, [6]), (2577, .if_icmp .eq 5, 2580, 0, [2582]), (2580, .iconst 0, 2581, 0, []), (2581, .ireturn, 2582, 0, []), (2582, .iload 6, 2584, 0, [6]), (2584, .ifCond .ne 15, 2587, 0, [2599]), (2587, .aload_n 3, 2588, 0, [3]), (2588, .iconst 0, 2589, 0, []), (2589, .laload, 2590, 0, []), (2590, .iload 7, 2592, 0, [7]), (2592, .i2l, 2593, 0, []), (2593, .lcmp, 2594, 0, []), (2594, .ifCond .eq 5, 2597, 0, [2599]), (2597, .iconst 0, 2598, 0, []), (2598, .ireturn, 2599, 0, []), (2599, .goto 236, 2602, 0, [2835]), (2602, .aload_n 1, 2603, 0, [1]), (2603, .aload_n 3, 2604, 0, [3]), (2604, .invokestatic 331, 2607, 0, [0, 100, 2]), (2607, .istore 6, 2609, 0, [6]), (2609, .aload_n 2, 2610, 0, [2]), (2610, .invokevirtual 333, 2613, 0, [6, 101, 1, 9]), (2613, .istore 7, 2615, 0, [7]), (2615, .aload_n 2, 2616, 0, [2]), (2616, .invokevirtual 168, 2619, 0, [6, 5, 1, 9]), (2619, .iload 6, 2621, 0, [6]), (2621, .if_icmp .eq 5, 2624, 0, [2626]), (2624, .iconst 0, 2625, 0, []), (2625, .ireturn, 2626, 0, []), (2626, .iload 6, 2628, 0, [6]), (2628, .ifCond .ne 15, 2631, 0, [2643]), (2631, .aload_n 3, 2632, 0, [3]), (2632, .iconst 0, 2633, 0, []), (2633, .laload, 2634, 0, []), (2634, .iload 7, 2636, 0, [7]), (2636, .i2l, 2637, 0, []), (2637, .lcmp, 2638, 0, []), (2638, .ifCond .eq 5, 2641, 0, [2643]), (2641, .iconst 0, 2642, 0, []), (2642, .ireturn, 2643, 0, []), (2643, .goto 192, 2646, 0, [2835]), (2646, .aload_n 1, 2647, 0, [1]), (2647, .aload_n 3, 2648, 0, [3]), (2648, .invokestatic 334, 2651, 0, [0, 102, 2]), (2651, .istore 6, 2653, 0, [6]), (2653, .aload_n 2, 2654, 0, [2]), (2654, .invokevirtual 336, 2657, 0, [6, 103, 1, 9])]
def cl_L_law_25 : List Row := [(2657, .istore 7, 2659, 0, [7]), (2659, .aload_n 2, 2660, 0, [2]), (2660, .invokevirtual 168, 2663, 0, [6, 5, 1, 9]), (2663, .iload 6, 2665, 0, [6]), (2665, .if_icmp .eq 5, 2668, 0, [2670]), (2668, .iconst 0, 2669, 0, []), (2669, .ireturn, 2670, 0, []), (2670, .iload 6, 2672, 0, [6]), (2672, .ifCond .ne 15, 2675, 0, [2687]), (2675, .aload_n 3, 2676, 0, [3]), (2676, .iconst 0, 2677, 0, []), (2677, .laload, 2678, 0, []), (2678, .iload 7, 2680, 0, [7]), (2680, .i2l, 2681, 0, []), (2681, .lcmp, 2682, 0, []), (2682, .ifCond .eq 5, 2685, 0, [2687]), (2685, .iconst 0, 2686, 0, []), (2686, .ireturn, 2687, 0, []), (2687, .goto 148, 2690, 0, [2835]), (2690, .aload_n 1, 2691, 0, [1]), (2691, .aload_n 3, 2692, 0, [3]), (2692, .invokestatic 337, 2695, 0, [0, 104, 2]), (2695, .istore 6, 2697, 0, [6]), (2697, .aload_n 2, 2698, 0, [2]), (2698, .invokevirtual 339, 2701, 0, [6, 105, 1, 9]), (2701, .istore 7, 2703, 0, [7]), (2703, .aload_n 2, 2704, 0, [2]), (2704, .invokevirtual 168, 2707, 0, [6, 5, 1, 9]), (2707, .iload 6, 2709, 0, [6]), (2709, .if_icmp .eq 5, 2712, 0, [2714]), (2712, .iconst 0, 2713, 0, []), (2713, .ireturn, 2714, 0, []), (2714, .iload 6, 2716, 0, [6]), (2716, .ifCond .ne 15, 2719, 0, [2731]), (2719, .aload_n 3, 2720, 0, [3]), (2720, .iconst 0, 2721, 0, []), (2721, .laload, 2722, 0, []), (2722, .iload 7, 2724, 0, [7]), (2724, .i2l, 2725, 0, []), (2725, .lcmp, 2726, 0, []), (2726, .ifCond .eq 5, 2729, 0, [2731]), (2729, .iconst 0, 2730, 0, []), (2730, .ireturn, 2731, 0, []), (2731, .goto 104, 2734, 0, [2835]), (2734, .aload_n 1, 2735, 0, [1]), (2735, .aload_n 3, 2736, 0, [3]), (2736, .invokestatic 340, 2739, 0, [0, 106, 2]), (2739, .istore 6, 2741, 0, [6]), (2741, .aload_n 2, 2742, 0, [2]), (2742, .invokevirtual 342, 2745, 0, [6, 107, 1, 9]), (2745, .istore 7, 2747, 0, [7]), (2747, .aload_n 2, 2748, 0, [2]), (2748, .invokevirtual 168, 2751, 0, [6, 5, 1, 9]), (2751, .iload 6, 2753, 0, [6]), (2753, .if_icmp .eq 5, 2756, 0, [2758]), (2756, .iconst 0, 2757, 0, []), (2757, .ireturn, 2758, 0, []), (2758, .iload 6, 2760, 0, [6]), (2760, .ifCond .ne 15, 2763, 0, [2775]), (2763, .aload_n 3, 2764, 0, [3])]
def cl_L_law_26 : List Row := [(2764, .iconst 0, 2765, 0, []), (2765, .laload, 2766, 0, []), (2766, .iload 7, 2768, 0, [7]), (2768, .i2l, 2769, 0, []), (2769, .lcmp, 2770, 0, []), (2770, .ifCond .eq 5, 2773, 0, [2775]), (2773, .iconst 0, 2774, 0, []), (2774, .ireturn, 2775, 0, []), (2775, .goto 60, 2778, 0, [2835]), (2778, .aload_n 1, 2779, 0, [1]), (2779, .invokevirtual 343, 2782, 0, [6, 108, 1, 8]), (2782, .aload_n 2, 2783, 0, [2]), (2783, .invokevirtual 346, 2786, 0, [6, 109, 1, 9]), (2786, .if_icmp .eq 49, 2789, 0, [2835]), (2789, .iconst 0, 2790, 0, []), (2790, .ireturn, 2791, 0, []), (2791, .aload_n 1, 2792, 0, [1]), (2792, .aload_n 3, 2793, 0, [3]), (2793, .invokestatic 347, 2796, 0, [0, 110, 2]), (2796, .istore 6, 2798, 0, [6]), (2798, .aload_n 2, 2799, 0, [2]), (2799, .invokevirtual 349, 2802, 0, [6, 111, 1, 9]), (2802, .istore 7, 2804, 0, [7]), (2804, .aload_n 2, 2805, 0, [2]), (2805, .invokevirtual 168, 2808, 0, [6, 5, 1, 9]), (2808, .iload 6, 2810, 0, [6]), (2810, .if_icmp .eq 5, 2813, 0, [2815]), (2813, .iconst 0, 2814, 0, []), (2814, .ireturn, 2815, 0, []), (2815, .iload 6, 2817, 0, [6]), (2817, .ifCond .ne 15, 2820, 0, [2832]), (2820, .aload_n 3, 2821, 0, [3]), (2821, .iconst 0, 2822, 0, []), (2822, .laload, 2823, 0, []), (2823, .iload 7, 2825, 0, [7]), (2825, .i2l, 2826, 0, []), (2826, .lcmp, 2827, 0, []), (2827, .ifCond .eq 5, 2830, 0, [2832]), (2830, .iconst 0, 2831, 0, []), (2831, .ireturn, 2832, 0, []), (2832, .goto 3, 2835, 0, [2835]), (2835, .iinc 5 5, 2838, 5, [5]), (2838, .goto (-2810), 2841, 0, [28]), (2841, .iconst 1, 2842, 1, []), (2842, .ireturn, 2843, 0, [])]
def cl_L_law : List Row := cl_L_law_0 ++ cl_L_law_1 ++ cl_L_law_2 ++ cl_L_law_3 ++ cl_L_law_4 ++ cl_L_law_5 ++ cl_L_law_6 ++ cl_L_law_7 ++ cl_L_law_8 ++ cl_L_law_9 ++ cl_L_law_10 ++ cl_L_law_11 ++ cl_L_law_12 ++ cl_L_law_13 ++ cl_L_law_14 ++ cl_L_law_15 ++ cl_L_law_16 ++ cl_L_law_17 ++ cl_L_law_18 ++ cl_L_law_19 ++ cl_L_law_20 ++ cl_L_law_21 ++ cl_L_law_22 ++ cl_L_law_23 ++ cl_L_law_24 ++ cl_L_law_25 ++ cl_L_law_26
def md_L_law : MDT := (cl_L_law, 9, 5, [])
abbrev k_L_law : Nat := 0
def cl_X8_init : List Row := [(0, .aload_n 0, 1, 0, [0]), (1, .invokespecial 3, 4, 0, [1]), (4, .aload_n 0, 5, 0, [0]), (5, .new 9, 8, 0, [2, 6]), (8, .dup, 9, 0, []), (9, .invokespecial 11, 12, 0, [0, 112, 1]), (12, .putfield 12, 15, 0, [8, 0, 2]), (15, .aload_n 0, 16, 0, [0]), (16, .new 16, 19, 0, [3, 3]), (19, .dup, 20, 0, []), (20, .invokespecial 18, 23, 0, [0, 113, 1]), (23, .putfield 19, 26, 0, [8, 1, 2]), (26, .aload_n 0, 27, 0, [0]), (27, .new 9, 30, 0, [2, 6]), (30, .dup, 31, 0, []), (31, .invokespecial 11, 34, 0, [0, 112, 1]), (34, .putfield 23, 37, 0, [8, 2, 2]), (37, .aload_n 0, 38, 0, [0]), (38, .new 26, 41, 0, [0, 2]), (41, .dup, 42, 0, []), (42, .invokespecial 28, 45, 0, [0, 114, 1]), (45, .putfield 29, 48, 0, [8, 4, 2]), (48, .aload_n 0, 49, 0, [0]), (49, .new 33, 52, 0, [5, 3]), (52, .dup, 53, 0, []), (53, .invokespecial 35, 56, 0, [0, 115, 1]), (56, .putfield 36, 59, 0, [8, 5, 2]), (59, .aload_n 0, 60, 0, [0]), (60, .new 40, 63, 0, [4, 2]), (63, .dup, 64, 0, []), (64, .invokespecial 42, 67, 0, [0, 116, 1]), (67, .putfield 43, 70, 0, [8, 6, 2]), (70, .aload_n 0, 71, 0, [0]), (71, .new 47, 74, 0, [6, 3]), (74, .dup, 75, 0, []), (75, .invokespecial 49, 78, 0, [0, 117, 1]), (78, .putfield 50, 81, 0, [8, 7, 2]), (81, .aload_n 0, 82, 0, [0]), (82, .new 54, 85, 0, [10, 4]), (85, .dup, 86, 0, []), (86, .invokespecial 56, 89, 0, [0, 118, 1]), (89, .putfield 57, 92, 0, [8, 8, 2]), (92, .aload_n 0, 93, 0, [0]), (93, .new 61, 96, 0, [7, 6]), (96, .dup, 97, 0, []), (97, .invokespecial 63, 100, 0, [0, 119, 1]), (100, .putfield 64, 103, 0, [8, 9, 2]), (103, .aload_n 0, 104, 0, [0]), (104, .iconst (-1), 105, (-1), []), (105, .putfield 68, 108, 0, [8, 10, 0]), (108, .return_, 109, 0, [])]
def md_X8_init : MDT := (cl_X8_init, 1, 0, [])
abbrev k_X8_init : Nat := 1
def cl_X9_init : List Row := [(0, .aload_n 0, 1, 0, [0]), (1, .invokespecial 3, 4, 0, [1]), (4, .aload_n 0, 5, 0, [0]), (5, .sipush 948, 8, 948, []), (8, .newarray .int, 10, 0, [1]), (10, .putfield 9, 13, 0, [9, 1, 2]), (13, .aload_n 0, 14, 0, [0]), (14, .bipush 54, 16, 54, []), (16, .newarray .long, 18, 0, [2]), (18, .putfield 13, 21, 0, [9, 12, 2]), (21, .aload_n 0, 22, 0, [0]), (22, .bipush 40, 24, 40, []), (24, .newarray .char, 26, 0, [3]), (26, .putfield 17, 29, 0, [9, 13, 2]), (29, .aload_n 0, 30, 0, [0]), (30, .bipush 60, 32, 60, []), (32, .newarray .char, 34, 0, [3]), (34, .putfield 21, 37, 0, [9, 15, 2]), (37, .aload_n 0, 38, 0, [0]), (38, .iconst (-1), 39, (-1), []), (39, .putfield 24, 42, 0, [9, 19, 0]), (42, .aload_n 0, 43, 0, [0]), (43, .sipush 244, 46, 244, []), (46, .newarray .int, 48, 0, [1]), (48, .putfield 28, 51, 0, [9, 20, 2]), (51, .return_, 52, 0, [])]
def md_X9_init : MDT := (cl_X9_init, 1, 0, [])
abbrev k_X9_init : Nat := 2
def cl_L_addDoor : List Row := [(0, .aload_n 3, 1, 0, [3]), (1, .iconst 0, 2, 0, []), (2, .aload_n 0, 3, 0, [0]), (3, .iload_n 1, 4, 0, [1]), (4, .iload_n 2, 5, 0, [2]), (5, .invokevirtual 7, 8, 0, [6, 120, 3, 8]), (8, .i2l, 9, 0, []), (9, .lastore, 10, 0, []), (10, .goto 11, 13, 0, [21]), (13, .astore 4, 15, 0, [4]), (15, .iconst 1, 16, 1, []), (16, .ireturn, 17, 0, []), (17, .astore 4, 19, 0, [4]), (19, .iconst 2, 20, 2, []), (20, .ireturn, 21, 0, []), (21, .iconst 0, 22, 0, []), (22, .ireturn, 23, 0, [])]
def md_L_addDoor : MDT := (cl_L_addDoor, 5, 0, [(0, 10, 13, 0), (0, 10, 17, 1)])
abbrev k_L_addDoor : Nat := 3
def cl_X9_addDoor : List Row := [(0, .aload_n 0, 1, 0, [0]), (1, .invokevirtual 116, 4, 0, [6, 121, 1, 9]), (4, .aload_n 0, 5, 0, [0]), (5, .aload_n 0, 6, 0, [0]), (6, .iload_n 1, 7, 0, [1]), (7, .iload_n 2, 8, 0, [2]), (8, .invokevirtual 119, 11, 0, [6, 122, 3, 9]), (11, .iconst 0, 12, 0, []), (12, .iconst 1, 13, 1, []), (13, .iconst 2, 14, 2, []), (14, .iconst 0, 15, 0, []), (15, .invokevirtual 122, 18, 0, [6, 123, 6, 9]), (18, .ireturn, 19, 0, [])]
def md_X9_addDoor : MDT := (cl_X9_addDoor, 3, 0, [])
abbrev k_X9_addDoor : Nat := 4
def cl_X9_thrown : List Row := [(0, .aload_n 0, 1, 0, [0]), (1, .getfield 31, 4, 0, [9, 0, 0]), (4, .ireturn, 5, 0, [])]
def md_X9_thrown : MDT := (cl_X9_thrown, 1, 0, [])
abbrev k_X9_thrown : Nat := 5
def cl_L_setFrame : List Row := [(0, .aload 4, 2, 0, [4]), (2, .iconst 0, 3, 0, []), (3, .aload_n 0, 4, 0, [0]), (4, .iload_n 1, 5, 0, [1]), (5, .iload_n 2, 6, 0, [2]), (6, .iload_n 3, 7, 0, [3]), (7, .invokevirtual 17, 10, 0, [6, 124, 4, 8]), (10, .i2l, 11, 0, []), (11, .lastore, 12, 0, []), (12, .goto 11, 15, 0, [23]), (15, .astore 5, 17, 0, [5]), (17, .iconst 1, 18, 1, []), (18, .ireturn, 19, 0, []), (19, .astore 5, 21, 0, [5]), (21, .iconst 2, 22, 2, []), (22, .ireturn, 23, 0, []), (23, .iconst 0, 24, 0, []), (24, .ireturn, 25, 0, [])]
def md_L_setFrame : MDT := (cl_L_setFrame, 6, 0, [(0, 12, 15, 2), (0, 12, 19, 0)])
abbrev k_L_setFrame : Nat := 6
def cl_X9_setFrame : List Row := [(0, .aload_n 0, 1, 0, [0]), (1, .invokevirtual 116, 4, 0, [6, 121, 1, 9]), (4, .aload_n 0, 5, 0, [0]), (5, .aload_n 0, 6, 0, [0]), (6, .iload_n 1, 7, 0, [1]), (7, .iload_n 2, 8, 0, [2]), (8, .iload_n 3, 9, 0, [3]), (9, .invokevirtual 136, 12, 0, [6, 125, 4, 9]), (12, .iconst 1, 13, 1, []), (13, .iconst 2, 14, 2, []), (14, .iconst 0, 15, 0, []), (15, .iconst 0, 16, 0, []), (16, .invokevirtual 122, 19, 0, [6, 123, 6, 9]), (19, .ireturn, 20, 0, [])]
def md_X9_setFrame : MDT := (cl_X9_setFrame, 4, 0, [])
abbrev k_X9_setFrame : Nat := 7
def cl_L_narrow : List Row := [(0, .aload 4, 2, 0, [4]), (2, .iconst 0, 3, 0, []), (3, .aload_n 0, 4, 0, [0]), (4, .iload_n 1, 5, 0, [1]), (5, .iload_n 2, 6, 0, [2]), (6, .iload_n 3, 7, 0, [3]), (7, .invokevirtual 23, 10, 0, [6, 126, 4, 8]), (10, .i2l, 11, 0, []), (11, .lastore, 12, 0, []), (12, .goto 15, 15, 0, [27]), (15, .astore 5, 17, 0, [5]), (17, .iconst 1, 18, 1, []), (18, .ireturn, 19, 0, []), (19, .astore 5, 21, 0, [5]), (21, .iconst 2, 22, 2, []), (22, .ireturn, 23, 0, []), (23, .astore 5, 25, 0, [5]), (25, .iconst 3, 26, 3, []), (26, .ireturn, 27, 0, []), (27, .iconst 0, 28, 0, []), (28, .ireturn, 29, 0, [])]
def md_L_narrow : MDT := (cl_L_narrow, 6, 0, [(0, 12, 15, 2), (0, 12, 19, 0), (0, 12, 23, 1)])
abbrev k_L_narrow : Nat := 8
def cl_X9_narrow : List Row := [(0, .aload_n 0, 1, 0, [0]), (1, .invokevirtual 116, 4, 0, [6, 121, 1, 9]), (4, .aload_n 0, 5, 0, [0]), (5, .aload_n 0, 6, 0, [0]), (6, .iload_n 1, 7, 0, [1]), (7, .iload_n 2, 8, 0, [2]), (8, .iload_n 3, 9, 0, [3]), (9, .invokevirtual 140, 12, 0, [6, 127, 4, 9]), (12, .iconst 1, 13, 1, []), (13, .iconst 2, 14, 2, []), (14, .iconst 3, 15, 3, []), (15, .iconst 0, 16, 0, []), (16, .invokevirtual 122, 19, 0, [6, 123, 6, 9]), (19, .ireturn, 20, 0, [])]
def md_X9_narrow : MDT := (cl_X9_narrow, 4, 0, [])
abbrev k_X9_narrow : Nat := 9
def cl_X8_reset : List Row := [(0, .aload_n 0, 1, 0, [0]), (1, .getfield 19, 4, 0, [8, 1, 2]), (4, .aload_n 0, 5, 0, [0]), (5, .getfield 12, 8, 0, [8, 0, 2]), (8, .invokevirtual 76, 11, 0, [6, 128, 2, 3]), (11, .aload_n 0, 12, 0, [0]), (12, .getfield 12, 15, 0, [8, 0, 2]), (15, .invokevirtual 107, 18, 0, [6, 129, 1, 2]), (18, .istore_n 1, 19, 0, [1]), (19, .aload_n 0, 20, 0, [0]), (20, .getfield 19, 23, 0, [8, 1, 2]), (23, .invokevirtual 91, 26, 0, [6, 130, 1, 3]), (26, .iload_n 1, 27, 0, [1]), (27, .ireturn, 28, 0, [])]
def md_X8_reset : MDT := (cl_X8_reset, 2, 0, [])
abbrev k_X8_reset : Nat := 10
def cl_X9_reset : List Row := [(0, .aload_n 0, 1, 0, [0]), (1, .invokevirtual 116, 4, 0, [6, 121, 1, 9]), (4, .aload_n 0, 5, 0, [0]), (5, .aload_n 0, 6, 0, [0]), (6, .invokevirtual 143, 9, 0, [6, 131, 1, 9]), (9, .iconst 0, 10, 0, []), (10, .iconst 0, 11, 0, []), (11, .iconst 0, 12, 0, []), (12, .iconst 0, 13, 0, []), (13, .invokevirtual 122, 16, 0, [6, 123, 6, 9]), (16, .ireturn, 17, 0, [])]
def md_X9_reset : MDT := (cl_X9_reset, 1, 0, [])
abbrev k_X9_reset : Nat := 11
def cl_X8_doorCount : List Row := [(0, .aload_n 0, 1, 0, [0]), (1, .getfield 12, 4, 0, [8, 0, 2]), (4, .getfield 111, 7, 0, [2, 0, 0]), (7, .ireturn, 8, 0, [])]
def md_X8_doorCount : MDT := (cl_X8_doorCount, 1, 0, [])
abbrev k_X8_doorCount : Nat := 12
def cl_X9_doorCount : List Row := [(0, .aload_n 0, 1, 0, [0]), (1, .iconst 0, 2, 0, []), (2, .invokevirtual 168, 5, 0, [6, 132, 2, 9]), (5, .ireturn, 6, 0, [])]
def md_X9_doorCount : MDT := (cl_X9_doorCount, 1, 0, [])
abbrev k_X9_doorCount : Nat := 13
def cl_L_lowOf : List Row := [(0, .aload_n 2, 1, 0, [2]), (1, .iconst 0, 2, 0, []), (2, .aload_n 0, 3, 0, [0]), (3, .iload_n 1, 4, 0, [1]), (4, .invokevirtual 26, 7, 0, [6, 133, 2, 8]), (7, .i2l, 8, 0, []), (8, .lastore, 9, 0, []), (9, .goto 6, 12, 0, [15]), (12, .astore_n 3, 13, 0, [3]), (13, .iconst 1, 14, 1, []), (14, .ireturn, 15, 0, []), (15, .iconst 0, 16, 0, []), (16, .ireturn, 17, 0, [])]
def md_L_lowOf : MDT := (cl_L_lowOf, 4, 0, [(0, 9, 12, 2)])
abbrev k_L_lowOf : Nat := 14
def cl_X9_lowOf : List Row := [(0, .aload_n 0, 1, 0, [0]), (1, .iload_n 1, 2, 0, [1]), (2, .iconst 2, 3, 2, []), (3, .invokevirtual 175, 6, 0, [6, 134, 3, 9]), (6, .ireturn, 7, 0, [])]
def md_X9_lowOf : MDT := (cl_X9_lowOf, 2, 0, [])
abbrev k_X9_lowOf : Nat := 15
def cl_L_highOf : List Row := [(0, .aload_n 2, 1, 0, [2]), (1, .iconst 0, 2, 0, []), (2, .aload_n 0, 3, 0, [0]), (3, .iload_n 1, 4, 0, [1]), (4, .invokevirtual 30, 7, 0, [6, 135, 2, 8]), (7, .i2l, 8, 0, []), (8, .lastore, 9, 0, []), (9, .goto 6, 12, 0, [15]), (12, .astore_n 3, 13, 0, [3]), (13, .iconst 1, 14, 1, []), (14, .ireturn, 15, 0, []), (15, .iconst 0, 16, 0, []), (16, .ireturn, 17, 0, [])]
def md_L_highOf : MDT := (cl_L_highOf, 4, 0, [(0, 9, 12, 2)])
abbrev k_L_highOf : Nat := 16
def cl_X9_highOf : List Row := [(0, .aload_n 0, 1, 0, [0]), (1, .iload_n 1, 2, 0, [1]), (2, .iconst 3, 3, 3, []), (3, .invokevirtual 175, 6, 0, [6, 134, 3, 9]), (6, .ireturn, 7, 0, [])]
def md_X9_highOf : MDT := (cl_X9_highOf, 2, 0, [])
abbrev k_X9_highOf : Nat := 17
def cl_L_frameLow : List Row := [(0, .aload_n 2, 1, 0, [2]), (1, .iconst 0, 2, 0, []), (2, .aload_n 0, 3, 0, [0]), (3, .iload_n 1, 4, 0, [1]), (4, .invokevirtual 33, 7, 0, [6, 136, 2, 8]), (7, .i2l, 8, 0, []), (8, .lastore, 9, 0, []), (9, .goto 6, 12, 0, [15]), (12, .astore_n 3, 13, 0, [3]), (13, .iconst 1, 14, 1, []), (14, .ireturn, 15, 0, []), (15, .iconst 0, 16, 0, []), (16, .ireturn, 17, 0, [])]
def md_L_frameLow : MDT := (cl_L_frameLow, 4, 0, [(0, 9, 12, 2)])
abbrev k_L_frameLow : Nat := 18
def cl_X9_frameLow : List Row := [(0, .aload_n 0, 1, 0, [0]), (1, .iload_n 1, 2, 0, [1]), (2, .iconst 0, 3, 0, []), (3, .invokevirtual 175, 6, 0, [6, 134, 3, 9]), (6, .ireturn, 7, 0, [])]
def md_X9_frameLow : MDT := (cl_X9_frameLow, 2, 0, [])
abbrev k_X9_frameLow : Nat := 19
def cl_L_frameHigh : List Row := [(0, .aload_n 2, 1, 0, [2]), (1, .iconst 0, 2, 0, []), (2, .aload_n 0, 3, 0, [0]), (3, .iload_n 1, 4, 0, [1]), (4, .invokevirtual 36, 7, 0, [6, 137, 2, 8]), (7, .i2l, 8, 0, []), (8, .lastore, 9, 0, []), (9, .goto 6, 12, 0, [15]), (12, .astore_n 3, 13, 0, [3]), (13, .iconst 1, 14, 1, []), (14, .ireturn, 15, 0, []), (15, .iconst 0, 16, 0, []), (16, .ireturn, 17, 0, [])]
def md_L_frameHigh : MDT := (cl_L_frameHigh, 4, 0, [(0, 9, 12, 2)])
abbrev k_L_frameHigh : Nat := 20
def cl_X9_frameHigh : List Row := [(0, .aload_n 0, 1, 0, [0]), (1, .iload_n 1, 2, 0, [1]), (2, .iconst 1, 3, 1, []), (3, .invokevirtual 175, 6, 0, [6, 134, 3, 9]), (6, .ireturn, 7, 0, [])]
def md_X9_frameHigh : MDT := (cl_X9_frameHigh, 2, 0, [])
abbrev k_X9_frameHigh : Nat := 21
def cl_L_widthOf : List Row := [(0, .aload_n 2, 1, 0, [2]), (1, .iconst 0, 2, 0, []), (2, .aload_n 0, 3, 0, [0]), (3, .iload_n 1, 4, 0, [1]), (4, .invokevirtual 39, 7, 0, [6, 138, 2, 8]), (7, .i2l, 8, 0, []), (8, .lastore, 9, 0, []), (9, .goto 6, 12, 0, [15]), (12, .astore_n 3, 13, 0, [3]), (13, .iconst 1, 14, 1, []), (14, .ireturn, 15, 0, []), (15, .iconst 0, 16, 0, []), (16, .ireturn, 17, 0, [])]
def md_L_widthOf : MDT := (cl_L_widthOf, 4, 0, [(0, 9, 12, 2)])
abbrev k_L_widthOf : Nat := 22
def cl_X9_widthOf : List Row := [(0, .aload_n 0, 1, 0, [0]), (1, .aload_n 0, 2, 0, [0]), (2, .iload_n 1, 3, 0, [1]), (3, .invokevirtual 126, 6, 0, [6, 139, 2, 9]), (6, .invokevirtual 171, 9, 0, [6, 140, 2, 9]), (9, .ifCond .eq 11, 12, 0, [20]), (12, .aload_n 0, 13, 0, [0]), (13, .iload_n 1, 14, 0, [1]), (14, .invokevirtual 178, 17, 0, [6, 141, 2, 9]), (17, .goto 4, 20, 0, [21]), (20, .iconst 0, 21, 0, []), (21, .ireturn, 22, 0, [])]
def md_X9_widthOf : MDT := (cl_X9_widthOf, 2, 0, [])
abbrev k_X9_widthOf : Nat := 23
def cl_L_isFixed : List Row := [(0, .aload_n 2, 1, 0, [2]), (1, .iconst 0, 2, 0, []), (2, .aload_n 0, 3, 0, [0]), (3, .iload_n 1, 4, 0, [1]), (4, .invokevirtual 42, 7, 0, [6, 142, 2, 8]), (7, .ifCond .eq 7, 10, 0, [14]), (10, .lconst 1, 11, 0, []), (11, .goto 4, 14, 0, [15]), (14, .lconst 0, 15, 0, []), (15, .lastore, 16, 0, []), (16, .goto 6, 19, 0, [22]), (19, .astore_n 3, 20, 0, [3]), (20, .iconst 1, 21, 1, []), (21, .ireturn, 22, 0, []), (22, .iconst 0, 23, 0, []), (23, .ireturn, 24, 0, [])]
def md_L_isFixed : MDT := (cl_L_isFixed, 4, 0, [(0, 16, 19, 2)])
abbrev k_L_isFixed : Nat := 24
def cl_X9_isFixed : List Row := [(0, .aload_n 0, 1, 0, [0]), (1, .aload_n 0, 2, 0, [0]), (2, .iload_n 1, 3, 0, [1]), (3, .invokevirtual 126, 6, 0, [6, 139, 2, 9]), (6, .invokevirtual 171, 9, 0, [6, 140, 2, 9]), (9, .ifCond .eq 16, 12, 0, [25]), (12, .aload_n 0, 13, 0, [0]), (13, .iload_n 1, 14, 0, [1]), (14, .invokevirtual 178, 17, 0, [6, 141, 2, 9]), (17, .iconst 1, 18, 1, []), (18, .if_icmp .ne 7, 21, 0, [25]), (21, .iconst 1, 22, 1, []), (22, .goto 4, 25, 0, [26]), (25, .iconst 0, 26, 0, []), (26, .ireturn, 27, 0, [])]
def md_X9_isFixed : MDT := (cl_X9_isFixed, 2, 5, [])
abbrev k_X9_isFixed : Nat := 25
def cl_L_constraintsOf : List Row := [(0, .aload_n 2, 1, 0, [2]), (1, .iconst 0, 2, 0, []), (2, .aload_n 0, 3, 0, [0]), (3, .iload_n 1, 4, 0, [1]), (4, .invokevirtual 46, 7, 0, [6, 143, 2, 8]), (7, .i2l, 8, 0, []), (8, .lastore, 9, 0, []), (9, .goto 6, 12, 0, [15]), (12, .astore_n 3, 13, 0, [3]), (13, .iconst 1, 14, 1, []), (14, .ireturn, 15, 0, []), (15, .iconst 0, 16, 0, []), (16, .ireturn, 17, 0, [])]
def md_L_constraintsOf : MDT := (cl_L_constraintsOf, 4, 0, [(0, 9, 12, 2)])
abbrev k_L_constraintsOf : Nat := 26
def cl_X9_constraintsOf : List Row := [(0, .aload_n 0, 1, 0, [0]), (1, .aload_n 0, 2, 0, [0]), (2, .iload_n 1, 3, 0, [1]), (3, .invokevirtual 126, 6, 0, [6, 139, 2, 9]), (6, .invokevirtual 171, 9, 0, [6, 140, 2, 9]), (9, .ifCond .eq 11, 12, 0, [20]), (12, .aload_n 0, 13, 0, [0]), (13, .iload_n 1, 14, 0, [1]), (14, .invokevirtual 181, 17, 0, [6, 144, 2, 9]), (17, .goto 4, 20, 0, [21]), (20, .iconst 0, 21, 0, []), (21, .ireturn, 22, 0, [])]
def md_X9_constraintsOf : MDT := (cl_X9_constraintsOf, 2, 0, [])
abbrev k_X9_constraintsOf : Nat := 27
def cl_L_addConstraint : List Row := [(0, .aload 5, 2, 0, [5]), (2, .iconst 0, 3, 0, []), (3, .aload_n 0, 4, 0, [0]), (4, .iload_n 1, 5, 0, [1]), (5, .iload_n 2, 6, 0, [2]), (6, .iload_n 3, 7, 0, [3]), (7, .iload 4, 9, 0, [4]), (9, .invokevirtual 49, 12, 0, [6, 145, 5, 8]), (12, .i2l, 13, 0, []), (13, .lastore, 14, 0, []), (14, .goto 15, 17, 0, [29]), (17, .astore 6, 19, 0, [6]), (19, .iconst 1, 20, 1, []), (20, .ireturn, 21, 0, []), (21, .astore 6, 23, 0, [6]), (23, .iconst 2, 24, 2, []), (24, .ireturn, 25, 0, []), (25, .astore 6, 27, 0, [6]), (27, .iconst 3, 28, 3, []), (28, .ireturn, 29, 0, []), (29, .iconst 0, 30, 0, []), (30, .ireturn, 31, 0, [])]
def md_L_addConstraint : MDT := (cl_L_addConstraint, 7, 0, [(0, 14, 17, 2), (0, 14, 21, 0), (0, 14, 25, 1)])
abbrev k_L_addConstraint : Nat := 28
def cl_X9_addConstraint : List Row := [(0, .aload_n 0, 1, 0, [0]), (1, .invokevirtual 116, 4, 0, [6, 121, 1, 9]), (4, .aload_n 0, 5, 0, [0]), (5, .aload_n 0, 6, 0, [0]), (6, .iload_n 1, 7, 0, [1]), (7, .iload_n 2, 8, 0, [2]), (8, .iload_n 3, 9, 0, [3]), (9, .iload 4, 11, 0, [4]), (11, .invokevirtual 149, 14, 0, [6, 146, 5, 9]), (14, .iconst 1, 15, 1, []), (15, .iconst 2, 16, 2, []), (16, .iconst 3, 17, 3, []), (17, .iconst 0, 18, 0, []), (18, .invokevirtual 122, 21, 0, [6, 123, 6, 9]), (21, .ireturn, 22, 0, [])]
def md_X9_addConstraint : MDT := (cl_X9_addConstraint, 5, 0, [])
abbrev k_X9_addConstraint : Nat := 29
def cl_L_removeConstraint : List Row := [(0, .aload_n 2, 1, 0, [2]), (1, .iconst 0, 2, 0, []), (2, .aload_n 0, 3, 0, [0]), (3, .iload_n 1, 4, 0, [1]), (4, .invokevirtual 53, 7, 0, [6, 147, 2, 8]), (7, .i2l, 8, 0, []), (8, .lastore, 9, 0, []), (9, .goto 6, 12, 0, [15]), (12, .astore_n 3, 13, 0, [3]), (13, .iconst 1, 14, 1, []), (14, .ireturn, 15, 0, []), (15, .iconst 0, 16, 0, []), (16, .ireturn, 17, 0, [])]
def md_L_removeConstraint : MDT := (cl_L_removeConstraint, 4, 0, [(0, 9, 12, 3)])
abbrev k_L_removeConstraint : Nat := 30
def cl_X9_removeConstraint : List Row := [(0, .aload_n 0, 1, 0, [0]), (1, .invokevirtual 116, 4, 0, [6, 121, 1, 9]), (4, .aload_n 0, 5, 0, [0]), (5, .aload_n 0, 6, 0, [0]), (6, .iload_n 1, 7, 0, [1]), (7, .invokevirtual 156, 10, 0, [6, 148, 2, 9]), (10, .iconst 0, 11, 0, []), (11, .iconst 0, 12, 0, []), (12, .iconst 0, 13, 0, []), (13, .iconst 1, 14, 1, []), (14, .invokevirtual 122, 17, 0, [6, 123, 6, 9]), (17, .ireturn, 18, 0, [])]
def md_X9_removeConstraint : MDT := (cl_X9_removeConstraint, 2, 0, [])
abbrev k_X9_removeConstraint : Nat := 31
def cl_X8_constraintCount : List Row := [(0, .aload_n 0, 1, 0, [0]), (1, .getfield 12, 4, 0, [8, 0, 2]), (4, .getfield 135, 7, 0, [2, 3, 2]), (7, .getfield 165, 10, 0, [1, 0, 0]), (10, .ireturn, 11, 0, [])]
def md_X8_constraintCount : MDT := (cl_X8_constraintCount, 1, 0, [])
abbrev k_X8_constraintCount : Nat := 32
def cl_X9_constraintCount : List Row := [(0, .aload_n 0, 1, 0, [0]), (1, .iconst 1, 2, 1, []), (2, .invokevirtual 168, 5, 0, [6, 132, 2, 9]), (5, .ireturn, 6, 0, [])]
def md_X9_constraintCount : MDT := (cl_X9_constraintCount, 1, 0, [])
abbrev k_X9_constraintCount : Nat := 33
def cl_L_constraintAt : List Row := [(0, .aload_n 2, 1, 0, [2]), (1, .iconst 0, 2, 0, []), (2, .aload_n 0, 3, 0, [0]), (3, .iload_n 1, 4, 0, [1]), (4, .invokevirtual 58, 7, 0, [6, 149, 2, 8]), (7, .i2l, 8, 0, []), (8, .lastore, 9, 0, []), (9, .goto 6, 12, 0, [15]), (12, .astore_n 3, 13, 0, [3]), (13, .iconst 1, 14, 1, []), (14, .ireturn, 15, 0, []), (15, .iconst 0, 16, 0, []), (16, .ireturn, 17, 0, [])]
def md_L_constraintAt : MDT := (cl_L_constraintAt, 4, 0, [(0, 9, 12, 3)])
abbrev k_L_constraintAt : Nat := 34
def cl_X9_constraintAt : List Row := [(0, .aload_n 0, 1, 0, [0]), (1, .iload_n 1, 2, 0, [1]), (2, .iconst 0, 3, 0, []), (3, .aload_n 0, 4, 0, [0]), (4, .getfield 9, 7, 0, [9, 1, 2]), (7, .iconst 1, 8, 1, []), (8, .iaload, 9, 0, []), (9, .iconst 1, 10, 1, []), (10, .isub, 11, 0, []), (11, .invokestatic 60, 14, 0, [0, 150, 3]), (14, .invokevirtual 171, 17, 0, [6, 140, 2, 9]), (17, .ifCond .eq 12, 20, 0, [29]), (20, .aload_n 0, 21, 0, [0]), (21, .iload_n 1, 22, 0, [1]), (22, .iconst 0, 23, 0, []), (23, .invokevirtual 64, 26, 0, [6, 151, 3, 9]), (26, .goto 4, 29, 0, [30]), (29, .iconst 0, 30, 0, []), (30, .ireturn, 31, 0, [])]
def md_X9_constraintAt : MDT := (cl_X9_constraintAt, 2, 0, [])
abbrev k_X9_constraintAt : Nat := 35
def cl_L_kindOf : List Row := [(0, .aload_n 2, 1, 0, [2]), (1, .iconst 0, 2, 0, []), (2, .aload_n 0, 3, 0, [0]), (3, .iload_n 1, 4, 0, [1]), (4, .invokevirtual 61, 7, 0, [6, 152, 2, 8]), (7, .i2l, 8, 0, []), (8, .lastore, 9, 0, []), (9, .goto 6, 12, 0, [15]), (12, .astore_n 3, 13, 0, [3]), (13, .iconst 1, 14, 1, []), (14, .ireturn, 15, 0, []), (15, .iconst 0, 16, 0, []), (16, .ireturn, 17, 0, [])]
def md_L_kindOf : MDT := (cl_L_kindOf, 4, 0, [(0, 9, 12, 3)])
abbrev k_L_kindOf : Nat := 36
def cl_X9_kindOf : List Row := [(0, .aload_n 0, 1, 0, [0]), (1, .iload_n 1, 2, 0, [1]), (2, .iconst 1, 3, 1, []), (3, .invokevirtual 184, 6, 0, [6, 153, 3, 9]), (6, .i2c, 7, 0, []), (7, .ireturn, 8, 0, [])]
def md_X9_kindOf : MDT := (cl_X9_kindOf, 2, 3, [])
abbrev k_X9_kindOf : Nat := 37
def cl_L_firstOf : List Row := [(0, .aload_n 2, 1, 0, [2]), (1, .iconst 0, 2, 0, []), (2, .aload_n 0, 3, 0, [0]), (3, .iload_n 1, 4, 0, [1]), (4, .invokevirtual 65, 7, 0, [6, 154, 2, 8]), (7, .i2l, 8, 0, []), (8, .lastore, 9, 0, []), (9, .goto 6, 12, 0, [15]), (12, .astore_n 3, 13, 0, [3]), (13, .iconst 1, 14, 1, []), (14, .ireturn, 15, 0, []), (15, .iconst 0, 16, 0, []), (16, .ireturn, 17, 0, [])]
def md_L_firstOf : MDT := (cl_L_firstOf, 4, 0, [(0, 9, 12, 3)])
abbrev k_L_firstOf : Nat := 38
def cl_X9_firstOf : List Row := [(0, .aload_n 0, 1, 0, [0]), (1, .iload_n 1, 2, 0, [1]), (2, .iconst 2, 3, 2, []), (3, .invokevirtual 184, 6, 0, [6, 153, 3, 9]), (6, .ireturn, 7, 0, [])]
def md_X9_firstOf : MDT := (cl_X9_firstOf, 2, 0, [])
abbrev k_X9_firstOf : Nat := 39
def cl_L_secondOf : List Row := [(0, .aload_n 2, 1, 0, [2]), (1, .iconst 0, 2, 0, []), (2, .aload_n 0, 3, 0, [0]), (3, .iload_n 1, 4, 0, [1]), (4, .invokevirtual 68, 7, 0, [6, 155, 2, 8]), (7, .i2l, 8, 0, []), (8, .lastore, 9, 0, []), (9, .goto 6, 12, 0, [15]), (12, .astore_n 3, 13, 0, [3]), (13, .iconst 1, 14, 1, []), (14, .ireturn, 15, 0, []), (15, .iconst 0, 16, 0, []), (16, .ireturn, 17, 0, [])]
def md_L_secondOf : MDT := (cl_L_secondOf, 4, 0, [(0, 9, 12, 3)])
abbrev k_L_secondOf : Nat := 40
def cl_X9_secondOf : List Row := [(0, .aload_n 0, 1, 0, [0]), (1, .iload_n 1, 2, 0, [1]), (2, .iconst 3, 3, 3, []), (3, .invokevirtual 184, 6, 0, [6, 153, 3, 9]), (6, .ireturn, 7, 0, [])]
def md_X9_secondOf : MDT := (cl_X9_secondOf, 2, 0, [])
abbrev k_X9_secondOf : Nat := 41
def cl_L_gapOf : List Row := [(0, .aload_n 2, 1, 0, [2]), (1, .iconst 0, 2, 0, []), (2, .aload_n 0, 3, 0, [0]), (3, .iload_n 1, 4, 0, [1]), (4, .invokevirtual 71, 7, 0, [6, 156, 2, 8]), (7, .i2l, 8, 0, []), (8, .lastore, 9, 0, []), (9, .goto 6, 12, 0, [15]), (12, .astore_n 3, 13, 0, [3]), (13, .iconst 1, 14, 1, []), (14, .ireturn, 15, 0, []), (15, .iconst 0, 16, 0, []), (16, .ireturn, 17, 0, [])]
def md_L_gapOf : MDT := (cl_L_gapOf, 4, 0, [(0, 9, 12, 3)])
abbrev k_L_gapOf : Nat := 42
def cl_X9_gapOf : List Row := [(0, .aload_n 0, 1, 0, [0]), (1, .iload_n 1, 2, 0, [1]), (2, .iconst 4, 3, 4, []), (3, .invokevirtual 184, 6, 0, [6, 153, 3, 9]), (6, .ireturn, 7, 0, [])]
def md_X9_gapOf : MDT := (cl_X9_gapOf, 2, 0, [])
abbrev k_X9_gapOf : Nat := 43
def cl_L_isSafe : List Row := [(0, .aload_n 2, 1, 0, [2]), (1, .iconst 0, 2, 0, []), (2, .aload_n 0, 3, 0, [0]), (3, .iload_n 1, 4, 0, [1]), (4, .invokevirtual 74, 7, 0, [6, 157, 2, 8]), (7, .ifCond .eq 7, 10, 0, [14]), (10, .lconst 1, 11, 0, []), (11, .goto 4, 14, 0, [15]), (14, .lconst 0, 15, 0, []), (15, .lastore, 16, 0, []), (16, .goto 6, 19, 0, [22]), (19, .astore_n 3, 20, 0, [3]), (20, .iconst 1, 21, 1, []), (21, .ireturn, 22, 0, []), (22, .iconst 0, 23, 0, []), (23, .ireturn, 24, 0, [])]
def md_L_isSafe : MDT := (cl_L_isSafe, 4, 0, [(0, 16, 19, 3)])
abbrev k_L_isSafe : Nat := 44
def cl_X9_isSafe : List Row := [(0, .aload_n 0, 1, 0, [0]), (1, .aload_n 0, 2, 0, [0]), (2, .iload_n 1, 3, 0, [1]), (3, .invokevirtual 153, 6, 0, [6, 158, 2, 9]), (6, .ifCond .lt 7, 9, 0, [13]), (9, .iconst 1, 10, 1, []), (10, .goto 4, 13, 0, [14]), (13, .iconst 0, 14, 0, []), (14, .invokevirtual 171, 17, 0, [6, 140, 2, 9]), (17, .ifCond .eq 20, 20, 0, [37]), (20, .aload_n 0, 21, 0, [0]), (21, .aload_n 0, 22, 0, [0]), (22, .iload_n 1, 23, 0, [1]), (23, .invokevirtual 153, 26, 0, [6, 158, 2, 9]), (26, .iconst 0, 27, 0, []), (27, .invokevirtual 191, 30, 0, [6, 159, 3, 9]), (30, .ifCond .ne 7, 33, 0, [37]), (33, .iconst 1, 34, 1, []), (34, .goto 4, 37, 0, [38]), (37, .iconst 0, 38, 0, []), (38, .ireturn, 39, 0, [])]
def md_X9_isSafe : MDT := (cl_X9_isSafe, 2, 5, [])
abbrev k_X9_isSafe : Nat := 45
def cl_L_isBroken : List Row := [(0, .aload_n 2, 1, 0, [2]), (1, .iconst 0, 2, 0, []), (2, .aload_n 0, 3, 0, [0]), (3, .iload_n 1, 4, 0, [1]), (4, .invokevirtual 77, 7, 0, [6, 160, 2, 8]), (7, .ifCond .eq 7, 10, 0, [14]), (10, .lconst 1, 11, 0, []), (11, .goto 4, 14, 0, [15]), (14, .lconst 0, 15, 0, []), (15, .lastore, 16, 0, []), (16, .goto 6, 19, 0, [22]), (19, .astore_n 3, 20, 0, [3]), (20, .iconst 1, 21, 1, []), (21, .ireturn, 22, 0, []), (22, .iconst 0, 23, 0, []), (23, .ireturn, 24, 0, [])]
def md_L_isBroken : MDT := (cl_L_isBroken, 4, 0, [(0, 16, 19, 3)])
abbrev k_L_isBroken : Nat := 46
def cl_X9_isBroken : List Row := [(0, .aload_n 0, 1, 0, [0]), (1, .aload_n 0, 2, 0, [0]), (2, .iload_n 1, 3, 0, [1]), (3, .invokevirtual 153, 6, 0, [6, 158, 2, 9]), (6, .ifCond .lt 7, 9, 0, [13]), (9, .iconst 1, 10, 1, []), (10, .goto 4, 13, 0, [14]), (13, .iconst 0, 14, 0, []), (14, .invokevirtual 171, 17, 0, [6, 140, 2, 9]), (17, .ifCond .eq 20, 20, 0, [37]), (20, .aload_n 0, 21, 0, [0]), (21, .aload_n 0, 22, 0, [0]), (22, .iload_n 1, 23, 0, [1]), (23, .invokevirtual 153, 26, 0, [6, 158, 2, 9]), (26, .iconst 1, 27, 1, []), (27, .invokevirtual 191, 30, 0, [6, 159, 3, 9]), (30, .ifCond .ne 7, 33, 0, [37]), (33, .iconst 1, 34, 1, []), (34, .goto 4, 37, 0, [38]), (37, .iconst 0, 38, 0, []), (38, .ireturn, 39, 0, [])]
def md_X9_isBroken : MDT := (cl_X9_isBroken, 2, 5, [])
abbrev k_X9_isBroken : Nat := 47
def cl_L_pass : List Row := [(0, .aload_n 1, 1, 0, [1]), (1, .iconst 0, 2, 0, []), (2, .aload_n 0, 3, 0, [0]), (3, .invokevirtual 80, 6, 0, [6, 161, 1, 8]), (6, .i2l, 7, 0, []), (7, .lastore, 8, 0, []), (8, .goto 6, 11, 0, [14]), (11, .astore_n 2, 12, 0, [2]), (12, .iconst 1, 13, 1, []), (13, .ireturn, 14, 0, []), (14, .iconst 0, 15, 0, []), (15, .ireturn, 16, 0, [])]
def md_L_pass : MDT := (cl_L_pass, 3, 0, [(0, 8, 11, 1)])
abbrev k_L_pass : Nat := 48
def cl_X9_pass : List Row := [(0, .aload_n 0, 1, 0, [0]), (1, .invokevirtual 116, 4, 0, [6, 121, 1, 9]), (4, .aload_n 0, 5, 0, [0]), (5, .aload_n 0, 6, 0, [0]), (6, .invokevirtual 159, 9, 0, [6, 162, 1, 9]), (9, .iconst 0, 10, 0, []), (10, .iconst 0, 11, 0, []), (11, .iconst 1, 12, 1, []), (12, .iconst 0, 13, 0, []), (13, .invokevirtual 122, 16, 0, [6, 123, 6, 9]), (16, .ireturn, 17, 0, [])]
def md_X9_pass : MDT := (cl_X9_pass, 1, 0, [])
abbrev k_X9_pass : Nat := 49
def cl_L_settle : List Row := [(0, .aload_n 1, 1, 0, [1]), (1, .iconst 0, 2, 0, []), (2, .aload_n 0, 3, 0, [0]), (3, .invokevirtual 84, 6, 0, [6, 163, 1, 8]), (6, .i2l, 7, 0, []), (7, .lastore, 8, 0, []), (8, .goto 6, 11, 0, [14]), (11, .astore_n 2, 12, 0, [2]), (12, .iconst 1, 13, 1, []), (13, .ireturn, 14, 0, []), (14, .iconst 0, 15, 0, []), (15, .ireturn, 16, 0, [])]
def md_L_settle : MDT := (cl_L_settle, 3, 0, [(0, 8, 11, 1)])
abbrev k_L_settle : Nat := 50
def cl_X9_settle : List Row := [(0, .aload_n 0, 1, 0, [0]), (1, .invokevirtual 116, 4, 0, [6, 121, 1, 9]), (4, .aload_n 0, 5, 0, [0]), (5, .aload_n 0, 6, 0, [0]), (6, .invokevirtual 165, 9, 0, [6, 164, 1, 9]), (9, .iconst 0, 10, 0, []), (10, .iconst 0, 11, 0, []), (11, .iconst 1, 12, 1, []), (12, .iconst 0, 13, 0, []), (13, .invokevirtual 122, 16, 0, [6, 123, 6, 9]), (16, .ireturn, 17, 0, [])]
def md_X9_settle : MDT := (cl_X9_settle, 1, 0, [])
abbrev k_X9_settle : Nat := 51
def cl_X8_isSettled : List Row := [(0, .aload_n 0, 1, 0, [0]), (1, .invokevirtual 205, 4, 0, [6, 165, 1, 8]), (4, .ifCond .ne 7, 7, 0, [11]), (7, .iconst 1, 8, 1, []), (8, .goto 4, 11, 0, [12]), (11, .iconst 0, 12, 0, []), (12, .ireturn, 13, 0, [])]
def md_X8_isSettled : MDT := (cl_X8_isSettled, 1, 5, [])
abbrev k_X8_isSettled : Nat := 52
def cl_X9_isSettled : List Row := [(0, .aload_n 0, 1, 0, [0]), (1, .iconst 0, 2, 0, []), (2, .putfield 31, 5, 0, [9, 0, 0]), (5, .aload_n 0, 6, 0, [0]), (6, .invokevirtual 195, 9, 0, [6, 166, 1, 9]), (9, .ifCond .ne 7, 12, 0, [16]), (12, .iconst 1, 13, 1, []), (13, .goto 4, 16, 0, [17]), (16, .iconst 0, 17, 0, []), (17, .ireturn, 18, 0, [])]
def md_X9_isSettled : MDT := (cl_X9_isSettled, 1, 5, [])
abbrev k_X9_isSettled : Nat := 53
def cl_L_wouldChange : List Row := [(0, .aload_n 1, 1, 0, [1]), (1, .iconst 0, 2, 0, []), (2, .aload_n 0, 3, 0, [0]), (3, .invokevirtual 87, 6, 0, [6, 167, 1, 8]), (6, .i2l, 7, 0, []), (7, .lastore, 8, 0, []), (8, .goto 6, 11, 0, [14]), (11, .astore_n 2, 12, 0, [2]), (12, .iconst 1, 13, 1, []), (13, .ireturn, 14, 0, []), (14, .iconst 0, 15, 0, []), (15, .ireturn, 16, 0, [])]
def md_L_wouldChange : MDT := (cl_L_wouldChange, 3, 0, [(0, 8, 11, 3)])
abbrev k_L_wouldChange : Nat := 54
def cl_X9_wouldChange : List Row := [(0, .aload_n 0, 1, 0, [0]), (1, .invokevirtual 195, 4, 0, [6, 166, 1, 9]), (4, .istore_n 1, 5, 0, [1]), (5, .aload_n 0, 6, 0, [0]), (6, .iload_n 1, 7, 0, [1]), (7, .ifCond .lt 7, 10, 0, [14]), (10, .iconst 1, 11, 1, []), (11, .goto 4, 14, 0, [15]), (14, .iconst 0, 15, 0, []), (15, .invokevirtual 171, 18, 0, [6, 140, 2, 9]), (18, .ifCond .eq 7, 21, 0, [25]), (21, .iload_n 1, 22, 0, [1]), (22, .goto 4, 25, 0, [26]), (25, .iconst 0, 26, 0, []), (26, .ireturn, 27, 0, [])]
def md_X9_wouldChange : MDT := (cl_X9_wouldChange, 2, 0, [])
abbrev k_X9_wouldChange : Nat := 55
def cl_L_lowestHeight : List Row := [(0, .aload_n 2, 1, 0, [2]), (1, .iconst 0, 2, 0, []), (2, .aload_n 0, 3, 0, [0]), (3, .iload_n 1, 4, 0, [1]), (4, .invokevirtual 90, 7, 0, [6, 168, 2, 8]), (7, .i2l, 8, 0, []), (8, .lastore, 9, 0, []), (9, .goto 9, 12, 0, [18]), (12, .astore_n 3, 13, 0, [3]), (13, .iconst 1, 14, 1, []), (14, .ireturn, 15, 0, []), (15, .astore_n 3, 16, 0, [3]), (16, .iconst 2, 17, 2, []), (17, .ireturn, 18, 0, []), (18, .iconst 0, 19, 0, []), (19, .ireturn, 20, 0, [])]
def md_L_lowestHeight : MDT := (cl_L_lowestHeight, 4, 0, [(0, 9, 12, 2), (0, 9, 15, 3)])
abbrev k_L_lowestHeight : Nat := 56
def cl_X9_lowestHeight : List Row := [(0, .aload_n 0, 1, 0, [0]), (1, .aload_n 0, 2, 0, [0]), (2, .iload_n 1, 3, 0, [1]), (3, .invokevirtual 126, 6, 0, [6, 139, 2, 9]), (6, .invokevirtual 171, 9, 0, [6, 140, 2, 9]), (9, .ifCond .ne 5, 12, 0, [14]), (12, .iconst 0, 13, 0, []), (13, .ireturn, 14, 0, []), (14, .aload_n 0, 15, 0, [0]), (15, .iconst 0, 16, 0, []), (16, .bipush 11, 18, 11, []), (18, .invokevirtual 34, 21, 0, [6, 169, 3, 9]), (21, .aload_n 0, 22, 0, [0]), (22, .iconst 0, 23, 0, []), (23, .putfield 75, 26, 0, [9, 10, 0]), (26, .aload_n 0, 27, 0, [0]), (27, .iconst 1, 28, 1, []), (28, .invokevirtual 162, 31, 0, [6, 170, 2, 9]), (31, .istore_n 2, 32, 0, [2]), (32, .aload_n 0, 33, 0, [0]), (33, .iload_n 1, 34, 0, [1]), (34, .iconst 2, 35, 2, []), (35, .invokevirtual 68, 38, 0, [6, 171, 3, 9]), (38, .istore_n 3, 39, 0, [3]), (39, .aload_n 0, 40, 0, [0]), (40, .bipush 11, 42, 11, []), (42, .iconst 0, 43, 0, []), (43, .invokevirtual 34, 46, 0, [6, 169, 3, 9]), (46, .aload_n 0, 47, 0, [0]), (47, .iload_n 2, 48, 0, [2]), (48, .ifCond .ge 7, 51, 0, [55]), (51, .iconst 2, 52, 2, []), (52, .goto 4, 55, 0, [56]), (55, .iconst 0, 56, 0, []), (56, .putfield 31, 59, 0, [9, 0, 0]), (59, .iload_n 2, 60, 0, [2]), (60, .ifCond .ge 7, 63, 0, [67]), (63, .iconst 0, 64, 0, []), (64, .goto 4, 67, 0, [68]), (67, .iload_n 3, 68, 0, [3]), (68, .ireturn, 69, 0, [])]
def md_X9_lowestHeight : MDT := (cl_X9_lowestHeight, 4, 0, [])
abbrev k_X9_lowestHeight : Nat := 57
def cl_L_lowestHeightByPaths : List Row := [(0, .aload_n 2, 1, 0, [2]), (1, .iconst 0, 2, 0, []), (2, .aload_n 0, 3, 0, [0]), (3, .iload_n 1, 4, 0, [1]), (4, .invokevirtual 93, 7, 0, [6, 172, 2, 8]), (7, .i2l, 8, 0, []), (8, .lastore, 9, 0, []), (9, .goto 9, 12, 0, [18]), (12, .astore_n 3, 13, 0, [3]), (13, .iconst 1, 14, 1, []), (14, .ireturn, 15, 0, []), (15, .astore_n 3, 16, 0, [3]), (16, .iconst 2, 17, 2, []), (17, .ireturn, 18, 0, []), (18, .iconst 0, 19, 0, []), (19, .ireturn, 20, 0, [])]
def md_L_lowestHeightByPaths : MDT := (cl_L_lowestHeightByPaths, 4, 0, [(0, 9, 12, 2), (0, 9, 15, 3)])
abbrev k_L_lowestHeightByPaths : Nat := 58
def cl_X9_lowestHeightByPaths : List Row := [(0, .aload_n 0, 1, 0, [0]), (1, .iload_n 1, 2, 0, [1]), (2, .invokevirtual 198, 5, 0, [6, 57, 2, 9]), (5, .ireturn, 6, 0, [])]
def md_X9_lowestHeightByPaths : MDT := (cl_X9_lowestHeightByPaths, 2, 0, [])
abbrev k_X9_lowestHeightByPaths : Nat := 59
def cl_X8_passCount : List Row := [(0, .aload_n 0, 1, 0, [0]), (1, .getfield 12, 4, 0, [8, 0, 2]), (4, .getfield 225, 7, 0, [2, 4, 0]), (7, .ireturn, 8, 0, [])]
def md_X8_passCount : MDT := (cl_X8_passCount, 1, 0, [])
abbrev k_X8_passCount : Nat := 60
def cl_X9_passCount : List Row := [(0, .aload_n 0, 1, 0, [0]), (1, .iconst 3, 2, 3, []), (2, .invokevirtual 168, 5, 0, [6, 132, 2, 9]), (5, .ireturn, 6, 0, [])]
def md_X9_passCount : MDT := (cl_X9_passCount, 1, 0, [])
abbrev k_X9_passCount : Nat := 61
def cl_X8_changeCount : List Row := [(0, .aload_n 0, 1, 0, [0]), (1, .getfield 12, 4, 0, [8, 0, 2]), (4, .getfield 228, 7, 0, [2, 5, 0]), (7, .ireturn, 8, 0, [])]
def md_X8_changeCount : MDT := (cl_X8_changeCount, 1, 0, [])
abbrev k_X8_changeCount : Nat := 62
def cl_X9_changeCount : List Row := [(0, .aload_n 0, 1, 0, [0]), (1, .iconst 4, 2, 4, []), (2, .invokevirtual 168, 5, 0, [6, 132, 2, 9]), (5, .ireturn, 6, 0, [])]
def md_X9_changeCount : MDT := (cl_X9_changeCount, 1, 0, [])
abbrev k_X9_changeCount : Nat := 63
def cl_X8_hasPeace : List Row := [(0, .aload_n 0, 1, 0, [0]), (1, .getfield 50, 4, 0, [8, 7, 2]), (4, .aload_n 0, 5, 0, [0]), (5, .getfield 12, 8, 0, [8, 0, 2]), (8, .getfield 135, 11, 0, [2, 3, 2]), (11, .aload_n 0, 12, 0, [0]), (12, .getfield 12, 15, 0, [8, 0, 2]), (15, .getfield 114, 18, 0, [2, 2, 2]), (18, .aload_n 0, 19, 0, [0]), (19, .getfield 12, 22, 0, [8, 0, 2]), (22, .getfield 111, 25, 0, [2, 0, 0]), (25, .invokevirtual 231, 28, 0, [6, 173, 4, 6]), (28, .ireturn, 29, 0, [])]
def md_X8_hasPeace : MDT := (cl_X8_hasPeace, 1, 5, [])
abbrev k_X8_hasPeace : Nat := 64
def cl_X9_hasPeace : List Row := [(0, .aload_n 0, 1, 0, [0]), (1, .iconst 0, 2, 0, []), (2, .putfield 31, 5, 0, [9, 0, 0]), (5, .aload_n 0, 6, 0, [0]), (6, .invokevirtual 236, 9, 0, [6, 174, 1, 9]), (9, .aload_n 0, 10, 0, [0]), (10, .iconst 0, 11, 0, []), (11, .iconst 0, 12, 0, []), (12, .ldc2_w 203, 15, (-1), []), (15, .invokevirtual 229, 18, 0, [6, 175, 4, 9]), (18, .ifCond .ne 12, 21, 0, [30]), (21, .aload_n 0, 22, 0, [0]), (22, .getfield 9, 25, 0, [9, 1, 2]), (25, .iconst 0, 26, 0, []), (26, .iaload, 27, 0, []), (27, .ifCond .ne 7, 30, 0, [34]), (30, .iconst 1, 31, 1, []), (31, .goto 4, 34, 0, [35]), (34, .iconst 0, 35, 0, []), (35, .ireturn, 36, 0, [])]
def md_X9_hasPeace : MDT := (cl_X9_hasPeace, 1, 5, [])
abbrev k_X9_hasPeace : Nat := 65
def cl_L_peaceHeight : List Row := [(0, .aload_n 2, 1, 0, [2]), (1, .iconst 0, 2, 0, []), (2, .aload_n 0, 3, 0, [0]), (3, .iload_n 1, 4, 0, [1]), (4, .invokevirtual 96, 7, 0, [6, 176, 2, 8]), (7, .i2l, 8, 0, []), (8, .lastore, 9, 0, []), (9, .goto 9, 12, 0, [18]), (12, .astore_n 3, 13, 0, [3]), (13, .iconst 1, 14, 1, []), (14, .ireturn, 15, 0, []), (15, .astore_n 3, 16, 0, [3]), (16, .iconst 2, 17, 2, []), (17, .ireturn, 18, 0, []), (18, .iconst 0, 19, 0, []), (19, .ireturn, 20, 0, [])]
def md_L_peaceHeight : MDT := (cl_L_peaceHeight, 4, 0, [(0, 9, 12, 2), (0, 9, 15, 3)])
abbrev k_L_peaceHeight : Nat := 66
def cl_X9_peaceHeight : List Row := [(0, .aload_n 0, 1, 0, [0]), (1, .aload_n 0, 2, 0, [0]), (2, .iload_n 1, 3, 0, [1]), (3, .invokevirtual 126, 6, 0, [6, 139, 2, 9]), (6, .ifCond .ne 7, 9, 0, [13]), (9, .iconst 1, 10, 1, []), (10, .goto 15, 13, 0, [25]), (13, .aload_n 0, 14, 0, [0]), (14, .invokevirtual 243, 17, 0, [6, 177, 1, 9]), (17, .ifCond .ne 7, 20, 0, [24]), (20, .iconst 2, 21, 2, []), (21, .goto 4, 24, 0, [25]), (24, .iconst 0, 25, 0, []), (25, .putfield 31, 28, 0, [9, 0, 0]), (28, .aload_n 0, 29, 0, [0]), (29, .getfield 31, 32, 0, [9, 0, 0]), (32, .ifCond .ne 15, 35, 0, [47]), (35, .aload_n 0, 36, 0, [0]), (36, .getfield 13, 39, 0, [9, 12, 2]), (39, .iload_n 1, 40, 0, [1]), (40, .laload, 41, 0, []), (41, .invokestatic 205, 44, 0, [0, 178, 1]), (44, .goto 4, 47, 0, [48]), (47, .iconst 0, 48, 0, []), (48, .ireturn, 49, 0, [])]
def md_X9_peaceHeight : MDT := (cl_X9_peaceHeight, 2, 0, [])
abbrev k_X9_peaceHeight : Nat := 67
def cl_L_peaceSum : List Row := [(0, .aload_n 1, 1, 0, [1]), (1, .iconst 0, 2, 0, []), (2, .aload_n 0, 3, 0, [0]), (3, .invokevirtual 99, 6, 0, [6, 179, 1, 8]), (6, .i2l, 7, 0, []), (7, .lastore, 8, 0, []), (8, .goto 6, 11, 0, [14]), (11, .astore_n 2, 12, 0, [2]), (12, .iconst 1, 13, 1, []), (13, .ireturn, 14, 0, []), (14, .iconst 0, 15, 0, []), (15, .ireturn, 16, 0, [])]
def md_L_peaceSum : MDT := (cl_L_peaceSum, 3, 0, [(0, 8, 11, 3)])
abbrev k_L_peaceSum : Nat := 68
def cl_X9_peaceSum : List Row := [(0, .iconst 0, 1, 0, []), (1, .istore_n 1, 2, 0, [1]), (2, .aload_n 0, 3, 0, [0]), (3, .invokevirtual 243, 6, 0, [6, 177, 1, 9]), (6, .istore_n 2, 7, 0, [2]), (7, .iconst 0, 8, 0, []), (8, .istore_n 3, 9, 0, [3]), (9, .iload_n 3, 10, 0, [3]), (10, .aload_n 0, 11, 0, [0]), (11, .getfield 9, 14, 0, [9, 1, 2]), (14, .iconst 0, 15, 0, []), (15, .iaload, 16, 0, []), (16, .if_icmp .ge 25, 19, 0, [41]), (19, .iload_n 2, 20, 0, [2]), (20, .ifCond .eq 21, 23, 0, [41]), (23, .iload_n 1, 24, 0, [1]), (24, .aload_n 0, 25, 0, [0]), (25, .getfield 13, 28, 0, [9, 12, 2]), (28, .iload_n 3, 29, 0, [3]), (29, .laload, 30, 0, []), (30, .invokestatic 205, 33, 0, [0, 178, 1]), (33, .iadd, 34, 0, []), (34, .istore_n 1, 35, 0, [1]), (35, .iinc 3 1, 38, 1, [3]), (38, .goto (-29), 41, 0, [9]), (41, .aload_n 0, 42, 0, [0]), (42, .iload_n 2, 43, 0, [2]), (43, .invokevirtual 171, 46, 0, [6, 140, 2, 9]), (46, .ifCond .eq 7, 49, 0, [53]), (49, .iload_n 1, 50, 0, [1]), (50, .goto 4, 53, 0, [54]), (53, .iconst 0, 54, 0, []), (54, .ireturn, 55, 0, [])]
def md_X9_peaceSum : MDT := (cl_X9_peaceSum, 4, 0, [])
abbrev k_X9_peaceSum : Nat := 69
def cl_L_arePossible : List Row := [(0, .aload 5, 2, 0, [5]), (2, .iconst 0, 3, 0, []), (3, .aload_n 0, 4, 0, [0]), (4, .iload_n 1, 5, 0, [1]), (5, .iload_n 2, 6, 0, [2]), (6, .iload_n 3, 7, 0, [3]), (7, .iload 4, 9, 0, [4]), (9, .invokevirtual 102, 12, 0, [6, 180, 5, 8]), (12, .ifCond .eq 7, 15, 0, [19]), (15, .lconst 1, 16, 0, []), (16, .goto 4, 19, 0, [20]), (19, .lconst 0, 20, 0, []), (20, .lastore, 21, 0, []), (21, .goto 11, 24, 0, [32]), (24, .astore 6, 26, 0, [6]), (26, .iconst 1, 27, 1, []), (27, .ireturn, 28, 0, []), (28, .astore 6, 30, 0, [6]), (30, .iconst 2, 31, 2, []), (31, .ireturn, 32, 0, []), (32, .iconst 0, 33, 0, []), (33, .ireturn, 34, 0, [])]
def md_L_arePossible : MDT := (cl_L_arePossible, 7, 0, [(0, 21, 24, 2), (0, 21, 28, 0)])
abbrev k_L_arePossible : Nat := 70
def cl_X9_arePossible : List Row := [(0, .aload_n 0, 1, 0, [0]), (1, .aload_n 0, 2, 0, [0]), (2, .iload_n 1, 3, 0, [1]), (3, .invokevirtual 126, 6, 0, [6, 139, 2, 9]), (6, .ifCond .eq 11, 9, 0, [17]), (9, .aload_n 0, 10, 0, [0]), (10, .iload_n 3, 11, 0, [3]), (11, .invokevirtual 126, 14, 0, [6, 139, 2, 9]), (14, .ifCond .ne 7, 17, 0, [21]), (17, .iconst 1, 18, 1, []), (18, .goto 29, 21, 0, [47]), (21, .iload_n 2, 22, 0, [2]), (22, .iconst 0, 23, 0, []), (23, .bipush 40, 25, 40, []), (25, .invokestatic 60, 28, 0, [0, 150, 3]), (28, .ifCond .eq 14, 31, 0, [42]), (31, .iload 4, 33, 0, [4]), (33, .iconst 0, 34, 0, []), (34, .bipush 40, 36, 40, []), (36, .invokestatic 60, 39, 0, [0, 150, 3]), (39, .ifCond .ne 7, 42, 0, [46]), (42, .iconst 2, 43, 2, []), (43, .goto 4, 46, 0, [47]), (46, .iconst 0, 47, 0, []), (47, .putfield 31, 50, 0, [9, 0, 0]), (50, .aload_n 0, 51, 0, [0]), (51, .getfield 31, 54, 0, [9, 0, 0]), (54, .ifCond .eq 5, 57, 0, [59]), (57, .iconst 0, 58, 0, []), (58, .ireturn, 59, 0, []), (59, .aload_n 0, 60, 0, [0]), (60, .invokevirtual 236, 63, 0, [6, 174, 1, 9]), (63, .aload_n 0, 64, 0, [0]), (64, .getfield 13, 67, 0, [9, 12, 2]), (67, .iload_n 1, 68, 0, [1]), (68, .dup2, 69, 0, []), (69, .laload, 70, 0, []), (70, .lconst 1, 71, 0, []), (71, .iload_n 2, 72, 0, [2]), (72, .lshl, 73, 0, []), (73, .land, 74, 0, []), (74, .lastore, 75, 0, []), (75, .aload_n 0, 76, 0, [0]), (76, .getfield 13, 79, 0, [9, 12, 2]), (79, .iload_n 1, 80, 0, [1]), (80, .laload, 81, 0, []), (81, .lconst 0, 82, 0, []), (82, .lcmp, 83, 0, []), (83, .ifCond .eq 20, 86, 0, [103]), (86, .aload_n 0, 87, 0, [0]), (87, .iconst 0, 88, 0, []), (88, .iload_n 3, 89, 0, [3]), (89, .lconst 1, 90, 0, []), (90, .iload 4, 92, 0, [4]), (92, .lshl, 93, 0, []), (93, .invokevirtual 229, 96, 0, [6, 175, 4, 9]), (96, .ifCond .eq 7, 99, 0, [103]), (99, .iconst 1, 100, 1, []), (100, .goto 4, 103, 0, [104]), (103, .iconst 0, 104, 0, []), (104, .ireturn, 105, 0, [])]
def md_X9_arePossible : MDT := (cl_X9_arePossible, 5, 5, [])
abbrev k_X9_arePossible : Nat := 71
def cl_L_doorByWidth : List Row := [(0, .aload_n 2, 1, 0, [2]), (1, .iconst 0, 2, 0, []), (2, .aload_n 0, 3, 0, [0]), (3, .iload_n 1, 4, 0, [1]), (4, .invokevirtual 106, 7, 0, [6, 181, 2, 8]), (7, .i2l, 8, 0, []), (8, .lastore, 9, 0, []), (9, .goto 6, 12, 0, [15]), (12, .astore_n 3, 13, 0, [3]), (13, .iconst 1, 14, 1, []), (14, .ireturn, 15, 0, []), (15, .iconst 0, 16, 0, []), (16, .ireturn, 17, 0, [])]
def md_L_doorByWidth : MDT := (cl_L_doorByWidth, 4, 0, [(0, 9, 12, 3)])
abbrev k_L_doorByWidth : Nat := 72
def cl_X9_doorByWidth : List Row := [(0, .iconst 0, 1, 0, []), (1, .istore_n 2, 2, 0, [2]), (2, .iload_n 2, 3, 0, [2]), (3, .aload_n 0, 4, 0, [0]), (4, .getfield 9, 7, 0, [9, 1, 2]), (7, .iconst 0, 8, 0, []), (8, .iaload, 9, 0, []), (9, .if_icmp .ge 68, 12, 0, [77]), (12, .iconst 0, 13, 0, []), (13, .istore_n 3, 14, 0, [3]), (14, .iconst 0, 15, 0, []), (15, .istore 4, 17, 0, [4]), (17, .iload 4, 19, 0, [4]), (19, .aload_n 0, 20, 0, [0]), (20, .getfield 9, 23, 0, [9, 1, 2]), (23, .iconst 0, 24, 0, []), (24, .iaload, 25, 0, []), (25, .if_icmp .ge 27, 28, 0, [52]), (28, .iload_n 3, 29, 0, [3]), (29, .aload_n 0, 30, 0, [0]), (30, .iload 4, 32, 0, [4]), (32, .iload_n 2, 33, 0, [2]), (33, .invokevirtual 246, 36, 0, [6, 182, 3, 9]), (36, .ifCond .eq 7, 39, 0, [43]), (39, .iconst 1, 40, 1, []), (40, .goto 4, 43, 0, [44]), (43, .iconst 0, 44, 0, []), (44, .iadd, 45, 0, []), (45, .istore_n 3, 46, 0, [3]), (46, .iinc 4 1, 49, 1, [4]), (49, .goto (-32), 52, 0, [17]), (52, .aload_n 0, 53, 0, [0]), (53, .iload_n 3, 54, 0, [3]), (54, .iload_n 1, 55, 0, [1]), (55, .if_icmp .ne 7, 58, 0, [62]), (58, .iconst 1, 59, 1, []), (59, .goto 4, 62, 0, [63]), (62, .iconst 0, 63, 0, []), (63, .invokevirtual 171, 66, 0, [6, 140, 2, 9]), (66, .ifCond .eq 5, 69, 0, [71]), (69, .iload_n 2, 70, 0, [2]), (70, .ireturn, 71, 0, []), (71, .iinc 2 1, 74, 1, [2]), (74, .goto (-72), 77, 0, [2]), (77, .aload_n 0, 78, 0, [0]), (78, .iconst 1, 79, 1, []), (79, .putfield 31, 82, 0, [9, 0, 0]), (82, .iconst 0, 83, 0, []), (83, .ireturn, 84, 0, [])]
def md_X9_doorByWidth : MDT := (cl_X9_doorByWidth, 5, 0, [])
abbrev k_X9_doorByWidth : Nat := 73
def cl_L_constraintByGap : List Row := [(0, .aload_n 2, 1, 0, [2]), (1, .iconst 0, 2, 0, []), (2, .aload_n 0, 3, 0, [0]), (3, .iload_n 1, 4, 0, [1]), (4, .invokevirtual 109, 7, 0, [6, 183, 2, 8]), (7, .i2l, 8, 0, []), (8, .lastore, 9, 0, []), (9, .goto 6, 12, 0, [15]), (12, .astore_n 3, 13, 0, [3]), (13, .iconst 1, 14, 1, []), (14, .ireturn, 15, 0, []), (15, .iconst 0, 16, 0, []), (16, .ireturn, 17, 0, [])]
def md_L_constraintByGap : MDT := (cl_L_constraintByGap, 4, 0, [(0, 9, 12, 3)])
abbrev k_L_constraintByGap : Nat := 74
def cl_X9_constraintByGap : List Row := [(0, .iconst 0, 1, 0, []), (1, .istore_n 2, 2, 0, [2]), (2, .iload_n 2, 3, 0, [2]), (3, .aload_n 0, 4, 0, [0]), (4, .getfield 9, 7, 0, [9, 1, 2]), (7, .iconst 1, 8, 1, []), (8, .iaload, 9, 0, []), (9, .if_icmp .ge 101, 12, 0, [110]), (12, .iconst 0, 13, 0, []), (13, .istore_n 3, 14, 0, [3]), (14, .iconst 0, 15, 0, []), (15, .istore 4, 17, 0, [4]), (17, .iload 4, 19, 0, [4]), (19, .aload_n 0, 20, 0, [0]), (20, .getfield 9, 23, 0, [9, 1, 2]), (23, .iconst 1, 24, 1, []), (24, .iaload, 25, 0, []), (25, .if_icmp .ge 55, 28, 0, [80]), (28, .iload_n 3, 29, 0, [3]), (29, .aload_n 0, 30, 0, [0]), (30, .iload 4, 32, 0, [4]), (32, .iconst 4, 33, 4, []), (33, .invokevirtual 64, 36, 0, [6, 151, 3, 9]), (36, .aload_n 0, 37, 0, [0]), (37, .iload_n 2, 38, 0, [2]), (38, .iconst 4, 39, 4, []), (39, .invokevirtual 64, 42, 0, [6, 151, 3, 9]), (42, .if_icmp .gt 25, 45, 0, [67]), (45, .aload_n 0, 46, 0, [0]), (46, .iload 4, 48, 0, [4]), (48, .iconst 4, 49, 4, []), (49, .invokevirtual 64, 52, 0, [6, 151, 3, 9]), (52, .aload_n 0, 53, 0, [0]), (53, .iload_n 2, 54, 0, [2]), (54, .iconst 4, 55, 4, []), (55, .invokevirtual 64, 58, 0, [6, 151, 3, 9]), (58, .if_icmp .ne 13, 61, 0, [71]), (61, .iload 4, 63, 0, [4]), (63, .iload_n 2, 64, 0, [2]), (64, .if_icmp .ge 7, 67, 0, [71]), (67, .iconst 1, 68, 1, []), (68, .goto 4, 71, 0, [72]), (71, .iconst 0, 72, 0, []), (72, .iadd, 73, 0, []), (73, .istore_n 3, 74, 0, [3]), (74, .iinc 4 1, 77, 1, [4]), (77, .goto (-60), 80, 0, [17]), (80, .aload_n 0, 81, 0, [0]), (81, .iload_n 3, 82, 0, [3]), (82, .iload_n 1, 83, 0, [1]), (83, .if_icmp .ne 7, 86, 0, [90]), (86, .iconst 1, 87, 1, []), (87, .goto 4, 90, 0, [91]), (90, .iconst 0, 91, 0, []), (91, .invokevirtual 171, 94, 0, [6, 140, 2, 9]), (94, .ifCond .eq 10, 97, 0, [104]), (97, .aload_n 0, 98, 0, [0]), (98, .iload_n 2, 99, 0, [2]), (99, .iconst 0, 100, 0, []), (100, .invokevirtual 64, 103, 0, [6, 151, 3, 9]), (103, .ireturn, 104, 0, []), (104, .iinc 2 1, 107, 1, [2]), (107, .goto (-105), 110, 0, [2]), (110, .aload_n 0, 111, 0, [0]), (111, .iconst 1, 112, 1, []), (112, .putfield 31, 115, 0, [9, 0, 0]), (115, .iconst 0, 116, 0, []), (116, .ireturn, 117, 0, [])]
def md_X9_constraintByGap : MDT := (cl_X9_constraintByGap, 5, 0, [])
abbrev k_X9_constraintByGap : Nat := 75
def cl_X8_fixedCount : List Row := [(0, .iconst 0, 1, 0, []), (1, .istore_n 1, 2, 0, [1]), (2, .iconst 0, 3, 0, []), (3, .istore_n 2, 4, 0, [2]), (4, .iload_n 2, 5, 0, [2]), (5, .aload_n 0, 6, 0, [0]), (6, .getfield 12, 9, 0, [8, 0, 2]), (9, .getfield 111, 12, 0, [2, 0, 0]), (12, .if_icmp .ge 26, 15, 0, [38]), (15, .aload_n 0, 16, 0, [0]), (16, .getfield 12, 19, 0, [8, 0, 2]), (19, .getfield 114, 22, 0, [2, 2, 2]), (22, .iload_n 2, 23, 0, [2]), (23, .invokevirtual 131, 26, 0, [6, 184, 2, 0]), (26, .ifCond .eq 6, 29, 0, [32]), (29, .iinc 1 1, 32, 1, [1]), (32, .iinc 2 1, 35, 1, [2]), (35, .goto (-31), 38, 0, [4]), (38, .iload_n 1, 39, 0, [1]), (39, .ireturn, 40, 0, [])]
def md_X8_fixedCount : MDT := (cl_X8_fixedCount, 3, 0, [])
abbrev k_X8_fixedCount : Nat := 76
def cl_X9_fixedCount : List Row := [(0, .aload_n 0, 1, 0, [0]), (1, .iconst 0, 2, 0, []), (2, .putfield 31, 5, 0, [9, 0, 0]), (5, .iconst 0, 6, 0, []), (6, .istore_n 1, 7, 0, [1]), (7, .iconst 0, 8, 0, []), (8, .istore_n 2, 9, 0, [2]), (9, .iload_n 2, 10, 0, [2]), (10, .aload_n 0, 11, 0, [0]), (11, .getfield 9, 14, 0, [9, 1, 2]), (14, .iconst 0, 15, 0, []), (15, .iaload, 16, 0, []), (16, .if_icmp .ge 26, 19, 0, [42]), (19, .iload_n 1, 20, 0, [1]), (20, .aload_n 0, 21, 0, [0]), (21, .iload_n 2, 22, 0, [2]), (22, .invokevirtual 178, 25, 0, [6, 141, 2, 9]), (25, .iconst 1, 26, 1, []), (26, .if_icmp .ne 7, 29, 0, [33]), (29, .iconst 1, 30, 1, []), (30, .goto 4, 33, 0, [34]), (33, .iconst 0, 34, 0, []), (34, .iadd, 35, 0, []), (35, .istore_n 1, 36, 0, [1]), (36, .iinc 2 1, 39, 1, [2]), (39, .goto (-30), 42, 0, [9]), (42, .iload_n 1, 43, 0, [1]), (43, .ireturn, 44, 0, [])]
def md_X9_fixedCount : MDT := (cl_X9_fixedCount, 3, 0, [])
abbrev k_X9_fixedCount : Nat := 77
def cl_X8_totalWidth : List Row := [(0, .aload_n 0, 1, 0, [0]), (1, .getfield 12, 4, 0, [8, 0, 2]), (4, .getfield 114, 7, 0, [2, 2, 2]), (7, .aload_n 0, 8, 0, [0]), (8, .getfield 12, 11, 0, [8, 0, 2]), (11, .getfield 111, 14, 0, [2, 0, 0]), (14, .invokevirtual 258, 17, 0, [6, 185, 2, 0]), (17, .ireturn, 18, 0, [])]
def md_X8_totalWidth : MDT := (cl_X8_totalWidth, 1, 0, [])
abbrev k_X8_totalWidth : Nat := 78
def cl_X9_totalWidth : List Row := [(0, .aload_n 0, 1, 0, [0]), (1, .iconst 0, 2, 0, []), (2, .putfield 31, 5, 0, [9, 0, 0]), (5, .iconst 0, 6, 0, []), (6, .istore_n 1, 7, 0, [1]), (7, .iconst 0, 8, 0, []), (8, .istore_n 2, 9, 0, [2]), (9, .iload_n 2, 10, 0, [2]), (10, .aload_n 0, 11, 0, [0]), (11, .getfield 9, 14, 0, [9, 1, 2]), (14, .iconst 0, 15, 0, []), (15, .iaload, 16, 0, []), (16, .if_icmp .ge 17, 19, 0, [33]), (19, .iload_n 1, 20, 0, [1]), (20, .aload_n 0, 21, 0, [0]), (21, .iload_n 2, 22, 0, [2]), (22, .invokevirtual 178, 25, 0, [6, 141, 2, 9]), (25, .iadd, 26, 0, []), (26, .istore_n 1, 27, 0, [1]), (27, .iinc 2 1, 30, 1, [2]), (30, .goto (-21), 33, 0, [9]), (33, .iload_n 1, 34, 0, [1]), (34, .ireturn, 35, 0, [])]
def md_X9_totalWidth : MDT := (cl_X9_totalWidth, 3, 0, [])
abbrev k_X9_totalWidth : Nat := 79
def cl_X8_totalFrameWidth : List Row := [(0, .aload_n 0, 1, 0, [0]), (1, .getfield 12, 4, 0, [8, 0, 2]), (4, .getfield 124, 7, 0, [2, 1, 2]), (7, .aload_n 0, 8, 0, [0]), (8, .getfield 12, 11, 0, [8, 0, 2]), (11, .getfield 111, 14, 0, [2, 0, 0]), (14, .invokevirtual 258, 17, 0, [6, 185, 2, 0]), (17, .ireturn, 18, 0, [])]
def md_X8_totalFrameWidth : MDT := (cl_X8_totalFrameWidth, 1, 0, [])
abbrev k_X8_totalFrameWidth : Nat := 80
def cl_X9_totalFrameWidth : List Row := [(0, .aload_n 0, 1, 0, [0]), (1, .iconst 0, 2, 0, []), (2, .putfield 31, 5, 0, [9, 0, 0]), (5, .iconst 0, 6, 0, []), (6, .istore_n 1, 7, 0, [1]), (7, .iconst 0, 8, 0, []), (8, .istore_n 2, 9, 0, [2]), (9, .iload_n 2, 10, 0, [2]), (10, .aload_n 0, 11, 0, [0]), (11, .getfield 9, 14, 0, [9, 1, 2]), (14, .iconst 0, 15, 0, []), (15, .iaload, 16, 0, []), (16, .if_icmp .ge 27, 19, 0, [43]), (19, .iload_n 1, 20, 0, [1]), (20, .aload_n 0, 21, 0, [0]), (21, .iload_n 2, 22, 0, [2]), (22, .iconst 1, 23, 1, []), (23, .invokevirtual 68, 26, 0, [6, 171, 3, 9]), (26, .aload_n 0, 27, 0, [0]), (27, .iload_n 2, 28, 0, [2]), (28, .iconst 0, 29, 0, []), (29, .invokevirtual 68, 32, 0, [6, 171, 3, 9]), (32, .isub, 33, 0, []), (33, .iconst 1, 34, 1, []), (34, .iadd, 35, 0, []), (35, .iadd, 36, 0, []), (36, .istore_n 1, 37, 0, [1]), (37, .iinc 2 1, 40, 1, [2]), (40, .goto (-31), 43, 0, [9]), (43, .iload_n 1, 44, 0, [1]), (44, .ireturn, 45, 0, [])]
def md_X9_totalFrameWidth : MDT := (cl_X9_totalFrameWidth, 3, 0, [])
abbrev k_X9_totalFrameWidth : Nat := 81
def cl_L_meanWidth : List Row := [(0, .aload_n 1, 1, 0, [1]), (1, .iconst 0, 2, 0, []), (2, .aload_n 0, 3, 0, [0]), (3, .invokevirtual 112, 6, 0, [6, 186, 1, 8]), (6, .dastore, 7, 0, []), (7, .goto 6, 10, 0, [13]), (10, .astore_n 2, 11, 0, [2]), (11, .iconst 1, 12, 1, []), (12, .ireturn, 13, 0, []), (13, .iconst 0, 14, 0, []), (14, .ireturn, 15, 0, [])]
def md_L_meanWidth : MDT := (cl_L_meanWidth, 3, 0, [(0, 7, 10, 5)])
abbrev k_L_meanWidth : Nat := 82
def cl_X9_meanWidth : List Row := [(0, .aload_n 0, 1, 0, [0]), (1, .invokevirtual 249, 4, 0, [6, 79, 1, 9]), (4, .istore_n 1, 5, 0, [1]), (5, .aload_n 0, 6, 0, [0]), (6, .aload_n 0, 7, 0, [0]), (7, .getfield 9, 10, 0, [9, 1, 2]), (10, .iconst 0, 11, 0, []), (11, .iaload, 12, 0, []), (12, .ifCond .le 7, 15, 0, [19]), (15, .iconst 1, 16, 1, []), (16, .goto 4, 19, 0, [20]), (19, .iconst 0, 20, 0, []), (20, .invokevirtual 171, 23, 0, [6, 140, 2, 9]), (23, .ifCond .eq 16, 26, 0, [39]), (26, .iload_n 1, 27, 0, [1]), (27, .i2d, 28, 0, []), (28, .aload_n 0, 29, 0, [0]), (29, .getfield 9, 32, 0, [9, 1, 2]), (32, .iconst 0, 33, 0, []), (33, .iaload, 34, 0, []), (34, .i2d, 35, 0, []), (35, .ddiv, 36, 0, []), (36, .goto 4, 39, 0, [40]), (39, .dconst 0, 40, 0, []), (40, .dreturn, 41, 0, [])]
def md_X9_meanWidth : MDT := (cl_X9_meanWidth, 2, 0, [])
abbrev k_X9_meanWidth : Nat := 83
def cl_L_fixedShare : List Row := [(0, .aload_n 1, 1, 0, [1]), (1, .iconst 0, 2, 0, []), (2, .aload_n 0, 3, 0, [0]), (3, .invokevirtual 118, 6, 0, [6, 187, 1, 8]), (6, .f2d, 7, 0, []), (7, .dastore, 8, 0, []), (8, .goto 6, 11, 0, [14]), (11, .astore_n 2, 12, 0, [2]), (12, .iconst 1, 13, 1, []), (13, .ireturn, 14, 0, []), (14, .iconst 0, 15, 0, []), (15, .ireturn, 16, 0, [])]
def md_L_fixedShare : MDT := (cl_L_fixedShare, 3, 0, [(0, 8, 11, 5)])
abbrev k_L_fixedShare : Nat := 84
def cl_X9_fixedShare : List Row := [(0, .aload_n 0, 1, 0, [0]), (1, .invokevirtual 252, 4, 0, [6, 77, 1, 9]), (4, .istore_n 1, 5, 0, [1]), (5, .aload_n 0, 6, 0, [0]), (6, .aload_n 0, 7, 0, [0]), (7, .getfield 9, 10, 0, [9, 1, 2]), (10, .iconst 0, 11, 0, []), (11, .iaload, 12, 0, []), (12, .ifCond .le 7, 15, 0, [19]), (15, .iconst 1, 16, 1, []), (16, .goto 4, 19, 0, [20]), (19, .iconst 0, 20, 0, []), (20, .invokevirtual 171, 23, 0, [6, 140, 2, 9]), (23, .ifCond .eq 16, 26, 0, [39]), (26, .iload_n 1, 27, 0, [1]), (27, .i2f, 28, 0, []), (28, .aload_n 0, 29, 0, [0]), (29, .getfield 9, 32, 0, [9, 1, 2]), (32, .iconst 0, 33, 0, []), (33, .iaload, 34, 0, []), (34, .i2f, 35, 0, []), (35, .fdiv, 36, 0, []), (36, .goto 4, 39, 0, [40]), (39, .fconst 0, 40, 0, []), (40, .freturn, 41, 0, [])]
def md_X9_fixedShare : MDT := (cl_X9_fixedShare, 2, 0, [])
abbrev k_X9_fixedShare : Nat := 85
def cl_X8_isConsistent : List Row := [(0, .aload_n 0, 1, 0, [0]), (1, .invokevirtual 210, 4, 0, [6, 188, 1, 8]), (4, .istore_n 1, 5, 0, [1]), (5, .aload_n 0, 6, 0, [0]), (6, .getfield 43, 9, 0, [8, 6, 2]), (9, .aload_n 0, 10, 0, [0]), (10, .getfield 12, 13, 0, [8, 0, 2]), (13, .getfield 135, 16, 0, [2, 3, 2]), (16, .aload_n 0, 17, 0, [0]), (17, .getfield 12, 20, 0, [8, 0, 2]), (20, .getfield 114, 23, 0, [2, 2, 2]), (23, .aload_n 0, 24, 0, [0]), (24, .getfield 12, 27, 0, [8, 0, 2]), (27, .getfield 111, 30, 0, [2, 0, 0]), (30, .invokevirtual 216, 33, 0, [6, 189, 4, 4]), (33, .istore_n 2, 34, 0, [2]), (34, .iload_n 1, 35, 0, [1]), (35, .iload_n 2, 36, 0, [2]), (36, .if_icmp .eq 5, 39, 0, [41]), (39, .iconst 0, 40, 0, []), (40, .ireturn, 41, 0, []), (41, .iconst 0, 42, 0, []), (42, .istore_n 3, 43, 0, [3]), (43, .iload_n 3, 44, 0, [3]), (44, .aload_n 0, 45, 0, [0]), (45, .getfield 12, 48, 0, [8, 0, 2]), (48, .getfield 111, 51, 0, [2, 0, 0]), (51, .if_icmp .ge 47, 54, 0, [98]), (54, .aload_n 0, 55, 0, [0]), (55, .getfield 12, 58, 0, [8, 0, 2]), (58, .iload_n 3, 59, 0, [3]), (59, .invokevirtual 272, 62, 0, [6, 190, 2, 2]), (62, .ifCond .eq 28, 65, 0, [90]), (65, .iload_n 1, 66, 0, [1]), (66, .ifCond .eq 26, 69, 0, [92]), (69, .aload_n 0, 70, 0, [0]), (70, .getfield 29, 73, 0, [8, 4, 2]), (73, .getfield 117, 76, 0, [0, 0, 2]), (76, .iload_n 3, 77, 0, [3]), (77, .iaload, 78, 0, []), (78, .aload_n 0, 79, 0, [0]), (79, .getfield 43, 82, 0, [8, 6, 2]), (82, .getfield 222, 85, 0, [4, 0, 2]), (85, .iload_n 3, 86, 0, [3]), (86, .iaload, 87, 0, []), (87, .if_icmp .eq 5, 90, 0, [92]), (90, .iconst 0, 91, 0, []), (91, .ireturn, 92, 0, []), (92, .iinc 3 1, 95, 1, [3]), (95, .goto (-52), 98, 0, [43]), (98, .iconst 1, 99, 1, []), (99, .ireturn, 100, 0, [])]
def md_X8_isConsistent : MDT := (cl_X8_isConsistent, 4, 5, [])
abbrev k_X8_isConsistent : Nat := 86
def cl_X9_isConsistent : List Row := [(0, .aload_n 0, 1, 0, [0]), (1, .iconst 0, 2, 0, []), (2, .putfield 31, 5, 0, [9, 0, 0]), (5, .iconst 1, 6, 1, []), (6, .ireturn, 7, 0, [])]
def md_X9_isConsistent : MDT := (cl_X9_isConsistent, 1, 5, [])
abbrev k_X9_isConsistent : Nat := 87
def cl_L_writeDoor : List Row := [(0, .aload_n 2, 1, 0, [2]), (1, .iconst 0, 2, 0, []), (2, .aload_n 0, 3, 0, [0]), (3, .iload_n 1, 4, 0, [1]), (4, .invokevirtual 122, 7, 0, [6, 191, 2, 8]), (7, .i2l, 8, 0, []), (8, .lastore, 9, 0, []), (9, .goto 6, 12, 0, [15]), (12, .astore_n 3, 13, 0, [3]), (13, .iconst 1, 14, 1, []), (14, .ireturn, 15, 0, []), (15, .iconst 0, 16, 0, []), (16, .ireturn, 17, 0, [])]
def md_L_writeDoor : MDT := (cl_L_writeDoor, 4, 0, [(0, 9, 12, 2)])
abbrev k_L_writeDoor : Nat := 88
def cl_X9_writeDoor : List Row := [(0, .aload_n 0, 1, 0, [0]), (1, .aload_n 0, 2, 0, [0]), (2, .iload_n 1, 3, 0, [1]), (3, .invokevirtual 126, 6, 0, [6, 139, 2, 9]), (6, .invokevirtual 171, 9, 0, [6, 140, 2, 9]), (9, .ifCond .ne 5, 12, 0, [14]), (12, .iconst 0, 13, 0, []), (13, .ireturn, 14, 0, []), (14, .aload_n 0, 15, 0, [0]), (15, .iconst 0, 16, 0, []), (16, .putfield 255, 19, 0, [9, 14, 0]), (19, .aload_n 0, 20, 0, [0]), (20, .iload_n 1, 21, 0, [1]), (21, .invokevirtual 258, 24, 0, [6, 192, 2, 9]), (24, .aload_n 0, 25, 0, [0]), (25, .bipush 91, 27, 91, []), (27, .invokevirtual 261, 30, 0, [6, 193, 2, 9]), (30, .aload_n 0, 31, 0, [0]), (31, .aload_n 0, 32, 0, [0]), (32, .iload_n 1, 33, 0, [1]), (33, .iconst 2, 34, 2, []), (34, .invokevirtual 68, 37, 0, [6, 171, 3, 9]), (37, .invokevirtual 258, 40, 0, [6, 192, 2, 9]), (40, .aload_n 0, 41, 0, [0]), (41, .iload_n 1, 42, 0, [1]), (42, .invokevirtual 178, 45, 0, [6, 141, 2, 9]), (45, .iconst 1, 46, 1, []), (46, .if_icmp .le 25, 49, 0, [71]), (49, .aload_n 0, 50, 0, [0]), (50, .bipush 46, 52, 46, []), (52, .invokevirtual 261, 55, 0, [6, 193, 2, 9]), (55, .aload_n 0, 56, 0, [0]), (56, .bipush 46, 58, 46, []), (58, .invokevirtual 261, 61, 0, [6, 193, 2, 9]), (61, .aload_n 0, 62, 0, [0]), (62, .aload_n 0, 63, 0, [0]), (63, .iload_n 1, 64, 0, [1]), (64, .iconst 3, 65, 3, []), (65, .invokevirtual 68, 68, 0, [6, 171, 3, 9]), (68, .invokevirtual 258, 71, 0, [6, 192, 2, 9]), (71, .aload_n 0, 72, 0, [0]), (72, .bipush 93, 74, 93, []), (74, .invokevirtual 261, 77, 0, [6, 193, 2, 9]), (77, .aload_n 0, 78, 0, [0]), (78, .iload_n 1, 79, 0, [1]), (79, .iconst 2, 80, 2, []), (80, .invokevirtual 68, 83, 0, [6, 171, 3, 9]), (83, .aload_n 0, 84, 0, [0]), (84, .iload_n 1, 85, 0, [1]), (85, .iconst 0, 86, 0, []), (86, .invokevirtual 68, 89, 0, [6, 171, 3, 9]), (89, .if_icmp .ne 18, 92, 0, [107]), (92, .aload_n 0, 93, 0, [0]), (93, .iload_n 1, 94, 0, [1]), (94, .iconst 3, 95, 3, []), (95, .invokevirtual 68, 98, 0, [6, 171, 3, 9]), (98, .aload_n 0, 99, 0, [0]), (99, .iload_n 1, 100, 0, [1]), (100, .iconst 1, 101, 1, []), (101, .invokevirtual 68, 104, 0, [6, 171, 3, 9]), (104, .if_icmp .eq 9, 107, 0, [113]), (107, .aload_n 0, 108, 0, [0]), (108, .bipush 42, 110, 42, []), (110, .invokevirtual 261, 113, 0, [6, 193, 2, 9]), (113, .aload_n 0, 114, 0, [0]), (114, .getfield 255, 117, 0, [9, 14, 0]), (117, .ireturn, 118, 0, [])]
def md_X9_writeDoor : MDT := (cl_X9_writeDoor, 2, 0, [])
abbrev k_X9_writeDoor : Nat := 89
def cl_L_writeConstraint : List Row := [(0, .aload_n 2, 1, 0, [2]), (1, .iconst 0, 2, 0, []), (2, .aload_n 0, 3, 0, [0]), (3, .iload_n 1, 4, 0, [1]), (4, .invokevirtual 125, 7, 0, [6, 194, 2, 8]), (7, .i2l, 8, 0, []), (8, .lastore, 9, 0, []), (9, .goto 6, 12, 0, [15]), (12, .astore_n 3, 13, 0, [3]), (13, .iconst 1, 14, 1, []), (14, .ireturn, 15, 0, []), (15, .iconst 0, 16, 0, []), (16, .ireturn, 17, 0, [])]
def md_L_writeConstraint : MDT := (cl_L_writeConstraint, 4, 0, [(0, 9, 12, 3)])
abbrev k_L_writeConstraint : Nat := 90
def cl_X9_writeConstraint : List Row := [(0, .aload_n 0, 1, 0, [0]), (1, .iload_n 1, 2, 0, [1]), (2, .invokevirtual 153, 5, 0, [6, 158, 2, 9]), (5, .istore_n 2, 6, 0, [2]), (6, .aload_n 0, 7, 0, [0]), (7, .iload_n 2, 8, 0, [2]), (8, .ifCond .lt 7, 11, 0, [15]), (11, .iconst 1, 12, 1, []), (12, .goto 4, 15, 0, [16]), (15, .iconst 0, 16, 0, []), (16, .invokevirtual 171, 19, 0, [6, 140, 2, 9]), (19, .ifCond .ne 5, 22, 0, [24]), (22, .iconst 0, 23, 0, []), (23, .ireturn, 24, 0, []), (24, .aload_n 0, 25, 0, [0]), (25, .iconst 0, 26, 0, []), (26, .putfield 255, 29, 0, [9, 14, 0]), (29, .aload_n 0, 30, 0, [0]), (30, .iload_n 1, 31, 0, [1]), (31, .invokevirtual 258, 34, 0, [6, 192, 2, 9]), (34, .aload_n 0, 35, 0, [0]), (35, .bipush 58, 37, 58, []), (37, .invokevirtual 261, 40, 0, [6, 193, 2, 9]), (40, .aload_n 0, 41, 0, [0]), (41, .aload_n 0, 42, 0, [0]), (42, .iload_n 2, 43, 0, [2]), (43, .iconst 2, 44, 2, []), (44, .invokevirtual 64, 47, 0, [6, 151, 3, 9]), (47, .invokevirtual 258, 50, 0, [6, 192, 2, 9]), (50, .aload_n 0, 51, 0, [0]), (51, .aload_n 0, 52, 0, [0]), (52, .iload_n 2, 53, 0, [2]), (53, .iconst 1, 54, 1, []), (54, .invokevirtual 64, 57, 0, [6, 151, 3, 9]), (57, .invokevirtual 261, 60, 0, [6, 193, 2, 9]), (60, .aload_n 0, 61, 0, [0]), (61, .aload_n 0, 62, 0, [0]), (62, .iload_n 2, 63, 0, [2]), (63, .iconst 3, 64, 3, []), (64, .invokevirtual 64, 67, 0, [6, 151, 3, 9]), (67, .invokevirtual 258, 70, 0, [6, 192, 2, 9]), (70, .aload_n 0, 71, 0, [0]), (71, .iload_n 2, 72, 0, [2]), (72, .iconst 4, 73, 4, []), (73, .invokevirtual 64, 76, 0, [6, 151, 3, 9]), (76, .ifCond .le 19, 79, 0, [95]), (79, .aload_n 0, 80, 0, [0]), (80, .bipush 43, 82, 43, []), (82, .invokevirtual 261, 85, 0, [6, 193, 2, 9]), (85, .aload_n 0, 86, 0, [0]), (86, .aload_n 0, 87, 0, [0]), (87, .iload_n 2, 88, 0, [2]), (88, .iconst 4, 89, 4, []), (89, .invokevirtual 64, 92, 0, [6, 151, 3, 9]), (92, .invokevirtual 258, 95, 0, [6, 192, 2, 9]), (95, .aload_n 0, 96, 0, [0]), (96, .getfield 255, 99, 0, [9, 14, 0]), (99, .ireturn, 100, 0, [])]
def md_X9_writeConstraint : MDT := (cl_X9_writeConstraint, 3, 0, [])
abbrev k_X9_writeConstraint : Nat := 91
def cl_L_outputAt : List Row := [(0, .aload_n 2, 1, 0, [2]), (1, .iconst 0, 2, 0, []), (2, .aload_n 0, 3, 0, [0]), (3, .iload_n 1, 4, 0, [1]), (4, .invokevirtual 128, 7, 0, [6, 195, 2, 8]), (7, .i2l, 8, 0, []), (8, .lastore, 9, 0, []), (9, .goto 6, 12, 0, [15]), (12, .astore_n 3, 13, 0, [3]), (13, .iconst 1, 14, 1, []), (14, .ireturn, 15, 0, []), (15, .iconst 0, 16, 0, []), (16, .ireturn, 17, 0, [])]
def md_L_outputAt : MDT := (cl_L_outputAt, 4, 0, [(0, 9, 12, 2)])
abbrev k_L_outputAt : Nat := 92
def cl_X9_outputAt : List Row := [(0, .aload_n 0, 1, 0, [0]), (1, .iload_n 1, 2, 0, [1]), (2, .iconst 0, 3, 0, []), (3, .aload_n 0, 4, 0, [0]), (4, .getfield 255, 7, 0, [9, 14, 0]), (7, .iconst 1, 8, 1, []), (8, .isub, 9, 0, []), (9, .invokestatic 60, 12, 0, [0, 150, 3]), (12, .invokevirtual 171, 15, 0, [6, 140, 2, 9]), (15, .ifCond .eq 12, 18, 0, [27]), (18, .aload_n 0, 19, 0, [0]), (19, .getfield 17, 22, 0, [9, 13, 2]), (22, .iload_n 1, 23, 0, [1]), (23, .caload, 24, 0, []), (24, .goto 4, 27, 0, [28]), (27, .iconst 0, 28, 0, []), (28, .ireturn, 29, 0, [])]
def md_X9_outputAt : MDT := (cl_X9_outputAt, 2, 3, [])
abbrev k_X9_outputAt : Nat := 93
def cl_L_appendInput : List Row := [(0, .aload_n 2, 1, 0, [2]), (1, .iconst 0, 2, 0, []), (2, .aload_n 0, 3, 0, [0]), (3, .iload_n 1, 4, 0, [1]), (4, .invokevirtual 131, 7, 0, [6, 196, 2, 8]), (7, .i2l, 8, 0, []), (8, .lastore, 9, 0, []), (9, .goto 9, 12, 0, [18]), (12, .astore_n 3, 13, 0, [3]), (13, .iconst 1, 14, 1, []), (14, .ireturn, 15, 0, []), (15, .astore_n 3, 16, 0, [3]), (16, .iconst 2, 17, 2, []), (17, .ireturn, 18, 0, []), (18, .iconst 0, 19, 0, []), (19, .ireturn, 20, 0, [])]
def md_L_appendInput : MDT := (cl_L_appendInput, 4, 0, [(0, 9, 12, 0), (0, 9, 15, 4)])
abbrev k_L_appendInput : Nat := 94
def cl_X9_appendInput : List Row := [(0, .aload_n 0, 1, 0, [0]), (1, .iload_n 1, 2, 0, [1]), (2, .bipush 32, 4, 32, []), (4, .bipush 126, 6, 126, []), (6, .invokestatic 60, 9, 0, [0, 150, 3]), (9, .ifCond .ne 7, 12, 0, [16]), (12, .iconst 1, 13, 1, []), (13, .goto 17, 16, 0, [30]), (16, .aload_n 0, 17, 0, [0]), (17, .getfield 264, 20, 0, [9, 16, 0]), (20, .bipush 60, 22, 60, []), (22, .if_icmp .ne 7, 25, 0, [29]), (25, .iconst 2, 26, 2, []), (26, .goto 4, 29, 0, [30]), (29, .iconst 0, 30, 0, []), (30, .putfield 31, 33, 0, [9, 0, 0]), (33, .aload_n 0, 34, 0, [0]), (34, .getfield 31, 37, 0, [9, 0, 0]), (37, .ifCond .eq 5, 40, 0, [42]), (40, .iconst 0, 41, 0, []), (41, .ireturn, 42, 0, []), (42, .aload_n 0, 43, 0, [0]), (43, .getfield 21, 46, 0, [9, 15, 2]), (46, .aload_n 0, 47, 0, [0]), (47, .getfield 264, 50, 0, [9, 16, 0]), (50, .iload_n 1, 51, 0, [1]), (51, .castore, 52, 0, []), (52, .aload_n 0, 53, 0, [0]), (53, .dup, 54, 0, []), (54, .getfield 264, 57, 0, [9, 16, 0]), (57, .iconst 1, 58, 1, []), (58, .iadd, 59, 0, []), (59, .putfield 264, 62, 0, [9, 16, 0]), (62, .aload_n 0, 63, 0, [0]), (63, .getfield 264, 66, 0, [9, 16, 0]), (66, .ireturn, 67, 0, [])]
def md_X9_appendInput : MDT := (cl_X9_appendInput, 2, 0, [])
abbrev k_X9_appendInput : Nat := 95
def cl_L_execute : List Row := [(0, .aload_n 1, 1, 0, [1]), (1, .iconst 0, 2, 0, []), (2, .aload_n 0, 3, 0, [0]), (3, .invokevirtual 137, 6, 0, [6, 197, 1, 8]), (6, .i2l, 7, 0, []), (7, .lastore, 8, 0, []), (8, .goto 12, 11, 0, [20]), (11, .astore_n 2, 12, 0, [2]), (12, .iconst 1, 13, 1, []), (13, .ireturn, 14, 0, []), (14, .astore_n 2, 15, 0, [2]), (15, .iconst 2, 16, 2, []), (16, .ireturn, 17, 0, []), (17, .astore_n 2, 18, 0, [2]), (18, .iconst 3, 19, 3, []), (19, .ireturn, 20, 0, []), (20, .iconst 0, 21, 0, []), (21, .ireturn, 22, 0, [])]
def md_L_execute : MDT := (cl_L_execute, 3, 0, [(0, 8, 11, 0), (0, 8, 14, 4), (0, 8, 17, 1)])
abbrev k_L_execute : Nat := 96
def cl_X9_execute : List Row := [(0, .aload_n 0, 1, 0, [0]), (1, .invokevirtual 300, 4, 0, [6, 198, 1, 9]), (4, .aload_n 0, 5, 0, [0]), (5, .iconst 0, 6, 0, []), (6, .putfield 264, 9, 0, [9, 16, 0]), (9, .aload_n 0, 10, 0, [0]), (10, .getfield 270, 13, 0, [9, 18, 0]), (13, .ifCond .lt 18, 16, 0, [31]), (16, .aload_n 0, 17, 0, [0]), (17, .aload_n 0, 18, 0, [0]), (18, .getfield 270, 21, 0, [9, 18, 0]), (21, .putfield 24, 24, 0, [9, 19, 0]), (24, .aload_n 0, 25, 0, [0]), (25, .iconst 1, 26, 1, []), (26, .putfield 31, 29, 0, [9, 0, 0]), (29, .iconst 0, 30, 0, []), (30, .ireturn, 31, 0, []), (31, .aload_n 0, 32, 0, [0]), (32, .invokevirtual 116, 35, 0, [6, 121, 1, 9]), (35, .iconst 0, 36, 0, []), (36, .istore_n 1, 37, 0, [1]), (37, .iconst 0, 38, 0, []), (38, .istore_n 2, 39, 0, [2]), (39, .iload_n 1, 40, 0, [1]), (40, .aload_n 0, 41, 0, [0]), (41, .getfield 285, 44, 0, [9, 21, 0]), (44, .if_icmp .ge 30, 47, 0, [74]), (47, .iload_n 2, 48, 0, [2]), (48, .ifCond .ne 26, 51, 0, [74]), (51, .aload_n 0, 52, 0, [0]), (52, .iconst 4, 53, 4, []), (53, .iload_n 1, 54, 0, [1]), (54, .imul, 55, 0, []), (55, .invokevirtual 303, 58, 0, [6, 199, 2, 9]), (58, .istore_n 2, 59, 0, [2]), (59, .iload_n 1, 60, 0, [1]), (60, .iload_n 2, 61, 0, [2]), (61, .ifCond .ne 7, 64, 0, [68]), (64, .iconst 1, 65, 1, []), (65, .goto 4, 68, 0, [69]), (68, .iconst 0, 69, 0, []), (69, .iadd, 70, 0, []), (70, .istore_n 1, 71, 0, [1]), (71, .goto (-32), 74, 0, [39]), (74, .aload_n 0, 75, 0, [0]), (75, .aload_n 0, 76, 0, [0]), (76, .getfield 285, 79, 0, [9, 21, 0]), (79, .putfield 41, 82, 0, [9, 4, 0]), (82, .iload_n 2, 83, 0, [2]), (83, .iconst 3, 84, 3, []), (84, .if_icmp .ne 22, 87, 0, [106]), (87, .aload_n 0, 88, 0, [0]), (88, .bipush 6, 90, 6, []), (90, .putfield 47, 93, 0, [9, 5, 0]), (93, .aload_n 0, 94, 0, [0]), (94, .iload_n 1, 95, 0, [1]), (95, .putfield 53, 98, 0, [9, 6, 0]), (98, .aload_n 0, 99, 0, [0]), (99, .aload_n 0, 100, 0, [0]), (100, .getfield 44, 103, 0, [9, 8, 0]), (103, .putfield 306, 106, 0, [9, 7, 0]), (106, .aload_n 0, 107, 0, [0]), (107, .iload_n 2, 108, 0, [2]), (108, .ifCond .ne 7, 111, 0, [115]), (111, .iconst 0, 112, 0, []), (112, .goto 13, 115, 0, [125]), (115, .iload_n 2, 116, 0, [2]), (116, .iconst 3, 117, 3, []), (117, .if_icmp .ne 7, 120, 0, [124]), (120, .iconst 3, 121, 3, []), (121, .goto 4, 124, 0, [125]), (124, .iconst 2, 125, 2, []), (125, .invokevirtual 56, 128, 0, [6, 200, 2, 9]), (128, .ireturn, 129, 0, [])]
def md_X9_execute : MDT := (cl_X9_execute, 3, 0, [])
abbrev k_X9_execute : Nat := 97
def cl_L_syntaxErrorOffset : List Row := [(0, .aload_n 1, 1, 0, [1]), (1, .iconst 0, 2, 0, []), (2, .aload_n 0, 3, 0, [0]), (3, .invokevirtual 140, 6, 0, [6, 201, 1, 8]), (6, .i2l, 7, 0, []), (7, .lastore, 8, 0, []), (8, .goto 6, 11, 0, [14]), (11, .astore_n 2, 12, 0, [2]), (12, .iconst 1, 13, 1, []), (13, .ireturn, 14, 0, []), (14, .iconst 0, 15, 0, []), (15, .ireturn, 16, 0, [])]
def md_L_syntaxErrorOffset : MDT := (cl_L_syntaxErrorOffset, 3, 0, [(0, 8, 11, 3)])
abbrev k_L_syntaxErrorOffset : Nat := 98
def cl_X9_syntaxErrorOffset : List Row := [(0, .aload_n 0, 1, 0, [0]), (1, .aload_n 0, 2, 0, [0]), (2, .getfield 24, 5, 0, [9, 19, 0]), (5, .iconst (-1), 6, (-1), []), (6, .if_icmp .eq 7, 9, 0, [13]), (9, .iconst 1, 10, 1, []), (10, .goto 4, 13, 0, [14]), (13, .iconst 0, 14, 0, []), (14, .invokevirtual 171, 17, 0, [6, 140, 2, 9]), (17, .ifCond .eq 10, 20, 0, [27]), (20, .aload_n 0, 21, 0, [0]), (21, .getfield 24, 24, 0, [9, 19, 0]), (24, .goto 4, 27, 0, [28]), (27, .iconst 0, 28, 0, []), (28, .ireturn, 29, 0, [])]
def md_X9_syntaxErrorOffset : MDT := (cl_X9_syntaxErrorOffset, 1, 0, [])
abbrev k_X9_syntaxErrorOffset : Nat := 99
def cl_L_rejectionReason : List Row := [(0, .aload_n 1, 1, 0, [1]), (1, .iconst 0, 2, 0, []), (2, .aload_n 0, 3, 0, [0]), (3, .invokevirtual 143, 6, 0, [6, 202, 1, 8]), (6, .i2l, 7, 0, []), (7, .lastore, 8, 0, []), (8, .goto 6, 11, 0, [14]), (11, .astore_n 2, 12, 0, [2]), (12, .iconst 1, 13, 1, []), (13, .ireturn, 14, 0, []), (14, .iconst 0, 15, 0, []), (15, .ireturn, 16, 0, [])]
def md_L_rejectionReason : MDT := (cl_L_rejectionReason, 3, 0, [(0, 8, 11, 3)])
abbrev k_L_rejectionReason : Nat := 100
def cl_X9_rejectionReason : List Row := [(0, .aload_n 0, 1, 0, [0]), (1, .aload_n 0, 2, 0, [0]), (2, .getfield 47, 5, 0, [9, 5, 0]), (5, .ifCond .eq 7, 8, 0, [12]), (8, .iconst 1, 9, 1, []), (9, .goto 4, 12, 0, [13]), (12, .iconst 0, 13, 0, []), (13, .invokevirtual 171, 16, 0, [6, 140, 2, 9]), (16, .ifCond .eq 10, 19, 0, [26]), (19, .aload_n 0, 20, 0, [0]), (20, .getfield 47, 23, 0, [9, 5, 0]), (23, .goto 4, 26, 0, [27]), (26, .iconst 0, 27, 0, []), (27, .ireturn, 28, 0, [])]
def md_X9_rejectionReason : MDT := (cl_X9_rejectionReason, 1, 0, [])
abbrev k_X9_rejectionReason : Nat := 101
def cl_L_rejectionDetail : List Row := [(0, .aload_n 1, 1, 0, [1]), (1, .iconst 0, 2, 0, []), (2, .aload_n 0, 3, 0, [0]), (3, .invokevirtual 146, 6, 0, [6, 203, 1, 8]), (6, .i2l, 7, 0, []), (7, .lastore, 8, 0, []), (8, .goto 6, 11, 0, [14]), (11, .astore_n 2, 12, 0, [2]), (12, .iconst 1, 13, 1, []), (13, .ireturn, 14, 0, []), (14, .iconst 0, 15, 0, []), (15, .ireturn, 16, 0, [])]
def md_L_rejectionDetail : MDT := (cl_L_rejectionDetail, 3, 0, [(0, 8, 11, 3)])
abbrev k_L_rejectionDetail : Nat := 102
def cl_X9_rejectionDetail : List Row := [(0, .aload_n 0, 1, 0, [0]), (1, .aload_n 0, 2, 0, [0]), (2, .getfield 47, 5, 0, [9, 5, 0]), (5, .ifCond .eq 7, 8, 0, [12]), (8, .iconst 1, 9, 1, []), (9, .goto 4, 12, 0, [13]), (12, .iconst 0, 13, 0, []), (13, .invokevirtual 171, 16, 0, [6, 140, 2, 9]), (16, .ifCond .eq 10, 19, 0, [26]), (19, .aload_n 0, 20, 0, [0]), (20, .getfield 53, 23, 0, [9, 6, 0]), (23, .goto 4, 26, 0, [27]), (26, .iconst 0, 27, 0, []), (27, .ireturn, 28, 0, [])]
def md_X9_rejectionDetail : MDT := (cl_X9_rejectionDetail, 1, 0, [])
abbrev k_X9_rejectionDetail : Nat := 103
def cl_L_causeReason : List Row := [(0, .aload_n 1, 1, 0, [1]), (1, .iconst 0, 2, 0, []), (2, .aload_n 0, 3, 0, [0]), (3, .invokevirtual 149, 6, 0, [6, 204, 1, 8]), (6, .i2l, 7, 0, []), (7, .lastore, 8, 0, []), (8, .goto 6, 11, 0, [14]), (11, .astore_n 2, 12, 0, [2]), (12, .iconst 1, 13, 1, []), (13, .ireturn, 14, 0, []), (14, .iconst 0, 15, 0, []), (15, .ireturn, 16, 0, [])]
def md_L_causeReason : MDT := (cl_L_causeReason, 3, 0, [(0, 8, 11, 3)])
abbrev k_L_causeReason : Nat := 104
def cl_X9_causeReason : List Row := [(0, .aload_n 0, 1, 0, [0]), (1, .aload_n 0, 2, 0, [0]), (2, .getfield 47, 5, 0, [9, 5, 0]), (5, .bipush 6, 7, 6, []), (7, .if_icmp .ne 7, 10, 0, [14]), (10, .iconst 1, 11, 1, []), (11, .goto 4, 14, 0, [15]), (14, .iconst 0, 15, 0, []), (15, .invokevirtual 171, 18, 0, [6, 140, 2, 9]), (18, .ifCond .eq 10, 21, 0, [28]), (21, .aload_n 0, 22, 0, [0]), (22, .getfield 306, 25, 0, [9, 7, 0]), (25, .goto 4, 28, 0, [29]), (28, .iconst 0, 29, 0, []), (29, .ireturn, 30, 0, [])]
def md_X9_causeReason : MDT := (cl_X9_causeReason, 1, 0, [])
abbrev k_X9_causeReason : Nat := 105
def cl_L_undo : List Row := [(0, .aload_n 1, 1, 0, [1]), (1, .iconst 0, 2, 0, []), (2, .aload_n 0, 3, 0, [0]), (3, .invokevirtual 152, 6, 0, [6, 205, 1, 8]), (6, .i2l, 7, 0, []), (7, .lastore, 8, 0, []), (8, .goto 6, 11, 0, [14]), (11, .astore_n 2, 12, 0, [2]), (12, .iconst 1, 13, 1, []), (13, .ireturn, 14, 0, []), (14, .iconst 0, 15, 0, []), (15, .ireturn, 16, 0, [])]
def md_L_undo : MDT := (cl_L_undo, 3, 0, [(0, 8, 11, 4)])
abbrev k_L_undo : Nat := 106
def cl_X9_undo : List Row := [(0, .aload_n 0, 1, 0, [0]), (1, .aload_n 0, 2, 0, [0]), (2, .getfield 38, 5, 0, [9, 2, 0]), (5, .ifCond .le 7, 8, 0, [12]), (8, .iconst 1, 9, 1, []), (9, .goto 4, 12, 0, [13]), (12, .iconst 0, 13, 0, []), (13, .invokevirtual 171, 16, 0, [6, 140, 2, 9]), (16, .ifCond .ne 5, 19, 0, [21]), (19, .iconst 0, 20, 0, []), (20, .ireturn, 21, 0, []), (21, .aload_n 0, 22, 0, [0]), (22, .aload_n 0, 23, 0, [0]), (23, .getfield 38, 26, 0, [9, 2, 0]), (26, .iconst 0, 27, 0, []), (27, .invokevirtual 34, 30, 0, [6, 169, 3, 9]), (30, .aload_n 0, 31, 0, [0]), (31, .dup, 32, 0, []), (32, .getfield 38, 35, 0, [9, 2, 0]), (35, .iconst 1, 36, 1, []), (36, .isub, 37, 0, []), (37, .putfield 38, 40, 0, [9, 2, 0]), (40, .aload_n 0, 41, 0, [0]), (41, .getfield 38, 44, 0, [9, 2, 0]), (44, .ireturn, 45, 0, [])]
def md_X9_undo : MDT := (cl_X9_undo, 1, 0, [])
abbrev k_X9_undo : Nat := 107
def cl_X8_saveSnapshot : List Row := [(0, .aload_n 0, 1, 0, [0]), (1, .getfield 23, 4, 0, [8, 2, 2]), (4, .aload_n 0, 5, 0, [0]), (5, .getfield 12, 8, 0, [8, 0, 2]), (8, .invokevirtual 358, 11, 0, [6, 206, 2, 2]), (11, .aload_n 0, 12, 0, [0]), (12, .iconst 1, 13, 1, []), (13, .putfield 360, 16, 0, [8, 3, 5]), (16, .aload_n 0, 17, 0, [0]), (17, .getfield 12, 20, 0, [8, 0, 2]), (20, .getfield 111, 23, 0, [2, 0, 0]), (23, .ireturn, 24, 0, [])]
def md_X8_saveSnapshot : MDT := (cl_X8_saveSnapshot, 1, 0, [])
abbrev k_X8_saveSnapshot : Nat := 108
def cl_X9_saveSnapshot : List Row := [(0, .aload_n 0, 1, 0, [0]), (1, .iconst 0, 2, 0, []), (2, .putfield 31, 5, 0, [9, 0, 0]), (5, .aload_n 0, 6, 0, [0]), (6, .iconst 1, 7, 1, []), (7, .putfield 309, 10, 0, [9, 3, 5]), (10, .aload_n 0, 11, 0, [0]), (11, .iconst 0, 12, 0, []), (12, .bipush 9, 14, 9, []), (14, .invokevirtual 34, 17, 0, [6, 169, 3, 9]), (17, .aload_n 0, 18, 0, [0]), (18, .getfield 9, 21, 0, [9, 1, 2]), (21, .iconst 0, 22, 0, []), (22, .iaload, 23, 0, []), (23, .ireturn, 24, 0, [])]
def md_X9_saveSnapshot : MDT := (cl_X9_saveSnapshot, 1, 0, [])
abbrev k_X9_saveSnapshot : Nat := 109
def cl_L_restoreSnapshot : List Row := [(0, .aload_n 1, 1, 0, [1]), (1, .iconst 0, 2, 0, []), (2, .aload_n 0, 3, 0, [0]), (3, .invokevirtual 155, 6, 0, [6, 207, 1, 8]), (6, .i2l, 7, 0, []), (7, .lastore, 8, 0, []), (8, .goto 6, 11, 0, [14]), (11, .astore_n 2, 12, 0, [2]), (12, .iconst 1, 13, 1, []), (13, .ireturn, 14, 0, []), (14, .iconst 0, 15, 0, []), (15, .ireturn, 16, 0, [])]
def md_L_restoreSnapshot : MDT := (cl_L_restoreSnapshot, 3, 0, [(0, 8, 11, 4)])
abbrev k_L_restoreSnapshot : Nat := 110
def cl_X9_restoreSnapshot : List Row := [(0, .aload_n 0, 1, 0, [0]), (1, .aload_n 0, 2, 0, [0]), (2, .getfield 309, 5, 0, [9, 3, 5]), (5, .invokevirtual 171, 8, 0, [6, 140, 2, 9]), (8, .ifCond .ne 5, 11, 0, [13]), (11, .iconst 0, 12, 0, []), (12, .ireturn, 13, 0, []), (13, .aload_n 0, 14, 0, [0]), (14, .bipush 9, 16, 9, []), (16, .iconst 0, 17, 0, []), (17, .invokevirtual 34, 20, 0, [6, 169, 3, 9]), (20, .aload_n 0, 21, 0, [0]), (21, .iconst 0, 22, 0, []), (22, .putfield 38, 25, 0, [9, 2, 0]), (25, .aload_n 0, 26, 0, [0]), (26, .getfield 9, 29, 0, [9, 1, 2]), (29, .iconst 0, 30, 0, []), (30, .iaload, 31, 0, []), (31, .ireturn, 32, 0, [])]
def md_X9_restoreSnapshot : MDT := (cl_X9_restoreSnapshot, 1, 0, [])
abbrev k_X9_restoreSnapshot : Nat := 111
def cl_X2_init : List Row := [(0, .aload_n 0, 1, 0, [0]), (1, .invokespecial 3, 4, 0, [1]), (4, .aload_n 0, 5, 0, [0]), (5, .new 9, 8, 0, [0, 2]), (8, .dup, 9, 0, []), (9, .invokespecial 11, 12, 0, [0, 114, 1]), (12, .putfield 12, 15, 0, [2, 1, 2]), (15, .aload_n 0, 16, 0, [0]), (16, .new 9, 19, 0, [0, 2]), (19, .dup, 20, 0, []), (20, .invokespecial 11, 23, 0, [0, 114, 1]), (23, .putfield 18, 26, 0, [2, 2, 2]), (26, .aload_n 0, 27, 0, [0]), (27, .new 21, 30, 0, [1, 7]), (30, .dup, 31, 0, []), (31, .invokespecial 23, 34, 0, [0, 208, 1]), (34, .putfield 24, 37, 0, [2, 3, 2]), (37, .return_, 38, 0, [])]
def md_X2_init : MDT := (cl_X2_init, 1, 0, [])
abbrev k_X2_init : Nat := 112
def cl_X3_init : List Row := [(0, .aload_n 0, 1, 0, [0]), (1, .invokespecial 3, 4, 0, [1]), (4, .aload_n 0, 5, 0, [0]), (5, .bipush 9, 7, 9, []), (7, .anewarray 11, 10, 0, []), (10, .putfield 13, 13, 0, [3, 2, 2]), (13, .iconst 0, 14, 0, []), (14, .istore_n 1, 15, 0, [1]), (15, .iload_n 1, 16, 0, [1]), (16, .bipush 9, 18, 9, []), (18, .if_icmp .ge 22, 21, 0, [40]), (21, .aload_n 0, 22, 0, [0]), (22, .getfield 13, 25, 0, [3, 2, 2]), (25, .iload_n 1, 26, 0, [1]), (26, .new 11, 29, 0, [2, 6]), (29, .dup, 30, 0, []), (30, .invokespecial 17, 33, 0, [0, 112, 1]), (33, .aastore, 34, 0, []), (34, .iinc 1 1, 37, 1, [1]), (37, .goto (-22), 40, 0, [15]), (40, .return_, 41, 0, [])]
def md_X3_init : MDT := (cl_X3_init, 2, 0, [])
abbrev k_X3_init : Nat := 113
def cl_X0_init : List Row := [(0, .aload_n 0, 1, 0, [0]), (1, .invokespecial 3, 4, 0, [1]), (4, .aload_n 0, 5, 0, [0]), (5, .bipush 6, 7, 6, []), (7, .newarray .int, 9, 0, [1]), (9, .putfield 9, 12, 0, [0, 0, 2]), (12, .aload_n 0, 13, 0, [0]), (13, .bipush 6, 15, 6, []), (15, .newarray .int, 17, 0, [1]), (17, .putfield 15, 20, 0, [0, 1, 2]), (20, .return_, 21, 0, [])]
def md_X0_init : MDT := (cl_X0_init, 1, 0, [])
abbrev k_X0_init : Nat := 114
def cl_X5_init : List Row := [(0, .aload_n 0, 1, 0, [0]), (1, .invokespecial 3, 4, 0, [1]), (4, .return_, 5, 0, [])]
def md_X5_init : MDT := (cl_X5_init, 1, 0, [])
abbrev k_X5_init : Nat := 115
def cl_X4_init : List Row := [(0, .aload_n 0, 1, 0, [0]), (1, .invokespecial 3, 4, 0, [1]), (4, .aload_n 0, 5, 0, [0]), (5, .bipush 6, 7, 6, []), (7, .newarray .int, 9, 0, [1]), (9, .putfield 9, 12, 0, [4, 0, 2]), (12, .aload_n 0, 13, 0, [0]), (13, .bipush 10, 15, 10, []), (15, .newarray .int, 17, 0, [1]), (17, .putfield 15, 20, 0, [4, 1, 2]), (20, .return_, 21, 0, [])]
def md_X4_init : MDT := (cl_X4_init, 1, 0, [])
abbrev k_X4_init : Nat := 116
def cl_X6_init : List Row := [(0, .aload_n 0, 1, 0, [0]), (1, .invokespecial 3, 4, 0, [1]), (4, .aload_n 0, 5, 0, [0]), (5, .bipush 6, 7, 6, []), (7, .newarray .int, 9, 0, [1]), (9, .putfield 9, 12, 0, [6, 0, 2]), (12, .aload_n 0, 13, 0, [0]), (13, .new 15, 16, 0, [4, 2]), (16, .dup, 17, 0, []), (17, .invokespecial 17, 20, 0, [0, 116, 1]), (20, .putfield 18, 23, 0, [6, 2, 2]), (23, .return_, 24, 0, [])]
def md_X6_init : MDT := (cl_X6_init, 1, 0, [])
abbrev k_X6_init : Nat := 117
def cl_J4_init_da8c8 : List Row := [(0, .aload_n 0, 1, 0, [0]), (1, .bipush 16, 3, 16, []), (3, .invokespecial 1, 6, 0, [0, 209, 2]), (6, .return_, 7, 0, [])]
def md_J4_init_da8c8 : MDT := (cl_J4_init_da8c8, 1, 0, [])
abbrev k_J4_init_da8c8 : Nat := 118
def cl_X7_init : List Row := [(0, .aload_n 0, 1, 0, [0]), (1, .invokespecial 3, 4, 0, [1]), (4, .aload_n 0, 5, 0, [0]), (5, .new 9, 8, 0, [10, 4]), (8, .dup, 9, 0, []), (9, .invokespecial 11, 12, 0, [0, 118, 1]), (12, .putfield 12, 15, 0, [7, 0, 2]), (15, .aload_n 0, 16, 0, [0]), (16, .bipush 12, 18, 12, []), (18, .newarray .int, 20, 0, [1]), (20, .putfield 18, 23, 0, [7, 3, 2]), (23, .aload_n 0, 24, 0, [0]), (24, .bipush 12, 26, 12, []), (26, .newarray .char, 28, 0, [3]), (28, .putfield 22, 31, 0, [7, 4, 2]), (31, .aload_n 0, 32, 0, [0]), (32, .bipush 12, 34, 12, []), (34, .iconst 3, 35, 3, []), (35, .multianewarray 26 2, 39, 0, []), (39, .putfield 28, 42, 0, [7, 5, 2]), (42, .return_, 43, 0, [])]
def md_X7_init : MDT := (cl_X7_init, 1, 0, [])
abbrev k_X7_init : Nat := 119
def cl_X8_addDoor : List Row := [(0, .iload_n 1, 1, 0, [1]), (1, .iload_n 2, 2, 0, [2]), (2, .invokestatic 72, 5, 0, [0, 210, 2]), (5, .aload_n 0, 6, 0, [0]), (6, .getfield 19, 9, 0, [8, 1, 2]), (9, .aload_n 0, 10, 0, [0]), (10, .getfield 12, 13, 0, [8, 0, 2]), (13, .invokevirtual 76, 16, 0, [6, 128, 2, 3]), (16, .aload_n 0, 17, 0, [0]), (17, .iload_n 1, 18, 0, [1]), (18, .iload_n 2, 19, 0, [2]), (19, .invokevirtual 80, 22, 0, [6, 211, 3, 8]), (22, .istore_n 3, 23, 0, [3]), (23, .iload_n 3, 24, 0, [3]), (24, .iconst (-1), 25, (-1), []), (25, .if_icmp .ne 13, 28, 0, [38]), (28, .new 84, 31, 0, [1]), (38, .aload_n 0, 39, 0, [0]), (39, .getfield 19, 42, 0, [8, 1, 2]), (42, .invokevirtual 91, 45, 0, [6, 130, 1, 3]), (45, .iload_n 3, 46, 0, [3]), (46, .ireturn, 47, 0, [])]
def md_X8_addDoor : MDT := (cl_X8_addDoor, 4, 0, [])
abbrev k_X8_addDoor : Nat := 120
def cl_X9_begins : List Row := [(0, .aload_n 0, 1, 0, [0]), (1, .iconst 0, 2, 0, []), (2, .bipush 10, 4, 10, []), (4, .invokevirtual 34, 7, 0, [6, 169, 3, 9]), (7, .return_, 8, 0, [])]
def md_X9_begins : MDT := (cl_X9_begins, 1, 0, [])
abbrev k_X9_begins : Nat := 121
def cl_X9_adds : List Row := [(0, .iload_n 1, 1, 0, [1]), (1, .iload_n 2, 2, 0, [2]), (2, .invokestatic 109, 5, 0, [0, 212, 2]), (5, .ifCond .ne 5, 8, 0, [10]), (8, .iconst 2, 9, 2, []), (9, .ireturn, 10, 0, []), (10, .aload_n 0, 11, 0, [0]), (11, .getfield 9, 14, 0, [9, 1, 2]), (14, .iconst 0, 15, 0, []), (15, .iaload, 16, 0, []), (16, .istore_n 3, 17, 0, [3]), (17, .iload_n 3, 18, 0, [3]), (18, .bipush 6, 20, 6, []), (20, .if_icmp .ne 11, 23, 0, [31]), (23, .aload_n 0, 24, 0, [0]), (24, .iconst 1, 25, 1, []), (25, .bipush 6, 27, 6, []), (27, .invokevirtual 113, 30, 0, [6, 213, 3, 9]), (30, .ireturn, 31, 0, []), (31, .aload_n 0, 32, 0, [0]), (32, .getfield 9, 35, 0, [9, 1, 2]), (35, .iconst 0, 36, 0, []), (36, .dup2, 37, 0, []), (37, .iaload, 38, 0, []), (38, .iconst 1, 39, 1, []), (39, .iadd, 40, 0, []), (40, .iastore, 41, 0, []), (41, .aload_n 0, 42, 0, [0]), (42, .iload_n 3, 43, 0, [3]), (43, .iconst 0, 44, 0, []), (44, .iload_n 1, 45, 0, [1]), (45, .invokevirtual 71, 48, 0, [6, 214, 4, 9]), (48, .aload_n 0, 49, 0, [0]), (49, .iload_n 3, 50, 0, [3]), (50, .iconst 1, 51, 1, []), (51, .iload_n 2, 52, 0, [2]), (52, .invokevirtual 71, 55, 0, [6, 214, 4, 9]), (55, .aload_n 0, 56, 0, [0]), (56, .iload_n 3, 57, 0, [3]), (57, .iconst 2, 58, 2, []), (58, .iload_n 1, 59, 0, [1]), (59, .invokevirtual 71, 62, 0, [6, 214, 4, 9]), (62, .aload_n 0, 63, 0, [0]), (63, .iload_n 3, 64, 0, [3]), (64, .iconst 3, 65, 3, []), (65, .iload_n 2, 66, 0, [2]), (66, .invokevirtual 71, 69, 0, [6, 214, 4, 9]), (69, .aload_n 0, 70, 0, [0]), (70, .iload_n 3, 71, 0, [3]), (71, .putfield 41, 74, 0, [9, 4, 0]), (74, .iconst 0, 75, 0, []), (75, .ireturn, 76, 0, [])]
def md_X9_adds : MDT := (cl_X9_adds, 4, 0, [])
abbrev k_X9_adds : Nat := 122
def cl_X9_ends : List Row := [(0, .iload_n 1, 1, 0, [1]), (1, .iconst 3, 2, 3, []), (2, .if_icmp .ne 19, 5, 0, [21]), (5, .aload_n 0, 6, 0, [0]), (6, .aload_n 0, 7, 0, [0]), (7, .getfield 44, 10, 0, [9, 8, 0]), (10, .putfield 47, 13, 0, [9, 5, 0]), (13, .aload_n 0, 14, 0, [0]), (14, .aload_n 0, 15, 0, [0]), (15, .getfield 50, 18, 0, [9, 9, 0]), (18, .putfield 53, 21, 0, [9, 6, 0]), (21, .aload_n 0, 22, 0, [0]), (22, .iload_n 1, 23, 0, [1]), (23, .iconst 1, 24, 1, []), (24, .if_icmp .ne 7, 27, 0, [31]), (27, .iload_n 2, 28, 0, [2]), (28, .goto 33, 31, 0, [61]), (31, .iload_n 1, 32, 0, [1]), (32, .iconst 2, 33, 2, []), (33, .if_icmp .ne 7, 36, 0, [40]), (36, .iload_n 3, 37, 0, [3]), (37, .goto 24, 40, 0, [61]), (40, .iload_n 1, 41, 0, [1]), (41, .iconst 3, 42, 3, []), (42, .if_icmp .ne 8, 45, 0, [50]), (45, .iload 4, 47, 0, [4]), (47, .goto 14, 50, 0, [61]), (50, .iload_n 1, 51, 0, [1]), (51, .iconst 4, 52, 4, []), (52, .if_icmp .ne 8, 55, 0, [60]), (55, .iload 5, 57, 0, [5]), (57, .goto 4, 60, 0, [61]), (60, .iconst 0, 61, 0, []), (61, .invokevirtual 56, 64, 0, [6, 200, 2, 9]), (64, .ireturn, 65, 0, [])]
def md_X9_ends : MDT := (cl_X9_ends, 6, 0, [])
abbrev k_X9_ends : Nat := 123
def cl_X8_setFrame : List Row := [(0, .aload_n 0, 1, 0, [0]), (1, .iload_n 1, 2, 0, [1]), (2, .invokevirtual 94, 5, 0, [6, 215, 2, 8]), (5, .iload_n 2, 6, 0, [2]), (6, .iload_n 3, 7, 0, [3]), (7, .invokestatic 72, 10, 0, [0, 210, 2]), (10, .aload_n 0, 11, 0, [0]), (11, .getfield 19, 14, 0, [8, 1, 2]), (14, .aload_n 0, 15, 0, [0]), (15, .getfield 12, 18, 0, [8, 0, 2]), (18, .invokevirtual 76, 21, 0, [6, 128, 2, 3]), (21, .aload_n 0, 22, 0, [0]), (22, .iload_n 1, 23, 0, [1]), (23, .iload_n 2, 24, 0, [2]), (24, .iload_n 3, 25, 0, [3]), (25, .invokevirtual 98, 28, 0, [6, 216, 4, 8]), (28, .istore 4, 30, 0, [4]), (30, .aload_n 0, 31, 0, [0]), (31, .getfield 19, 34, 0, [8, 1, 2]), (34, .invokevirtual 91, 37, 0, [6, 130, 1, 3]), (37, .iload 4, 39, 0, [4]), (39, .ireturn, 40, 0, [])]
def md_X8_setFrame : MDT := (cl_X8_setFrame, 5, 0, [])
abbrev k_X8_setFrame : Nat := 124
def cl_X9_frames : List Row := [(0, .aload_n 0, 1, 0, [0]), (1, .iload_n 1, 2, 0, [1]), (2, .invokevirtual 126, 5, 0, [6, 139, 2, 9]), (5, .ifCond .ne 5, 8, 0, [10]), (8, .iconst 1, 9, 1, []), (9, .ireturn, 10, 0, []), (10, .iload_n 2, 11, 0, [2]), (11, .iload_n 3, 12, 0, [3]), (12, .invokestatic 109, 15, 0, [0, 212, 2]), (15, .ifCond .ne 5, 18, 0, [20]), (18, .iconst 2, 19, 2, []), (19, .ireturn, 20, 0, []), (20, .aload_n 0, 21, 0, [0]), (21, .iconst 0, 22, 0, []), (22, .bipush 11, 24, 11, []), (24, .invokevirtual 34, 27, 0, [6, 169, 3, 9]), (27, .aload_n 0, 28, 0, [0]), (28, .iload_n 1, 29, 0, [1]), (29, .iconst 0, 30, 0, []), (30, .iload_n 2, 31, 0, [2]), (31, .invokevirtual 71, 34, 0, [6, 214, 4, 9]), (34, .aload_n 0, 35, 0, [0]), (35, .iload_n 1, 36, 0, [1]), (36, .iconst 1, 37, 1, []), (37, .iload_n 3, 38, 0, [3]), (38, .invokevirtual 71, 41, 0, [6, 214, 4, 9]), (41, .aload_n 0, 42, 0, [0]), (42, .invokevirtual 129, 45, 0, [6, 217, 1, 9]), (45, .aload_n 0, 46, 0, [0]), (46, .aload_n 0, 47, 0, [0]), (47, .invokevirtual 132, 50, 0, [6, 218, 1, 9]), (50, .putfield 41, 53, 0, [9, 4, 0]), (53, .iconst 0, 54, 0, []), (54, .ireturn, 55, 0, [])]
def md_X9_frames : MDT := (cl_X9_frames, 4, 0, [])
abbrev k_X9_frames : Nat := 125
def cl_X8_narrow : List Row := [(0, .aload_n 0, 1, 0, [0]), (1, .iload_n 1, 2, 0, [1]), (2, .invokevirtual 94, 5, 0, [6, 215, 2, 8]), (5, .iload_n 2, 6, 0, [2]), (6, .iload_n 3, 7, 0, [3]), (7, .invokestatic 72, 10, 0, [0, 210, 2]), (10, .aload_n 0, 11, 0, [0]), (11, .getfield 19, 14, 0, [8, 1, 2]), (14, .aload_n 0, 15, 0, [0]), (15, .getfield 12, 18, 0, [8, 0, 2]), (18, .invokevirtual 76, 21, 0, [6, 128, 2, 3]), (21, .aload_n 0, 22, 0, [0]), (22, .iload_n 1, 23, 0, [1]), (23, .iload_n 2, 24, 0, [2]), (24, .iload_n 3, 25, 0, [3]), (25, .invokevirtual 102, 28, 0, [6, 219, 4, 8]), (28, .istore 4, 30, 0, [4]), (30, .iload 4, 32, 0, [4]), (32, .iconst (-1), 33, (-1), []), (33, .if_icmp .ne 13, 36, 0, [46]), (36, .new 84, 39, 0, [1]), (46, .aload_n 0, 47, 0, [0]), (47, .getfield 19, 50, 0, [8, 1, 2]), (50, .invokevirtual 91, 53, 0, [6, 130, 1, 3]), (53, .iload 4, 55, 0, [4]), (55, .ireturn, 56, 0, [])]
def md_X8_narrow : MDT := (cl_X8_narrow, 5, 0, [])
abbrev k_X8_narrow : Nat := 126
def cl_X9_narrowed : List Row := [(0, .aload_n 0, 1, 0, [0]), (1, .iload_n 1, 2, 0, [1]), (2, .invokevirtual 126, 5, 0, [6, 139, 2, 9]), (5, .ifCond .ne 5, 8, 0, [10]), (8, .iconst 1, 9, 1, []), (9, .ireturn, 10, 0, []), (10, .iload_n 2, 11, 0, [2]), (11, .iload_n 3, 12, 0, [3]), (12, .invokestatic 109, 15, 0, [0, 212, 2]), (15, .ifCond .ne 5, 18, 0, [20]), (18, .iconst 2, 19, 2, []), (19, .ireturn, 20, 0, []), (20, .aload_n 0, 21, 0, [0]), (21, .iload_n 1, 22, 0, [1]), (22, .iconst 2, 23, 2, []), (23, .invokevirtual 68, 26, 0, [6, 171, 3, 9]), (26, .istore 4, 28, 0, [4]), (28, .aload_n 0, 29, 0, [0]), (29, .iload_n 1, 30, 0, [1]), (30, .iconst 3, 31, 3, []), (31, .invokevirtual 68, 34, 0, [6, 171, 3, 9]), (34, .istore 5, 36, 0, [5]), (36, .iload_n 3, 37, 0, [3]), (37, .iload 4, 39, 0, [4]), (39, .if_icmp .lt 9, 42, 0, [48]), (42, .iload_n 2, 43, 0, [2]), (43, .iload 5, 45, 0, [5]), (45, .if_icmp .le 11, 48, 0, [56]), (48, .aload_n 0, 49, 0, [0]), (49, .iconst 4, 50, 4, []), (50, .iload 4, 52, 0, [4]), (52, .invokevirtual 113, 55, 0, [6, 213, 3, 9]), (55, .ireturn, 56, 0, []), (56, .aload_n 0, 57, 0, [0]), (57, .iload_n 1, 58, 0, [1]), (58, .iconst 2, 59, 2, []), (59, .iload_n 2, 60, 0, [2]), (60, .iload 4, 62, 0, [4]), (62, .if_icmp .le 7, 65, 0, [69]), (65, .iload_n 2, 66, 0, [2]), (66, .goto 5, 69, 0, [71]), (69, .iload 4, 71, 0, [4]), (71, .invokevirtual 71, 74, 0, [6, 214, 4, 9]), (74, .aload_n 0, 75, 0, [0]), (75, .iload_n 1, 76, 0, [1]), (76, .iconst 3, 77, 3, []), (77, .iload_n 3, 78, 0, [3]), (78, .iload 5, 80, 0, [5]), (80, .if_icmp .ge 7, 83, 0, [87]), (83, .iload_n 3, 84, 0, [3]), (84, .goto 5, 87, 0, [89]), (87, .iload 5, 89, 0, [5]), (89, .invokevirtual 71, 92, 0, [6, 214, 4, 9]), (92, .aload_n 0, 93, 0, [0]), (93, .iload_n 2, 94, 0, [2]), (94, .iload 4, 96, 0, [4]), (96, .if_icmp .le 7, 99, 0, [103]), (99, .iconst 1, 100, 1, []), (100, .goto 4, 103, 0, [104]), (103, .iconst 0, 104, 0, []), (104, .iload_n 3, 105, 0, [3]), (105, .iload 5, 107, 0, [5]), (107, .if_icmp .ge 7, 110, 0, [114]), (110, .iconst 1, 111, 1, []), (111, .goto 4, 114, 0, [115]), (114, .iconst 0, 115, 0, []), (115, .iadd, 116, 0, []), (116, .putfield 41, 119, 0, [9, 4, 0]), (119, .iconst 0, 120, 0, []), (120, .ireturn, 121, 0, [])]
def md_X9_narrowed : MDT := (cl_X9_narrowed, 6, 0, [])
abbrev k_X9_narrowed : Nat := 127
def cl_X3_prepare : List Row := [(0, .aload_n 0, 1, 0, [0]), (1, .getfield 13, 4, 0, [3, 2, 2]), (4, .aload_n 0, 5, 0, [0]), (5, .getfield 18, 8, 0, [3, 1, 0]), (8, .aaload, 9, 0, []), (9, .aload_n 1, 10, 0, [1]), (10, .invokevirtual 22, 13, 0, [6, 206, 2, 2]), (13, .return_, 14, 0, [])]
def md_X3_prepare : MDT := (cl_X3_prepare, 2, 0, [])
abbrev k_X3_prepare : Nat := 128
def cl_X2_openAll : List Row := [(0, .iconst 0, 1, 0, []), (1, .istore_n 1, 2, 0, [1]), (2, .iconst 0, 3, 0, []), (3, .istore_n 2, 4, 0, [2]), (4, .iload_n 2, 5, 0, [2]), (5, .aload_n 0, 6, 0, [0]), (6, .getfield 28, 9, 0, [2, 0, 0]), (9, .if_icmp .ge 17, 12, 0, [26]), (12, .iload_n 1, 13, 0, [1]), (13, .aload_n 0, 14, 0, [0]), (14, .iload_n 2, 15, 0, [2]), (15, .invokevirtual 52, 18, 0, [6, 220, 2, 2]), (18, .iadd, 19, 0, []), (19, .istore_n 1, 20, 0, [1]), (20, .iinc 2 1, 23, 1, [2]), (23, .goto (-19), 26, 0, [4]), (26, .aload_n 0, 27, 0, [0]), (27, .getfield 18, 30, 0, [2, 2, 2]), (30, .aload_n 0, 31, 0, [0]), (31, .getfield 12, 34, 0, [2, 1, 2]), (34, .invokevirtual 32, 37, 0, [6, 221, 2, 0]), (37, .iload_n 1, 38, 0, [1]), (38, .ireturn, 39, 0, [])]
def md_X2_openAll : MDT := (cl_X2_openAll, 3, 0, [])
abbrev k_X2_openAll : Nat := 129
def cl_X3_keep : List Row := [(0, .aload_n 0, 1, 0, [0]), (1, .aload_n 0, 2, 0, [0]), (2, .getfield 18, 5, 0, [3, 1, 0]), (5, .iconst 1, 6, 1, []), (6, .iadd, 7, 0, []), (7, .bipush 9, 9, 9, []), (9, .if_icmp .ge 12, 12, 0, [21]), (12, .aload_n 0, 13, 0, [0]), (13, .getfield 18, 16, 0, [3, 1, 0]), (16, .iconst 1, 17, 1, []), (17, .iadd, 18, 0, []), (18, .goto 4, 21, 0, [22]), (21, .iconst 0, 22, 0, []), (22, .putfield 18, 25, 0, [3, 1, 0]), (25, .aload_n 0, 26, 0, [0]), (26, .aload_n 0, 27, 0, [0]), (27, .getfield 26, 30, 0, [3, 0, 0]), (30, .iconst 1, 31, 1, []), (31, .iadd, 32, 0, []), (32, .bipush 8, 34, 8, []), (34, .invokestatic 29, 37, 0, [4]), (37, .putfield 26, 40, 0, [3, 0, 0]), (40, .return_, 41, 0, [])]
def md_X3_keep : MDT := (cl_X3_keep, 1, 0, [])
abbrev k_X3_keep : Nat := 130
def cl_X9_resetsAll : List Row := [(0, .aload_n 0, 1, 0, [0]), (1, .iconst 0, 2, 0, []), (2, .bipush 11, 4, 11, []), (4, .invokevirtual 34, 7, 0, [6, 169, 3, 9]), (7, .aload_n 0, 8, 0, [0]), (8, .invokevirtual 129, 11, 0, [6, 217, 1, 9]), (11, .aload_n 0, 12, 0, [0]), (12, .aload_n 0, 13, 0, [0]), (13, .invokevirtual 132, 16, 0, [6, 218, 1, 9]), (16, .putfield 41, 19, 0, [9, 4, 0]), (19, .iconst 0, 20, 0, []), (20, .ireturn, 21, 0, [])]
def md_X9_resetsAll : MDT := (cl_X9_resetsAll, 1, 0, [])
abbrev k_X9_resetsAll : Nat := 131
def cl_X9_told : List Row := [(0, .aload_n 0, 1, 0, [0]), (1, .iconst 0, 2, 0, []), (2, .putfield 31, 5, 0, [9, 0, 0]), (5, .aload_n 0, 6, 0, [0]), (6, .getfield 9, 9, 0, [9, 1, 2]), (9, .iload_n 1, 10, 0, [1]), (10, .iaload, 11, 0, []), (11, .ireturn, 12, 0, [])]
def md_X9_told : MDT := (cl_X9_told, 2, 0, [])
abbrev k_X9_told : Nat := 132
def cl_X8_lowOf : List Row := [(0, .aload_n 0, 1, 0, [0]), (1, .iload_n 1, 2, 0, [1]), (2, .invokevirtual 94, 5, 0, [6, 215, 2, 8]), (5, .aload_n 0, 6, 0, [0]), (6, .getfield 12, 9, 0, [8, 0, 2]), (9, .getfield 114, 12, 0, [2, 2, 2]), (12, .getfield 117, 15, 0, [0, 0, 2]), (15, .iload_n 1, 16, 0, [1]), (16, .iaload, 17, 0, []), (17, .ireturn, 18, 0, [])]
def md_X8_lowOf : MDT := (cl_X8_lowOf, 2, 0, [])
abbrev k_X8_lowOf : Nat := 133
def cl_X9_ofDoor : List Row := [(0, .aload_n 0, 1, 0, [0]), (1, .aload_n 0, 2, 0, [0]), (2, .iload_n 1, 3, 0, [1]), (3, .invokevirtual 126, 6, 0, [6, 139, 2, 9]), (6, .invokevirtual 171, 9, 0, [6, 140, 2, 9]), (9, .ifCond .eq 12, 12, 0, [21]), (12, .aload_n 0, 13, 0, [0]), (13, .iload_n 1, 14, 0, [1]), (14, .iload_n 2, 15, 0, [2]), (15, .invokevirtual 68, 18, 0, [6, 171, 3, 9]), (18, .goto 4, 21, 0, [22]), (21, .iconst 0, 22, 0, []), (22, .ireturn, 23, 0, [])]
def md_X9_ofDoor : MDT := (cl_X9_ofDoor, 3, 0, [])
abbrev k_X9_ofDoor : Nat := 134
def cl_X8_highOf : List Row := [(0, .aload_n 0, 1, 0, [0]), (1, .iload_n 1, 2, 0, [1]), (2, .invokevirtual 94, 5, 0, [6, 215, 2, 8]), (5, .aload_n 0, 6, 0, [0]), (6, .getfield 12, 9, 0, [8, 0, 2]), (9, .getfield 114, 12, 0, [2, 2, 2]), (12, .getfield 121, 15, 0, [0, 1, 2]), (15, .iload_n 1, 16, 0, [1]), (16, .iaload, 17, 0, []), (17, .ireturn, 18, 0, [])]
def md_X8_highOf : MDT := (cl_X8_highOf, 2, 0, [])
abbrev k_X8_highOf : Nat := 135
def cl_X8_frameLow : List Row := [(0, .aload_n 0, 1, 0, [0]), (1, .iload_n 1, 2, 0, [1]), (2, .invokevirtual 94, 5, 0, [6, 215, 2, 8]), (5, .aload_n 0, 6, 0, [0]), (6, .getfield 12, 9, 0, [8, 0, 2]), (9, .getfield 124, 12, 0, [2, 1, 2]), (12, .getfield 117, 15, 0, [0, 0, 2]), (15, .iload_n 1, 16, 0, [1]), (16, .iaload, 17, 0, []), (17, .ireturn, 18, 0, [])]
def md_X8_frameLow : MDT := (cl_X8_frameLow, 2, 0, [])
abbrev k_X8_frameLow : Nat := 136
def cl_X8_frameHigh : List Row := [(0, .aload_n 0, 1, 0, [0]), (1, .iload_n 1, 2, 0, [1]), (2, .invokevirtual 94, 5, 0, [6, 215, 2, 8]), (5, .aload_n 0, 6, 0, [0]), (6, .getfield 12, 9, 0, [8, 0, 2]), (9, .getfield 124, 12, 0, [2, 1, 2]), (12, .getfield 121, 15, 0, [0, 1, 2]), (15, .iload_n 1, 16, 0, [1]), (16, .iaload, 17, 0, []), (17, .ireturn, 18, 0, [])]
def md_X8_frameHigh : MDT := (cl_X8_frameHigh, 2, 0, [])
abbrev k_X8_frameHigh : Nat := 137
def cl_X8_widthOf : List Row := [(0, .aload_n 0, 1, 0, [0]), (1, .iload_n 1, 2, 0, [1]), (2, .invokevirtual 94, 5, 0, [6, 215, 2, 8]), (5, .aload_n 0, 6, 0, [0]), (6, .getfield 12, 9, 0, [8, 0, 2]), (9, .getfield 114, 12, 0, [2, 2, 2]), (12, .iload_n 1, 13, 0, [1]), (13, .invokevirtual 127, 16, 0, [6, 222, 2, 0]), (16, .ireturn, 17, 0, [])]
def md_X8_widthOf : MDT := (cl_X8_widthOf, 2, 0, [])
abbrev k_X8_widthOf : Nat := 138
def cl_X9_isDoor : List Row := [(0, .iload_n 1, 1, 0, [1]), (1, .iconst 0, 2, 0, []), (2, .aload_n 0, 3, 0, [0]), (3, .getfield 9, 6, 0, [9, 1, 2]), (6, .iconst 0, 7, 0, []), (7, .iaload, 8, 0, []), (8, .iconst 1, 9, 1, []), (9, .isub, 10, 0, []), (10, .invokestatic 60, 13, 0, [0, 150, 3]), (13, .ireturn, 14, 0, [])]
def md_X9_isDoor : MDT := (cl_X9_isDoor, 2, 5, [])
abbrev k_X9_isDoor : Nat := 139
def cl_X9_isFine : List Row := [(0, .aload_n 0, 1, 0, [0]), (1, .iload_n 1, 2, 0, [1]), (2, .ifCond .eq 7, 5, 0, [9]), (5, .iconst 0, 6, 0, []), (6, .goto 4, 9, 0, [10]), (9, .iconst 1, 10, 1, []), (10, .putfield 31, 13, 0, [9, 0, 0]), (13, .iload_n 1, 14, 0, [1]), (14, .ireturn, 15, 0, [])]
def md_X9_isFine : MDT := (cl_X9_isFine, 2, 5, [])
abbrev k_X9_isFine : Nat := 140
def cl_X9_width : List Row := [(0, .aload_n 0, 1, 0, [0]), (1, .iload_n 1, 2, 0, [1]), (2, .iconst 3, 3, 3, []), (3, .invokevirtual 68, 6, 0, [6, 171, 3, 9]), (6, .aload_n 0, 7, 0, [0]), (7, .iload_n 1, 8, 0, [1]), (8, .iconst 2, 9, 2, []), (9, .invokevirtual 68, 12, 0, [6, 171, 3, 9]), (12, .isub, 13, 0, []), (13, .iconst 1, 14, 1, []), (14, .iadd, 15, 0, []), (15, .ireturn, 16, 0, [])]
def md_X9_width : MDT := (cl_X9_width, 2, 0, [])
abbrev k_X9_width : Nat := 141
def cl_X8_isFixed : List Row := [(0, .aload_n 0, 1, 0, [0]), (1, .iload_n 1, 2, 0, [1]), (2, .invokevirtual 94, 5, 0, [6, 215, 2, 8]), (5, .aload_n 0, 6, 0, [0]), (6, .getfield 12, 9, 0, [8, 0, 2]), (9, .getfield 114, 12, 0, [2, 2, 2]), (12, .iload_n 1, 13, 0, [1]), (13, .invokevirtual 131, 16, 0, [6, 184, 2, 0]), (16, .ireturn, 17, 0, [])]
def md_X8_isFixed : MDT := (cl_X8_isFixed, 2, 5, [])
abbrev k_X8_isFixed : Nat := 142
def cl_X8_constraintsOf : List Row := [(0, .aload_n 0, 1, 0, [0]), (1, .iload_n 1, 2, 0, [1]), (2, .invokevirtual 94, 5, 0, [6, 215, 2, 8]), (5, .aload_n 0, 6, 0, [0]), (6, .getfield 12, 9, 0, [8, 0, 2]), (9, .getfield 135, 12, 0, [2, 3, 2]), (12, .iload_n 1, 13, 0, [1]), (13, .invokevirtual 139, 16, 0, [6, 223, 2, 1]), (16, .ireturn, 17, 0, [])]
def md_X8_constraintsOf : MDT := (cl_X8_constraintsOf, 2, 0, [])
abbrev k_X8_constraintsOf : Nat := 143
def cl_X9_takesPart : List Row := [(0, .iconst 0, 1, 0, []), (1, .istore_n 2, 2, 0, [2]), (2, .iconst 0, 3, 0, []), (3, .istore_n 3, 4, 0, [3]), (4, .iload_n 3, 5, 0, [3]), (5, .aload_n 0, 6, 0, [0]), (6, .getfield 9, 9, 0, [9, 1, 2]), (9, .iconst 1, 10, 1, []), (10, .iaload, 11, 0, []), (11, .if_icmp .ge 37, 14, 0, [48]), (14, .iload_n 2, 15, 0, [2]), (15, .aload_n 0, 16, 0, [0]), (16, .iload_n 3, 17, 0, [3]), (17, .iconst 2, 18, 2, []), (18, .invokevirtual 64, 21, 0, [6, 151, 3, 9]), (21, .iload_n 1, 22, 0, [1]), (22, .if_icmp .eq 13, 25, 0, [35]), (25, .aload_n 0, 26, 0, [0]), (26, .iload_n 3, 27, 0, [3]), (27, .iconst 3, 28, 3, []), (28, .invokevirtual 64, 31, 0, [6, 151, 3, 9]), (31, .iload_n 1, 32, 0, [1]), (32, .if_icmp .ne 7, 35, 0, [39]), (35, .iconst 1, 36, 1, []), (36, .goto 4, 39, 0, [40]), (39, .iconst 0, 40, 0, []), (40, .iadd, 41, 0, []), (41, .istore_n 2, 42, 0, [2]), (42, .iinc 3 1, 45, 1, [3]), (45, .goto (-41), 48, 0, [4]), (48, .iload_n 2, 49, 0, [2]), (49, .ireturn, 50, 0, [])]
def md_X9_takesPart : MDT := (cl_X9_takesPart, 4, 0, [])
abbrev k_X9_takesPart : Nat := 144
def cl_X8_addConstraint : List Row := [(0, .aload_n 0, 1, 0, [0]), (1, .iload_n 2, 2, 0, [2]), (2, .invokevirtual 94, 5, 0, [6, 215, 2, 8]), (5, .aload_n 0, 6, 0, [0]), (6, .iload_n 3, 7, 0, [3]), (7, .invokevirtual 94, 10, 0, [6, 215, 2, 8]), (10, .iload_n 1, 11, 0, [1]), (11, .iload_n 2, 12, 0, [2]), (12, .iload_n 3, 13, 0, [3]), (13, .iload 4, 15, 0, [4]), (15, .invokestatic 144, 18, 0, [0, 224, 4]), (18, .ifCond .ne 13, 21, 0, [31]), (21, .new 148, 24, 0, [0]), (31, .aload_n 0, 32, 0, [0]), (32, .getfield 19, 35, 0, [8, 1, 2]), (35, .aload_n 0, 36, 0, [0]), (36, .getfield 12, 39, 0, [8, 0, 2]), (39, .invokevirtual 76, 42, 0, [6, 128, 2, 3]), (42, .aload_n 0, 43, 0, [0]), (43, .iload_n 1, 44, 0, [1]), (44, .iload_n 2, 45, 0, [2]), (45, .iload_n 3, 46, 0, [3]), (46, .iload 4, 48, 0, [4]), (48, .invokevirtual 153, 51, 0, [6, 225, 5, 8]), (51, .istore 5, 53, 0, [5]), (53, .iload 5, 55, 0, [5]), (55, .iconst (-1), 56, (-1), []), (56, .if_icmp .ne 13, 59, 0, [69]), (59, .new 84, 62, 0, [1]), (69, .aload_n 0, 70, 0, [0]), (70, .getfield 19, 73, 0, [8, 1, 2]), (73, .invokevirtual 91, 76, 0, [6, 130, 1, 3]), (76, .iload 5, 78, 0, [5]), (78, .ireturn, 79, 0, [])]
def md_X8_addConstraint : MDT := (cl_X8_addConstraint, 6, 0, [])
abbrev k_X8_addConstraint : Nat := 145
def cl_X9_binds_0 : List Row := [(0, .aload_n 0, 1, 0, [0]), (1, .iload_n 2, 2, 0, [2]), (2, .invokevirtual 126, 5, 0, [6, 139, 2, 9]), (5, .ifCond .eq 11, 8, 0, [16]), (8, .aload_n 0, 9, 0, [0]), (9, .iload_n 3, 10, 0, [3]), (10, .invokevirtual 126, 13, 0, [6, 139, 2, 9]), (13, .ifCond .ne 5, 16, 0, [18]), (16, .iconst 1, 17, 1, []), (17, .ireturn, 18, 0, []), (18, .iload_n 1, 19, 0, [1]), (19, .invokestatic 146, 22, 0, [0, 226, 1]), (22, .ifCond .eq 29, 25, 0, [51]), (25, .iload 4, 27, 0, [4]), (27, .iload_n 1, 28, 0, [1]), (28, .bipush 35, 30, 35, []), (30, .if_icmp .ne 7, 33, 0, [37]), (33, .iconst 1, 34, 1, []), (34, .goto 4, 37, 0, [38]), (37, .iconst 0, 38, 0, []), (38, .bipush 20, 40, 20, []), (40, .invokestatic 60, 43, 0, [0, 150, 3]), (43, .ifCond .eq 8, 46, 0, [51]), (46, .iload_n 2, 47, 0, [2]), (47, .iload_n 3, 48, 0, [3]), (48, .if_icmp .ne 5, 51, 0, [53]), (51, .iconst 2, 52, 2, []), (52, .ireturn, 53, 0, []), (53, .aload_n 0, 54, 0, [0]), (54, .getfield 9, 57, 0, [9, 1, 2]), (57, .iconst 1, 58, 1, []), (58, .iaload, 59, 0, []), (59, .bipush 10, 61, 10, []), (61, .if_icmp .ne 15, 64, 0, [76]), (64, .aload_n 0, 65, 0, [0]), (65, .iconst 2, 66, 2, []), (66, .aload_n 0, 67, 0, [0]), (67, .iconst 0, 68, 0, []), (68, .iconst 0, 69, 0, []), (69, .invokevirtual 64, 72, 0, [6, 151, 3, 9]), (72, .invokevirtual 113, 75, 0, [6, 213, 3, 9]), (75, .ireturn, 76, 0, []), (76, .iconst 0, 77, 0, []), (77, .istore 5, 79, 0, [5]), (79, .iload 5, 81, 0, [5]), (81, .aload_n 0, 82, 0, [0]), (82, .getfield 9, 85, 0, [9, 1, 2]), (85, .iconst 1, 86, 1, []), (86, .iaload, 87, 0, []), (87, .if_icmp .ge 67, 90, 0, [154]), (90, .aload_n 0, 91, 0, [0]), (91, .iload 5, 93, 0, [5]), (93, .iconst 1, 94, 1, []), (94, .invokevirtual 64, 97, 0, [6, 151, 3, 9]), (97, .iload_n 1, 98, 0, [1]), (98, .if_icmp .ne 50, 101, 0, [148]), (101, .aload_n 0, 102, 0, [0]), (102, .iload 5, 104, 0, [5]), (104, .iconst 2, 105, 2, []), (105, .invokevirtual 64, 108, 0, [6, 151, 3, 9])]
def cl_X9_binds_1 : List Row := [(108, .iload_n 2, 109, 0, [2]), (109, .if_icmp .ne 39, 112, 0, [148]), (112, .aload_n 0, 113, 0, [0]), (113, .iload 5, 115, 0, [5]), (115, .iconst 3, 116, 3, []), (116, .invokevirtual 64, 119, 0, [6, 151, 3, 9]), (119, .iload_n 3, 120, 0, [3]), (120, .if_icmp .ne 28, 123, 0, [148]), (123, .aload_n 0, 124, 0, [0]), (124, .iload 5, 126, 0, [5]), (126, .iconst 4, 127, 4, []), (127, .invokevirtual 64, 130, 0, [6, 151, 3, 9]), (130, .iload 4, 132, 0, [4]), (132, .if_icmp .ne 16, 135, 0, [148]), (135, .aload_n 0, 136, 0, [0]), (136, .iconst 3, 137, 3, []), (137, .aload_n 0, 138, 0, [0]), (138, .iload 5, 140, 0, [5]), (140, .iconst 0, 141, 0, []), (141, .invokevirtual 64, 144, 0, [6, 151, 3, 9]), (144, .invokevirtual 113, 147, 0, [6, 213, 3, 9]), (147, .ireturn, 148, 0, []), (148, .iinc 5 1, 151, 1, [5]), (151, .goto (-72), 154, 0, [79]), (154, .bipush 29, 156, 29, []), (156, .iconst 5, 157, 5, []), (157, .aload_n 0, 158, 0, [0]), (158, .getfield 9, 161, 0, [9, 1, 2]), (161, .iconst 1, 162, 1, []), (162, .iaload, 163, 0, []), (163, .imul, 164, 0, []), (164, .iadd, 165, 0, []), (165, .istore 5, 167, 0, [5]), (167, .aload_n 0, 168, 0, [0]), (168, .aload_n 0, 169, 0, [0]), (169, .getfield 9, 172, 0, [9, 1, 2]), (172, .iconst 2, 173, 2, []), (173, .iaload, 174, 0, []), (174, .putfield 41, 177, 0, [9, 4, 0]), (177, .aload_n 0, 178, 0, [0]), (178, .getfield 9, 181, 0, [9, 1, 2]), (181, .iload 5, 183, 0, [5]), (183, .iconst 0, 184, 0, []), (184, .iadd, 185, 0, []), (185, .aload_n 0, 186, 0, [0]), (186, .getfield 41, 189, 0, [9, 4, 0]), (189, .iastore, 190, 0, []), (190, .aload_n 0, 191, 0, [0]), (191, .getfield 9, 194, 0, [9, 1, 2]), (194, .iload 5, 196, 0, [5]), (196, .iconst 1, 197, 1, []), (197, .iadd, 198, 0, []), (198, .iload_n 1, 199, 0, [1]), (199, .iastore, 200, 0, []), (200, .aload_n 0, 201, 0, [0]), (201, .getfield 9, 204, 0, [9, 1, 2]), (204, .iload 5, 206, 0, [5]), (206, .iconst 2, 207, 2, []), (207, .iadd, 208, 0, []), (208, .iload_n 2, 209, 0, [2])]
def cl_X9_binds_2 : List Row := [(209, .iastore, 210, 0, []), (210, .aload_n 0, 211, 0, [0]), (211, .getfield 9, 214, 0, [9, 1, 2]), (214, .iload 5, 216, 0, [5]), (216, .iconst 3, 217, 3, []), (217, .iadd, 218, 0, []), (218, .iload_n 3, 219, 0, [3]), (219, .iastore, 220, 0, []), (220, .aload_n 0, 221, 0, [0]), (221, .getfield 9, 224, 0, [9, 1, 2]), (224, .iload 5, 226, 0, [5]), (226, .iconst 4, 227, 4, []), (227, .iadd, 228, 0, []), (228, .iload 4, 230, 0, [4]), (230, .iastore, 231, 0, []), (231, .aload_n 0, 232, 0, [0]), (232, .getfield 9, 235, 0, [9, 1, 2]), (235, .iconst 1, 236, 1, []), (236, .dup2, 237, 0, []), (237, .iaload, 238, 0, []), (238, .iconst 1, 239, 1, []), (239, .iadd, 240, 0, []), (240, .iastore, 241, 0, []), (241, .aload_n 0, 242, 0, [0]), (242, .getfield 9, 245, 0, [9, 1, 2]), (245, .iconst 2, 246, 2, []), (246, .dup2, 247, 0, []), (247, .iaload, 248, 0, []), (248, .iconst 1, 249, 1, []), (249, .iadd, 250, 0, []), (250, .iastore, 251, 0, []), (251, .iconst 0, 252, 0, []), (252, .ireturn, 253, 0, [])]
def cl_X9_binds : List Row := cl_X9_binds_0 ++ cl_X9_binds_1 ++ cl_X9_binds_2
def md_X9_binds : MDT := (cl_X9_binds, 6, 0, [])
abbrev k_X9_binds : Nat := 146
def cl_X8_removeConstraint : List Row := [(0, .aload_n 0, 1, 0, [0]), (1, .iload_n 1, 2, 0, [1]), (2, .invokevirtual 159, 5, 0, [6, 227, 2, 8]), (5, .istore_n 2, 6, 0, [2]), (6, .aload_n 0, 7, 0, [0]), (7, .getfield 19, 10, 0, [8, 1, 2]), (10, .aload_n 0, 11, 0, [0]), (11, .getfield 12, 14, 0, [8, 0, 2]), (14, .invokevirtual 76, 17, 0, [6, 128, 2, 3]), (17, .aload_n 0, 18, 0, [0]), (18, .iload_n 2, 19, 0, [2]), (19, .invokevirtual 162, 22, 0, [6, 228, 2, 8]), (22, .istore_n 3, 23, 0, [3]), (23, .aload_n 0, 24, 0, [0]), (24, .getfield 19, 27, 0, [8, 1, 2]), (27, .invokevirtual 91, 30, 0, [6, 130, 1, 3]), (30, .iload_n 3, 31, 0, [3]), (31, .ireturn, 32, 0, [])]
def md_X8_removeConstraint : MDT := (cl_X8_removeConstraint, 4, 0, [])
abbrev k_X8_removeConstraint : Nat := 147
def cl_X9_drops : List Row := [(0, .aload_n 0, 1, 0, [0]), (1, .iload_n 1, 2, 0, [1]), (2, .invokevirtual 153, 5, 0, [6, 158, 2, 9]), (5, .istore_n 2, 6, 0, [2]), (6, .iload_n 2, 7, 0, [2]), (7, .ifCond .ge 5, 10, 0, [12]), (10, .iconst 4, 11, 4, []), (11, .ireturn, 12, 0, []), (12, .aload_n 0, 13, 0, [0]), (13, .getfield 9, 16, 0, [9, 1, 2]), (16, .iconst 1, 17, 1, []), (17, .iaload, 18, 0, []), (18, .iconst 1, 19, 1, []), (19, .isub, 20, 0, []), (20, .istore_n 3, 21, 0, [3]), (21, .iconst 5, 22, 5, []), (22, .iload_n 2, 23, 0, [2]), (23, .imul, 24, 0, []), (24, .istore 4, 26, 0, [4]), (26, .iload 4, 28, 0, [4]), (28, .iconst 5, 29, 5, []), (29, .iload_n 3, 30, 0, [3]), (30, .imul, 31, 0, []), (31, .if_icmp .ge 31, 34, 0, [62]), (34, .aload_n 0, 35, 0, [0]), (35, .getfield 9, 38, 0, [9, 1, 2]), (38, .bipush 29, 40, 29, []), (40, .iload 4, 42, 0, [4]), (42, .iadd, 43, 0, []), (43, .aload_n 0, 44, 0, [0]), (44, .getfield 9, 47, 0, [9, 1, 2]), (47, .bipush 29, 49, 29, []), (49, .iload 4, 51, 0, [4]), (51, .iadd, 52, 0, []), (52, .iconst 5, 53, 5, []), (53, .iadd, 54, 0, []), (54, .iaload, 55, 0, []), (55, .iastore, 56, 0, []), (56, .iinc 4 1, 59, 1, [4]), (59, .goto (-33), 62, 0, [26]), (62, .iconst 0, 63, 0, []), (63, .istore 4, 65, 0, [4]), (65, .iload 4, 67, 0, [4]), (67, .iconst 5, 68, 5, []), (68, .if_icmp .ge 24, 71, 0, [92]), (71, .aload_n 0, 72, 0, [0]), (72, .getfield 9, 75, 0, [9, 1, 2]), (75, .bipush 29, 77, 29, []), (77, .iconst 5, 78, 5, []), (78, .iload_n 3, 79, 0, [3]), (79, .imul, 80, 0, []), (80, .iadd, 81, 0, []), (81, .iload 4, 83, 0, [4]), (83, .iadd, 84, 0, []), (84, .iconst 0, 85, 0, []), (85, .iastore, 86, 0, []), (86, .iinc 4 1, 89, 1, [4]), (89, .goto (-24), 92, 0, [65]), (92, .aload_n 0, 93, 0, [0]), (93, .getfield 9, 96, 0, [9, 1, 2]), (96, .iconst 1, 97, 1, []), (97, .iload_n 3, 98, 0, [3]), (98, .iastore, 99, 0, []), (99, .aload_n 0, 100, 0, [0]), (100, .invokevirtual 129, 103, 0, [6, 217, 1, 9]), (103, .aload_n 0, 104, 0, [0]), (104, .iload_n 3, 105, 0, [3]), (105, .putfield 41, 108, 0, [9, 4, 0]), (108, .iconst 0, 109, 0, []), (109, .ireturn, 110, 0, [])]
def md_X9_drops : MDT := (cl_X9_drops, 5, 0, [])
abbrev k_X9_drops : Nat := 148
def cl_X8_constraintAt : List Row := [(0, .iload_n 1, 1, 0, [1]), (1, .ifCond .lt 17, 4, 0, [18]), (4, .iload_n 1, 5, 0, [1]), (5, .aload_n 0, 6, 0, [0]), (6, .getfield 12, 9, 0, [8, 0, 2]), (9, .getfield 135, 12, 0, [2, 3, 2]), (12, .getfield 165, 15, 0, [1, 0, 0]), (15, .if_icmp .lt 13, 18, 0, [28]), (18, .new 168, 21, 0, [3]), (28, .aload_n 0, 29, 0, [0]), (29, .getfield 12, 32, 0, [8, 0, 2]), (32, .getfield 135, 35, 0, [2, 3, 2]), (35, .getfield 173, 38, 0, [1, 2, 2]), (38, .iload_n 1, 39, 0, [1]), (39, .iaload, 40, 0, []), (40, .ireturn, 41, 0, [])]
def md_X8_constraintAt : MDT := (cl_X8_constraintAt, 2, 0, [])
abbrev k_X8_constraintAt : Nat := 149
def cl_X9_in : List Row := [(0, .iload_n 0, 1, 0, [0]), (1, .iload_n 1, 2, 0, [1]), (2, .if_icmp .lt 12, 5, 0, [14]), (5, .iload_n 0, 6, 0, [0]), (6, .iload_n 2, 7, 0, [2]), (7, .if_icmp .gt 7, 10, 0, [14]), (10, .iconst 1, 11, 1, []), (11, .goto 4, 14, 0, [15]), (14, .iconst 0, 15, 0, []), (15, .ireturn, 16, 0, [])]
def md_X9_in : MDT := (cl_X9_in, 3, 5, [])
abbrev k_X9_in : Nat := 150
def cl_X9_c : List Row := [(0, .aload_n 0, 1, 0, [0]), (1, .getfield 9, 4, 0, [9, 1, 2]), (4, .bipush 29, 6, 29, []), (6, .iconst 5, 7, 5, []), (7, .iload_n 1, 8, 0, [1]), (8, .imul, 9, 0, []), (9, .iadd, 10, 0, []), (10, .iload_n 2, 11, 0, [2]), (11, .iadd, 12, 0, []), (12, .iaload, 13, 0, []), (13, .ireturn, 14, 0, [])]
def md_X9_c : MDT := (cl_X9_c, 3, 0, [])
abbrev k_X9_c : Nat := 151
def cl_X8_kindOf : List Row := [(0, .aload_n 0, 1, 0, [0]), (1, .getfield 12, 4, 0, [8, 0, 2]), (4, .getfield 135, 7, 0, [2, 3, 2]), (7, .getfield 176, 10, 0, [1, 3, 2]), (10, .aload_n 0, 11, 0, [0]), (11, .iload_n 1, 12, 0, [1]), (12, .invokevirtual 159, 15, 0, [6, 227, 2, 8]), (15, .caload, 16, 0, []), (16, .ireturn, 17, 0, [])]
def md_X8_kindOf : MDT := (cl_X8_kindOf, 2, 3, [])
abbrev k_X8_kindOf : Nat := 152
def cl_X9_ofRule : List Row := [(0, .aload_n 0, 1, 0, [0]), (1, .aload_n 0, 2, 0, [0]), (2, .iload_n 1, 3, 0, [1]), (3, .invokevirtual 153, 6, 0, [6, 158, 2, 9]), (6, .ifCond .lt 7, 9, 0, [13]), (9, .iconst 1, 10, 1, []), (10, .goto 4, 13, 0, [14]), (13, .iconst 0, 14, 0, []), (14, .invokevirtual 171, 17, 0, [6, 140, 2, 9]), (17, .ifCond .eq 16, 20, 0, [33]), (20, .aload_n 0, 21, 0, [0]), (21, .aload_n 0, 22, 0, [0]), (22, .iload_n 1, 23, 0, [1]), (23, .invokevirtual 153, 26, 0, [6, 158, 2, 9]), (26, .iload_n 2, 27, 0, [2]), (27, .invokevirtual 64, 30, 0, [6, 151, 3, 9]), (30, .goto 4, 33, 0, [34]), (33, .iconst 0, 34, 0, []), (34, .ireturn, 35, 0, [])]
def md_X9_ofRule : MDT := (cl_X9_ofRule, 3, 0, [])
abbrev k_X9_ofRule : Nat := 153
def cl_X8_firstOf : List Row := [(0, .aload_n 0, 1, 0, [0]), (1, .getfield 12, 4, 0, [8, 0, 2]), (4, .getfield 135, 7, 0, [2, 3, 2]), (7, .getfield 180, 10, 0, [1, 4, 2]), (10, .aload_n 0, 11, 0, [0]), (11, .iload_n 1, 12, 0, [1]), (12, .invokevirtual 159, 15, 0, [6, 227, 2, 8]), (15, .iaload, 16, 0, []), (16, .ireturn, 17, 0, [])]
def md_X8_firstOf : MDT := (cl_X8_firstOf, 2, 0, [])
abbrev k_X8_firstOf : Nat := 154
def cl_X8_secondOf : List Row := [(0, .aload_n 0, 1, 0, [0]), (1, .getfield 12, 4, 0, [8, 0, 2]), (4, .getfield 135, 7, 0, [2, 3, 2]), (7, .getfield 183, 10, 0, [1, 5, 2]), (10, .aload_n 0, 11, 0, [0]), (11, .iload_n 1, 12, 0, [1]), (12, .invokevirtual 159, 15, 0, [6, 227, 2, 8]), (15, .iaload, 16, 0, []), (16, .ireturn, 17, 0, [])]
def md_X8_secondOf : MDT := (cl_X8_secondOf, 2, 0, [])
abbrev k_X8_secondOf : Nat := 155
def cl_X8_gapOf : List Row := [(0, .aload_n 0, 1, 0, [0]), (1, .getfield 12, 4, 0, [8, 0, 2]), (4, .getfield 135, 7, 0, [2, 3, 2]), (7, .getfield 186, 10, 0, [1, 6, 2]), (10, .aload_n 0, 11, 0, [0]), (11, .iload_n 1, 12, 0, [1]), (12, .invokevirtual 159, 15, 0, [6, 227, 2, 8]), (15, .iaload, 16, 0, []), (16, .ireturn, 17, 0, [])]
def md_X8_gapOf : MDT := (cl_X8_gapOf, 2, 0, [])
abbrev k_X8_gapOf : Nat := 156
def cl_X8_isSafe : List Row := [(0, .aload_n 0, 1, 0, [0]), (1, .getfield 12, 4, 0, [8, 0, 2]), (4, .aload_n 0, 5, 0, [0]), (5, .iload_n 1, 6, 0, [1]), (6, .invokevirtual 159, 9, 0, [6, 227, 2, 8]), (9, .invokevirtual 189, 12, 0, [6, 229, 2, 2]), (12, .ireturn, 13, 0, [])]
def md_X8_isSafe : MDT := (cl_X8_isSafe, 2, 5, [])
abbrev k_X8_isSafe : Nat := 157
def cl_X9_rule : List Row := [(0, .iconst 0, 1, 0, []), (1, .istore_n 2, 2, 0, [2]), (2, .iload_n 2, 3, 0, [2]), (3, .aload_n 0, 4, 0, [0]), (4, .getfield 9, 7, 0, [9, 1, 2]), (7, .iconst 1, 8, 1, []), (8, .iaload, 9, 0, []), (9, .if_icmp .ge 21, 12, 0, [30]), (12, .aload_n 0, 13, 0, [0]), (13, .iload_n 2, 14, 0, [2]), (14, .iconst 0, 15, 0, []), (15, .invokevirtual 64, 18, 0, [6, 151, 3, 9]), (18, .iload_n 1, 19, 0, [1]), (19, .if_icmp .ne 5, 22, 0, [24]), (22, .iload_n 2, 23, 0, [2]), (23, .ireturn, 24, 0, []), (24, .iinc 2 1, 27, 1, [2]), (27, .goto (-25), 30, 0, [2]), (30, .iconst (-1), 31, (-1), []), (31, .ireturn, 32, 0, [])]
def md_X9_rule : MDT := (cl_X9_rule, 3, 0, [])
abbrev k_X9_rule : Nat := 158
def cl_X9_pairs : List Row := [(0, .iconst 0, 1, 0, []), (1, .istore_n 3, 2, 0, [3]), (2, .aload_n 0, 3, 0, [0]), (3, .aload_n 0, 4, 0, [0]), (4, .iload_n 1, 5, 0, [1]), (5, .iconst 2, 6, 2, []), (6, .invokevirtual 64, 9, 0, [6, 151, 3, 9]), (9, .iconst 2, 10, 2, []), (10, .invokevirtual 68, 13, 0, [6, 171, 3, 9]), (13, .istore 4, 15, 0, [4]), (15, .iload 4, 17, 0, [4]), (17, .aload_n 0, 18, 0, [0]), (18, .aload_n 0, 19, 0, [0]), (19, .iload_n 1, 20, 0, [1]), (20, .iconst 2, 21, 2, []), (21, .invokevirtual 64, 24, 0, [6, 151, 3, 9]), (24, .iconst 3, 25, 3, []), (25, .invokevirtual 68, 28, 0, [6, 171, 3, 9]), (28, .if_icmp .gt 75, 31, 0, [103]), (31, .aload_n 0, 32, 0, [0]), (32, .aload_n 0, 33, 0, [0]), (33, .iload_n 1, 34, 0, [1]), (34, .iconst 3, 35, 3, []), (35, .invokevirtual 64, 38, 0, [6, 151, 3, 9]), (38, .iconst 2, 39, 2, []), (39, .invokevirtual 68, 42, 0, [6, 171, 3, 9]), (42, .istore 5, 44, 0, [5]), (44, .iload 5, 46, 0, [5]), (46, .aload_n 0, 47, 0, [0]), (47, .aload_n 0, 48, 0, [0]), (48, .iload_n 1, 49, 0, [1]), (49, .iconst 3, 50, 3, []), (50, .invokevirtual 64, 53, 0, [6, 151, 3, 9]), (53, .iconst 3, 54, 3, []), (54, .invokevirtual 68, 57, 0, [6, 171, 3, 9]), (57, .if_icmp .gt 40, 60, 0, [97]), (60, .iload_n 3, 61, 0, [3]), (61, .aload_n 0, 62, 0, [0]), (62, .iload_n 1, 63, 0, [1]), (63, .iconst 1, 64, 1, []), (64, .invokevirtual 64, 67, 0, [6, 151, 3, 9]), (67, .iload 4, 69, 0, [4]), (69, .iload 5, 71, 0, [5]), (71, .aload_n 0, 72, 0, [0]), (72, .iload_n 1, 73, 0, [1]), (73, .iconst 4, 74, 4, []), (74, .invokevirtual 64, 77, 0, [6, 151, 3, 9]), (77, .invokestatic 187, 80, 0, [0, 230, 4]), (80, .iload_n 2, 81, 0, [2]), (81, .if_icmp .ne 7, 84, 0, [88]), (84, .iconst 1, 85, 1, []), (85, .goto 4, 88, 0, [89]), (88, .iconst 0, 89, 0, []), (89, .iadd, 90, 0, []), (90, .istore_n 3, 91, 0, [3]), (91, .iinc 5 1, 94, 1, [5]), (94, .goto (-50), 97, 0, [44]), (97, .iinc 4 1, 100, 1, [4]), (100, .goto (-85), 103, 0, [15]), (103, .iload_n 3, 104, 0, [3]), (104, .ireturn, 105, 0, [])]
def md_X9_pairs : MDT := (cl_X9_pairs, 6, 0, [])
abbrev k_X9_pairs : Nat := 159
def cl_X8_isBroken : List Row := [(0, .aload_n 0, 1, 0, [0]), (1, .getfield 12, 4, 0, [8, 0, 2]), (4, .aload_n 0, 5, 0, [0]), (5, .iload_n 1, 6, 0, [1]), (6, .invokevirtual 159, 9, 0, [6, 227, 2, 8]), (9, .invokevirtual 192, 12, 0, [6, 231, 2, 2]), (12, .ireturn, 13, 0, [])]
def md_X8_isBroken : MDT := (cl_X8_isBroken, 2, 5, [])
abbrev k_X8_isBroken : Nat := 160
def cl_X8_pass : List Row := [(0, .aload_n 0, 1, 0, [0]), (1, .getfield 19, 4, 0, [8, 1, 2]), (4, .aload_n 0, 5, 0, [0]), (5, .getfield 12, 8, 0, [8, 0, 2]), (8, .invokevirtual 76, 11, 0, [6, 128, 2, 3]), (11, .aload_n 0, 12, 0, [0]), (12, .invokevirtual 195, 15, 0, [6, 232, 1, 8]), (15, .istore_n 1, 16, 0, [1]), (16, .iload_n 1, 17, 0, [1]), (17, .iconst (-1), 18, (-1), []), (18, .if_icmp .ne 13, 21, 0, [31]), (21, .new 84, 24, 0, [1]), (31, .aload_n 0, 32, 0, [0]), (32, .getfield 19, 35, 0, [8, 1, 2]), (35, .invokevirtual 91, 38, 0, [6, 130, 1, 3]), (38, .iload_n 1, 39, 0, [1]), (39, .ireturn, 40, 0, [])]
def md_X8_pass : MDT := (cl_X8_pass, 2, 0, [])
abbrev k_X8_pass : Nat := 161
def cl_X9_passes : List Row := [(0, .aload_n 0, 1, 0, [0]), (1, .iconst 0, 2, 0, []), (2, .putfield 75, 5, 0, [9, 10, 0]), (5, .aload_n 0, 6, 0, [0]), (6, .iconst 0, 7, 0, []), (7, .invokevirtual 105, 10, 0, [6, 233, 2, 9]), (10, .istore_n 1, 11, 0, [1]), (11, .iload_n 1, 12, 0, [1]), (12, .ifCond .lt 15, 15, 0, [27]), (15, .aload_n 0, 16, 0, [0]), (16, .iconst 5, 17, 5, []), (17, .aload_n 0, 18, 0, [0]), (18, .iload_n 1, 19, 0, [1]), (19, .iconst 0, 20, 0, []), (20, .invokevirtual 64, 23, 0, [6, 151, 3, 9]), (23, .invokevirtual 113, 26, 0, [6, 213, 3, 9]), (26, .ireturn, 27, 0, []), (27, .aload_n 0, 28, 0, [0]), (28, .getfield 9, 31, 0, [9, 1, 2]), (31, .iconst 3, 32, 3, []), (32, .dup2, 33, 0, []), (33, .iaload, 34, 0, []), (34, .iconst 1, 35, 1, []), (35, .iadd, 36, 0, []), (36, .iastore, 37, 0, []), (37, .aload_n 0, 38, 0, [0]), (38, .getfield 9, 41, 0, [9, 1, 2]), (41, .iconst 4, 42, 4, []), (42, .dup2, 43, 0, []), (43, .iaload, 44, 0, []), (44, .aload_n 0, 45, 0, [0]), (45, .getfield 75, 48, 0, [9, 10, 0]), (48, .iadd, 49, 0, []), (49, .iastore, 50, 0, []), (50, .aload_n 0, 51, 0, [0]), (51, .aload_n 0, 52, 0, [0]), (52, .getfield 75, 55, 0, [9, 10, 0]), (55, .putfield 41, 58, 0, [9, 4, 0]), (58, .iconst 0, 59, 0, []), (59, .ireturn, 60, 0, [])]
def md_X9_passes : MDT := (cl_X9_passes, 2, 0, [])
abbrev k_X9_passes : Nat := 162
def cl_X8_settle : List Row := [(0, .aload_n 0, 1, 0, [0]), (1, .getfield 19, 4, 0, [8, 1, 2]), (4, .aload_n 0, 5, 0, [0]), (5, .getfield 12, 8, 0, [8, 0, 2]), (8, .invokevirtual 76, 11, 0, [6, 128, 2, 3]), (11, .aload_n 0, 12, 0, [0]), (12, .invokevirtual 200, 15, 0, [6, 234, 1, 8]), (15, .istore_n 1, 16, 0, [1]), (16, .iload_n 1, 17, 0, [1]), (17, .iconst (-1), 18, (-1), []), (18, .if_icmp .ne 13, 21, 0, [31]), (21, .new 84, 24, 0, [1]), (31, .aload_n 0, 32, 0, [0]), (32, .getfield 19, 35, 0, [8, 1, 2]), (35, .invokevirtual 91, 38, 0, [6, 130, 1, 3]), (38, .iload_n 1, 39, 0, [1]), (39, .ireturn, 40, 0, [])]
def md_X8_settle : MDT := (cl_X8_settle, 2, 0, [])
abbrev k_X8_settle : Nat := 163
def cl_X9_settlesAll : List Row := [(0, .aload_n 0, 1, 0, [0]), (1, .iconst 0, 2, 0, []), (2, .putfield 75, 5, 0, [9, 10, 0]), (5, .aload_n 0, 6, 0, [0]), (6, .iconst 0, 7, 0, []), (7, .invokevirtual 162, 10, 0, [6, 170, 2, 9]), (10, .istore_n 1, 11, 0, [1]), (11, .iload_n 1, 12, 0, [1]), (12, .ifCond .ge 18, 15, 0, [30]), (15, .aload_n 0, 16, 0, [0]), (16, .iconst 5, 17, 5, []), (17, .aload_n 0, 18, 0, [0]), (18, .aload_n 0, 19, 0, [0]), (19, .getfield 102, 22, 0, [9, 11, 0]), (22, .iconst 0, 23, 0, []), (23, .invokevirtual 64, 26, 0, [6, 151, 3, 9]), (26, .invokevirtual 113, 29, 0, [6, 213, 3, 9]), (29, .ireturn, 30, 0, []), (30, .aload_n 0, 31, 0, [0]), (31, .getfield 9, 34, 0, [9, 1, 2]), (34, .iconst 3, 35, 3, []), (35, .dup2, 36, 0, []), (36, .iaload, 37, 0, []), (37, .iload_n 1, 38, 0, [1]), (38, .iadd, 39, 0, []), (39, .iastore, 40, 0, []), (40, .aload_n 0, 41, 0, [0]), (41, .getfield 9, 44, 0, [9, 1, 2]), (44, .iconst 4, 45, 4, []), (45, .dup2, 46, 0, []), (46, .iaload, 47, 0, []), (47, .aload_n 0, 48, 0, [0]), (48, .getfield 75, 51, 0, [9, 10, 0]), (51, .iadd, 52, 0, []), (52, .iastore, 53, 0, []), (53, .aload_n 0, 54, 0, [0]), (54, .iload_n 1, 55, 0, [1]), (55, .putfield 41, 58, 0, [9, 4, 0]), (58, .iconst 0, 59, 0, []), (59, .ireturn, 60, 0, [])]
def md_X9_settlesAll : MDT := (cl_X9_settlesAll, 2, 0, [])
abbrev k_X9_settlesAll : Nat := 164
def cl_X8_changesOfTrialPass : List Row := [(0, .aload_n 0, 1, 0, [0]), (1, .getfield 29, 4, 0, [8, 4, 2]), (4, .aload_n 0, 5, 0, [0]), (5, .getfield 12, 8, 0, [8, 0, 2]), (8, .getfield 114, 11, 0, [2, 2, 2]), (11, .invokevirtual 244, 14, 0, [6, 221, 2, 0]), (14, .aload_n 0, 15, 0, [0]), (15, .getfield 36, 18, 0, [8, 5, 2]), (18, .invokevirtual 399, 21, 0, [6, 235, 1, 5]), (21, .aload_n 0, 22, 0, [0]), (22, .getfield 36, 25, 0, [8, 5, 2]), (25, .aload_n 0, 26, 0, [0]), (26, .getfield 12, 29, 0, [8, 0, 2]), (29, .getfield 135, 32, 0, [2, 3, 2]), (32, .aload_n 0, 33, 0, [0]), (33, .getfield 29, 36, 0, [8, 4, 2]), (36, .iconst 1, 37, 1, []), (37, .invokevirtual 402, 40, 0, [6, 236, 4, 5]), (40, .ifCond .eq 13, 43, 0, [53]), (43, .aload_n 0, 44, 0, [0]), (44, .getfield 36, 47, 0, [8, 5, 2]), (47, .getfield 412, 50, 0, [5, 1, 0]), (50, .goto 4, 53, 0, [54]), (53, .iconst (-1), 54, (-1), []), (54, .ireturn, 55, 0, [])]
def md_X8_changesOfTrialPass : MDT := (cl_X8_changesOfTrialPass, 1, 0, [])
abbrev k_X8_changesOfTrialPass : Nat := 165
def cl_X9_would : List Row := [(0, .aload_n 0, 1, 0, [0]), (1, .iconst 0, 2, 0, []), (2, .bipush 11, 4, 11, []), (4, .invokevirtual 34, 7, 0, [6, 169, 3, 9]), (7, .aload_n 0, 8, 0, [0]), (8, .iconst 0, 9, 0, []), (9, .putfield 75, 12, 0, [9, 10, 0]), (12, .aload_n 0, 13, 0, [0]), (13, .iconst 0, 14, 0, []), (14, .invokevirtual 105, 17, 0, [6, 233, 2, 9]), (17, .istore_n 1, 18, 0, [1]), (18, .aload_n 0, 19, 0, [0]), (19, .bipush 11, 21, 11, []), (21, .iconst 0, 22, 0, []), (22, .invokevirtual 34, 25, 0, [6, 169, 3, 9]), (25, .iload_n 1, 26, 0, [1]), (26, .ifCond .ge 10, 29, 0, [36]), (29, .aload_n 0, 30, 0, [0]), (30, .getfield 75, 33, 0, [9, 10, 0]), (33, .goto 4, 36, 0, [37]), (36, .iconst (-1), 37, (-1), []), (37, .ireturn, 38, 0, [])]
def md_X9_would : MDT := (cl_X9_would, 2, 0, [])
abbrev k_X9_would : Nat := 166
def cl_X8_wouldChange : List Row := [(0, .aload_n 0, 1, 0, [0]), (1, .invokevirtual 205, 4, 0, [6, 165, 1, 8]), (4, .istore_n 1, 5, 0, [1]), (5, .iload_n 1, 6, 0, [1]), (6, .iconst (-1), 7, (-1), []), (7, .if_icmp .ne 13, 10, 0, [20]), (10, .new 168, 13, 0, [3]), (20, .iload_n 1, 21, 0, [1]), (21, .ireturn, 22, 0, [])]
def md_X8_wouldChange : MDT := (cl_X8_wouldChange, 2, 0, [])
abbrev k_X8_wouldChange : Nat := 167
def cl_X8_lowestHeight : List Row := [(0, .aload_n 0, 1, 0, [0]), (1, .iload_n 1, 2, 0, [1]), (2, .invokevirtual 94, 5, 0, [6, 215, 2, 8]), (5, .aload_n 0, 6, 0, [0]), (6, .invokevirtual 210, 9, 0, [6, 188, 1, 8]), (9, .ifCond .ne 13, 12, 0, [22]), (12, .new 168, 15, 0, [3]), (22, .aload_n 0, 23, 0, [0]), (23, .getfield 29, 26, 0, [8, 4, 2]), (26, .getfield 117, 29, 0, [0, 0, 2]), (29, .iload_n 1, 30, 0, [1]), (30, .iaload, 31, 0, []), (31, .ireturn, 32, 0, [])]
def md_X8_lowestHeight : MDT := (cl_X8_lowestHeight, 2, 0, [])
abbrev k_X8_lowestHeight : Nat := 168
def cl_X9_copies : List Row := [(0, .iconst 0, 1, 0, []), (1, .istore_n 3, 2, 0, [3]), (2, .iload_n 3, 3, 0, [3]), (3, .bipush 79, 5, 79, []), (5, .if_icmp .ge 31, 8, 0, [36]), (8, .aload_n 0, 9, 0, [0]), (9, .getfield 9, 12, 0, [9, 1, 2]), (12, .bipush 79, 14, 79, []), (14, .iload_n 2, 15, 0, [2]), (15, .imul, 16, 0, []), (16, .iload_n 3, 17, 0, [3]), (17, .iadd, 18, 0, []), (18, .aload_n 0, 19, 0, [0]), (19, .getfield 9, 22, 0, [9, 1, 2]), (22, .bipush 79, 24, 79, []), (24, .iload_n 1, 25, 0, [1]), (25, .imul, 26, 0, []), (26, .iload_n 3, 27, 0, [3]), (27, .iadd, 28, 0, []), (28, .iaload, 29, 0, []), (29, .iastore, 30, 0, []), (30, .iinc 3 1, 33, 1, [3]), (33, .goto (-31), 36, 0, [2]), (36, .return_, 37, 0, [])]
def md_X9_copies : MDT := (cl_X9_copies, 4, 0, [])
abbrev k_X9_copies : Nat := 169
def cl_X9_settles : List Row := [(0, .iconst 0, 1, 0, []), (1, .istore_n 2, 2, 0, [2]), (2, .iconst (-1), 3, (-1), []), (3, .istore_n 3, 4, 0, [3]), (4, .aload_n 0, 5, 0, [0]), (5, .iconst (-1), 6, (-1), []), (6, .putfield 102, 9, 0, [9, 11, 0]), (9, .aload_n 0, 10, 0, [0]), (10, .getfield 102, 13, 0, [9, 11, 0]), (13, .ifCond .ge 31, 16, 0, [44]), (16, .iload_n 3, 17, 0, [3]), (17, .aload_n 0, 18, 0, [0]), (18, .getfield 75, 21, 0, [9, 10, 0]), (21, .if_icmp .eq 23, 24, 0, [44]), (24, .aload_n 0, 25, 0, [0]), (25, .getfield 75, 28, 0, [9, 10, 0]), (28, .istore_n 3, 29, 0, [3]), (29, .aload_n 0, 30, 0, [0]), (30, .aload_n 0, 31, 0, [0]), (31, .iload_n 1, 32, 0, [1]), (32, .invokevirtual 105, 35, 0, [6, 233, 2, 9]), (35, .putfield 102, 38, 0, [9, 11, 0]), (38, .iinc 2 1, 41, 1, [2]), (41, .goto (-32), 44, 0, [9]), (44, .aload_n 0, 45, 0, [0]), (45, .getfield 102, 48, 0, [9, 11, 0]), (48, .ifCond .ge 7, 51, 0, [55]), (51, .iload_n 2, 52, 0, [2]), (52, .goto 4, 55, 0, [56]), (55, .iconst (-1), 56, (-1), []), (56, .ireturn, 57, 0, [])]
def md_X9_settles : MDT := (cl_X9_settles, 4, 0, [])
abbrev k_X9_settles : Nat := 170
def cl_X9_d : List Row := [(0, .aload_n 0, 1, 0, [0]), (1, .getfield 9, 4, 0, [9, 1, 2]), (4, .iconst 5, 5, 5, []), (5, .iconst 4, 6, 4, []), (6, .iload_n 1, 7, 0, [1]), (7, .imul, 8, 0, []), (8, .iadd, 9, 0, []), (9, .iload_n 2, 10, 0, [2]), (10, .iadd, 11, 0, []), (11, .iaload, 12, 0, []), (12, .ireturn, 13, 0, [])]
def md_X9_d : MDT := (cl_X9_d, 3, 0, [])
abbrev k_X9_d : Nat := 171
def cl_X8_lowestHeightByPaths : List Row := [(0, .aload_n 0, 1, 0, [0]), (1, .iload_n 1, 2, 0, [1]), (2, .invokevirtual 94, 5, 0, [6, 215, 2, 8]), (5, .aload_n 0, 6, 0, [0]), (6, .getfield 43, 9, 0, [8, 6, 2]), (9, .aload_n 0, 10, 0, [0]), (10, .getfield 12, 13, 0, [8, 0, 2]), (13, .getfield 135, 16, 0, [2, 3, 2]), (16, .aload_n 0, 17, 0, [0]), (17, .getfield 12, 20, 0, [8, 0, 2]), (20, .getfield 114, 23, 0, [2, 2, 2]), (23, .aload_n 0, 24, 0, [0]), (24, .getfield 12, 27, 0, [8, 0, 2]), (27, .getfield 111, 30, 0, [2, 0, 0]), (30, .invokevirtual 216, 33, 0, [6, 189, 4, 4]), (33, .ifCond .ne 13, 36, 0, [46]), (36, .new 168, 39, 0, [3]), (46, .aload_n 0, 47, 0, [0]), (47, .getfield 43, 50, 0, [8, 6, 2]), (50, .getfield 222, 53, 0, [4, 0, 2]), (53, .iload_n 1, 54, 0, [1]), (54, .iaload, 55, 0, []), (55, .ireturn, 56, 0, [])]
def md_X8_lowestHeightByPaths : MDT := (cl_X8_lowestHeightByPaths, 2, 0, [])
abbrev k_X8_lowestHeightByPaths : Nat := 172
def cl_X6_find : List Row := [(0, .aload_n 0, 1, 0, [0]), (1, .iconst 0, 2, 0, []), (2, .putfield 22, 5, 0, [6, 1, 5]), (5, .aload_n 0, 6, 0, [0]), (6, .aload_n 1, 7, 0, [1]), (7, .aload_n 2, 8, 0, [2]), (8, .iload_n 3, 9, 0, [3]), (9, .iconst 0, 10, 0, []), (10, .invokestatic 26, 13, 0, [0, 237, 5]), (13, .aload_n 0, 14, 0, [0]), (14, .getfield 22, 17, 0, [6, 1, 5]), (17, .ireturn, 18, 0, [])]
def md_X6_find : MDT := (cl_X6_find, 4, 5, [])
abbrev k_X6_find : Nat := 173
def cl_X9_opens : List Row := [(0, .iconst 0, 1, 0, []), (1, .istore_n 1, 2, 0, [1]), (2, .iload_n 1, 3, 0, [1]), (3, .aload_n 0, 4, 0, [0]), (4, .getfield 9, 7, 0, [9, 1, 2]), (7, .iconst 0, 8, 0, []), (8, .iaload, 9, 0, []), (9, .if_icmp .ge 34, 12, 0, [43]), (12, .aload_n 0, 13, 0, [0]), (13, .getfield 13, 16, 0, [9, 12, 2]), (16, .iload_n 1, 17, 0, [1]), (17, .aload_n 0, 18, 0, [0]), (18, .iload_n 1, 19, 0, [1]), (19, .iconst 2, 20, 2, []), (20, .invokevirtual 68, 23, 0, [6, 171, 3, 9]), (23, .invokestatic 212, 26, 0, [0, 238, 1]), (26, .aload_n 0, 27, 0, [0]), (27, .iload_n 1, 28, 0, [1]), (28, .iconst 3, 29, 3, []), (29, .invokevirtual 68, 32, 0, [6, 171, 3, 9]), (32, .invokestatic 216, 35, 0, [0, 239, 1]), (35, .land, 36, 0, []), (36, .lastore, 37, 0, []), (37, .iinc 1 1, 40, 1, [1]), (40, .goto (-38), 43, 0, [2]), (43, .return_, 44, 0, [])]
def md_X9_opens : MDT := (cl_X9_opens, 2, 0, [])
abbrev k_X9_opens : Nat := 174
def cl_X9_isSolvableWith : List Row := [(0, .iconst 0, 1, 0, []), (1, .istore 5, 3, 0, [5]), (3, .iload 5, 5, 0, [5]), (5, .bipush 6, 7, 6, []), (7, .if_icmp .ge 35, 10, 0, [42]), (10, .aload_n 0, 11, 0, [0]), (11, .getfield 13, 14, 0, [9, 12, 2]), (14, .bipush 6, 16, 6, []), (16, .iload_n 1, 17, 0, [1]), (17, .iconst 1, 18, 1, []), (18, .iadd, 19, 0, []), (19, .imul, 20, 0, []), (20, .iload 5, 22, 0, [5]), (22, .iadd, 23, 0, []), (23, .aload_n 0, 24, 0, [0]), (24, .getfield 13, 27, 0, [9, 12, 2]), (27, .bipush 6, 29, 6, []), (29, .iload_n 1, 30, 0, [1]), (30, .imul, 31, 0, []), (31, .iload 5, 33, 0, [5]), (33, .iadd, 34, 0, []), (34, .laload, 35, 0, []), (35, .lastore, 36, 0, []), (36, .iinc 5 1, 39, 1, [5]), (39, .goto (-36), 42, 0, [3]), (42, .aload_n 0, 43, 0, [0]), (43, .getfield 13, 46, 0, [9, 12, 2]), (46, .bipush 6, 48, 6, []), (48, .iload_n 1, 49, 0, [1]), (49, .iconst 1, 50, 1, []), (50, .iadd, 51, 0, []), (51, .imul, 52, 0, []), (52, .iload_n 2, 53, 0, [2]), (53, .iadd, 54, 0, []), (54, .dup2, 55, 0, []), (55, .laload, 56, 0, []), (56, .lload_n 3, 57, 0, [3]), (57, .land, 58, 0, []), (58, .lastore, 59, 0, []), (59, .aload_n 0, 60, 0, [0]), (60, .getfield 13, 63, 0, [9, 12, 2]), (63, .bipush 6, 65, 6, []), (65, .iload_n 1, 66, 0, [1]), (66, .iconst 1, 67, 1, []), (67, .iadd, 68, 0, []), (68, .imul, 69, 0, []), (69, .iload_n 2, 70, 0, [2]), (70, .iadd, 71, 0, []), (71, .laload, 72, 0, []), (72, .lconst 0, 73, 0, []), (73, .lcmp, 74, 0, []), (74, .ifCond .eq 17, 77, 0, [91]), (77, .aload_n 0, 78, 0, [0]), (78, .iload_n 1, 79, 0, [1]), (79, .iconst 1, 80, 1, []), (80, .iadd, 81, 0, []), (81, .invokevirtual 233, 84, 0, [6, 240, 2, 9]), (84, .ifCond .eq 7, 87, 0, [91]), (87, .iconst 1, 88, 1, []), (88, .goto 4, 91, 0, [92]), (91, .iconst 0, 92, 0, []), (92, .ireturn, 93, 0, [])]
def md_X9_isSolvableWith : MDT := (cl_X9_isSolvableWith, 6, 5, [])
abbrev k_X9_isSolvableWith : Nat := 175
def cl_X8_peaceHeight : List Row := [(0, .aload_n 0, 1, 0, [0]), (1, .iload_n 1, 2, 0, [1]), (2, .invokevirtual 94, 5, 0, [6, 215, 2, 8]), (5, .aload_n 0, 6, 0, [0]), (6, .getfield 50, 9, 0, [8, 7, 2]), (9, .aload_n 0, 10, 0, [0]), (10, .getfield 12, 13, 0, [8, 0, 2]), (13, .getfield 135, 16, 0, [2, 3, 2]), (16, .aload_n 0, 17, 0, [0]), (17, .getfield 12, 20, 0, [8, 0, 2]), (20, .getfield 114, 23, 0, [2, 2, 2]), (23, .aload_n 0, 24, 0, [0]), (24, .getfield 12, 27, 0, [8, 0, 2]), (27, .getfield 111, 30, 0, [2, 0, 0]), (30, .invokevirtual 231, 33, 0, [6, 173, 4, 6]), (33, .ifCond .ne 13, 36, 0, [46]), (36, .new 168, 39, 0, [3]), (46, .aload_n 0, 47, 0, [0]), (47, .getfield 50, 50, 0, [8, 7, 2]), (50, .getfield 236, 53, 0, [6, 0, 2]), (53, .iload_n 1, 54, 0, [1]), (54, .iaload, 55, 0, []), (55, .ireturn, 56, 0, [])]
def md_X8_peaceHeight : MDT := (cl_X8_peaceHeight, 2, 0, [])
abbrev k_X8_peaceHeight : Nat := 176
def cl_X9_makesPeace : List Row := [(0, .aload_n 0, 1, 0, [0]), (1, .invokevirtual 239, 4, 0, [6, 65, 1, 9]), (4, .ifCond .ne 5, 7, 0, [9]), (7, .iconst 0, 8, 0, []), (8, .ireturn, 9, 0, []), (9, .iconst 0, 10, 0, []), (10, .istore_n 1, 11, 0, [1]), (11, .iload_n 1, 12, 0, [1]), (12, .aload_n 0, 13, 0, [0]), (13, .getfield 9, 16, 0, [9, 1, 2]), (16, .iconst 0, 17, 0, []), (17, .iaload, 18, 0, []), (18, .if_icmp .ge 43, 21, 0, [61]), (21, .aload_n 0, 22, 0, [0]), (22, .iload_n 1, 23, 0, [1]), (23, .iconst 2, 24, 2, []), (24, .invokevirtual 68, 27, 0, [6, 171, 3, 9]), (27, .istore_n 2, 28, 0, [2]), (28, .aload_n 0, 29, 0, [0]), (29, .iconst 0, 30, 0, []), (30, .iload_n 1, 31, 0, [1]), (31, .lconst 1, 32, 0, []), (32, .iload_n 2, 33, 0, [2]), (33, .lshl, 34, 0, []), (34, .invokevirtual 229, 37, 0, [6, 175, 4, 9]), (37, .ifCond .ne 9, 40, 0, [46]), (40, .iinc 2 1, 43, 1, [2]), (43, .goto (-15), 46, 0, [28]), (46, .aload_n 0, 47, 0, [0]), (47, .getfield 13, 50, 0, [9, 12, 2]), (50, .iload_n 1, 51, 0, [1]), (51, .lconst 1, 52, 0, []), (52, .iload_n 2, 53, 0, [2]), (53, .lshl, 54, 0, []), (54, .lastore, 55, 0, []), (55, .iinc 1 1, 58, 1, [1]), (58, .goto (-47), 61, 0, [11]), (61, .iconst 1, 62, 1, []), (62, .ireturn, 63, 0, [])]
def md_X9_makesPeace : MDT := (cl_X9_makesPeace, 3, 5, [])
abbrev k_X9_makesPeace : Nat := 177
def cl_X9_lowest : List Row := [(0, .iconst 0, 1, 0, []), (1, .istore_n 2, 2, 0, [2]), (2, .lload_n 0, 3, 0, [0]), (3, .iload_n 2, 4, 0, [2]), (4, .lshr, 5, 0, []), (5, .lconst 1, 6, 0, []), (6, .land, 7, 0, []), (7, .lconst 0, 8, 0, []), (8, .lcmp, 9, 0, []), (9, .ifCond .ne 9, 12, 0, [18]), (12, .iinc 2 1, 15, 1, [2]), (15, .goto (-13), 18, 0, [2]), (18, .iload_n 2, 19, 0, [2]), (19, .ireturn, 20, 0, [])]
def md_X9_lowest : MDT := (cl_X9_lowest, 3, 0, [])
abbrev k_X9_lowest : Nat := 178
def cl_X8_peaceSum : List Row := [(0, .aload_n 0, 1, 0, [0]), (1, .getfield 50, 4, 0, [8, 7, 2]), (4, .aload_n 0, 5, 0, [0]), (5, .getfield 12, 8, 0, [8, 0, 2]), (8, .getfield 135, 11, 0, [2, 3, 2]), (11, .aload_n 0, 12, 0, [0]), (12, .getfield 12, 15, 0, [8, 0, 2]), (15, .getfield 114, 18, 0, [2, 2, 2]), (18, .aload_n 0, 19, 0, [0]), (19, .getfield 12, 22, 0, [8, 0, 2]), (22, .getfield 111, 25, 0, [2, 0, 0]), (25, .invokevirtual 231, 28, 0, [6, 173, 4, 6]), (28, .ifCond .ne 13, 31, 0, [41]), (31, .new 168, 34, 0, [3]), (41, .iconst 0, 42, 0, []), (42, .istore_n 1, 43, 0, [1]), (43, .iconst 0, 44, 0, []), (44, .istore_n 2, 45, 0, [2]), (45, .iload_n 2, 46, 0, [2]), (46, .aload_n 0, 47, 0, [0]), (47, .getfield 12, 50, 0, [8, 0, 2]), (50, .getfield 111, 53, 0, [2, 0, 0]), (53, .if_icmp .ge 21, 56, 0, [74]), (56, .iload_n 1, 57, 0, [1]), (57, .aload_n 0, 58, 0, [0]), (58, .getfield 50, 61, 0, [8, 7, 2]), (61, .getfield 236, 64, 0, [6, 0, 2]), (64, .iload_n 2, 65, 0, [2]), (65, .iaload, 66, 0, []), (66, .iadd, 67, 0, []), (67, .istore_n 1, 68, 0, [1]), (68, .iinc 2 1, 71, 1, [2]), (71, .goto (-26), 74, 0, [45]), (74, .iload_n 1, 75, 0, [1]), (75, .ireturn, 76, 0, [])]
def md_X8_peaceSum : MDT := (cl_X8_peaceSum, 3, 0, [])
abbrev k_X8_peaceSum : Nat := 179
def cl_X8_arePossible : List Row := [(0, .aload_n 0, 1, 0, [0]), (1, .iload_n 1, 2, 0, [1]), (2, .invokevirtual 94, 5, 0, [6, 215, 2, 8]), (5, .aload_n 0, 6, 0, [0]), (6, .iload_n 3, 7, 0, [3]), (7, .invokevirtual 94, 10, 0, [6, 215, 2, 8]), (10, .iload_n 2, 11, 0, [2]), (11, .invokestatic 239, 14, 0, [0, 241, 1]), (14, .ifCond .eq 11, 17, 0, [25]), (17, .iload 4, 19, 0, [4]), (19, .invokestatic 239, 22, 0, [0, 241, 1]), (22, .ifCond .ne 13, 25, 0, [35]), (25, .new 148, 28, 0, [0]), (35, .aload_n 0, 36, 0, [0]), (36, .getfield 29, 39, 0, [8, 4, 2]), (39, .aload_n 0, 40, 0, [0]), (40, .getfield 12, 43, 0, [8, 0, 2]), (43, .getfield 114, 46, 0, [2, 2, 2]), (46, .invokevirtual 244, 49, 0, [6, 221, 2, 0]), (49, .aload_n 0, 50, 0, [0]), (50, .getfield 29, 53, 0, [8, 4, 2]), (53, .iload_n 1, 54, 0, [1]), (54, .iload_n 2, 55, 0, [2]), (55, .invokevirtual 248, 58, 0, [6, 242, 3, 0]), (58, .ifCond .eq 48, 61, 0, [106]), (61, .aload_n 0, 62, 0, [0]), (62, .getfield 29, 65, 0, [8, 4, 2]), (65, .iload_n 3, 66, 0, [3]), (66, .iload 4, 68, 0, [4]), (68, .invokevirtual 248, 71, 0, [6, 242, 3, 0]), (71, .ifCond .eq 35, 74, 0, [106]), (74, .aload_n 0, 75, 0, [0]), (75, .getfield 50, 78, 0, [8, 7, 2]), (78, .aload_n 0, 79, 0, [0]), (79, .getfield 12, 82, 0, [8, 0, 2]), (82, .getfield 135, 85, 0, [2, 3, 2]), (85, .aload_n 0, 86, 0, [0]), (86, .getfield 29, 89, 0, [8, 4, 2]), (89, .aload_n 0, 90, 0, [0]), (90, .getfield 12, 93, 0, [8, 0, 2]), (93, .getfield 111, 96, 0, [2, 0, 0]), (96, .invokevirtual 231, 99, 0, [6, 173, 4, 6]), (99, .ifCond .eq 7, 102, 0, [106]), (102, .iconst 1, 103, 1, []), (103, .goto 4, 106, 0, [107]), (106, .iconst 0, 107, 0, []), (107, .ireturn, 108, 0, [])]
def md_X8_arePossible : MDT := (cl_X8_arePossible, 5, 5, [])
abbrev k_X8_arePossible : Nat := 180
def cl_X8_doorByWidth : List Row := [(0, .aload_n 0, 1, 0, [0]), (1, .getfield 12, 4, 0, [8, 0, 2]), (4, .iload_n 1, 5, 0, [1]), (5, .invokevirtual 252, 8, 0, [6, 243, 2, 2]), (8, .istore_n 2, 9, 0, [2]), (9, .iload_n 2, 10, 0, [2]), (10, .iconst (-1), 11, (-1), []), (11, .if_icmp .ne 13, 14, 0, [24]), (14, .new 168, 17, 0, [3]), (24, .iload_n 2, 25, 0, [2]), (25, .ireturn, 26, 0, [])]
def md_X8_doorByWidth : MDT := (cl_X8_doorByWidth, 3, 0, [])
abbrev k_X8_doorByWidth : Nat := 181
def cl_X9_isNarrower : List Row := [(0, .aload_n 0, 1, 0, [0]), (1, .iload_n 1, 2, 0, [1]), (2, .invokevirtual 178, 5, 0, [6, 141, 2, 9]), (5, .aload_n 0, 6, 0, [0]), (6, .iload_n 2, 7, 0, [2]), (7, .invokevirtual 178, 10, 0, [6, 141, 2, 9]), (10, .isub, 11, 0, []), (11, .istore_n 3, 12, 0, [3]), (12, .aload_n 0, 13, 0, [0]), (13, .iload_n 1, 14, 0, [1]), (14, .invokevirtual 181, 17, 0, [6, 144, 2, 9]), (17, .aload_n 0, 18, 0, [0]), (18, .iload_n 2, 19, 0, [2]), (19, .invokevirtual 181, 22, 0, [6, 144, 2, 9]), (22, .isub, 23, 0, []), (23, .istore 4, 25, 0, [4]), (25, .iload_n 3, 26, 0, [3]), (26, .ifCond .lt 22, 29, 0, [48]), (29, .iload_n 3, 30, 0, [3]), (30, .ifCond .ne 22, 33, 0, [52]), (33, .iload 4, 35, 0, [4]), (35, .ifCond .gt 13, 38, 0, [48]), (38, .iload 4, 40, 0, [4]), (40, .ifCond .ne 12, 43, 0, [52]), (43, .iload_n 1, 44, 0, [1]), (44, .iload_n 2, 45, 0, [2]), (45, .if_icmp .ge 7, 48, 0, [52]), (48, .iconst 1, 49, 1, []), (49, .goto 4, 52, 0, [53]), (52, .iconst 0, 53, 0, []), (53, .ireturn, 54, 0, [])]
def md_X9_isNarrower : MDT := (cl_X9_isNarrower, 5, 5, [])
abbrev k_X9_isNarrower : Nat := 182
def cl_X8_constraintByGap : List Row := [(0, .aload_n 0, 1, 0, [0]), (1, .getfield 12, 4, 0, [8, 0, 2]), (4, .getfield 135, 7, 0, [2, 3, 2]), (7, .iload_n 1, 8, 0, [1]), (8, .invokevirtual 255, 11, 0, [6, 244, 2, 1]), (11, .istore_n 2, 12, 0, [2]), (12, .iload_n 2, 13, 0, [2]), (13, .iconst (-1), 14, (-1), []), (14, .if_icmp .ne 13, 17, 0, [27]), (17, .new 168, 20, 0, [3]), (27, .aload_n 0, 28, 0, [0]), (28, .getfield 12, 31, 0, [8, 0, 2]), (31, .getfield 135, 34, 0, [2, 3, 2]), (34, .getfield 173, 37, 0, [1, 2, 2]), (37, .iload_n 2, 38, 0, [2]), (38, .iaload, 39, 0, []), (39, .ireturn, 40, 0, [])]
def md_X8_constraintByGap : MDT := (cl_X8_constraintByGap, 3, 0, [])
abbrev k_X8_constraintByGap : Nat := 183
def cl_X0_isOneHeight : List Row := [(0, .aload_n 0, 1, 0, [0]), (1, .getfield 9, 4, 0, [0, 0, 2]), (4, .iload_n 1, 5, 0, [1]), (5, .iaload, 6, 0, []), (6, .aload_n 0, 7, 0, [0]), (7, .getfield 15, 10, 0, [0, 1, 2]), (10, .iload_n 1, 11, 0, [1]), (11, .iaload, 12, 0, []), (12, .if_icmp .ne 7, 15, 0, [19]), (15, .iconst 1, 16, 1, []), (16, .goto 4, 19, 0, [20]), (19, .iconst 0, 20, 0, []), (20, .ireturn, 21, 0, [])]
def md_X0_isOneHeight : MDT := (cl_X0_isOneHeight, 2, 5, [])
abbrev k_X0_isOneHeight : Nat := 184
def cl_X0_sumOfWidths : List Row := [(0, .iconst 0, 1, 0, []), (1, .istore_n 2, 2, 0, [2]), (2, .iconst 0, 3, 0, []), (3, .istore_n 3, 4, 0, [3]), (4, .iload_n 3, 5, 0, [3]), (5, .iload_n 1, 6, 0, [1]), (6, .if_icmp .ge 17, 9, 0, [23]), (9, .iload_n 2, 10, 0, [2]), (10, .aload_n 0, 11, 0, [0]), (11, .iload_n 3, 12, 0, [3]), (12, .invokevirtual 28, 15, 0, [6, 222, 2, 0]), (15, .iadd, 16, 0, []), (16, .istore_n 2, 17, 0, [2]), (17, .iinc 3 1, 20, 1, [3]), (20, .goto (-16), 23, 0, [4]), (23, .iload_n 2, 24, 0, [2]), (24, .ireturn, 25, 0, [])]
def md_X0_sumOfWidths : MDT := (cl_X0_sumOfWidths, 4, 0, [])
abbrev k_X0_sumOfWidths : Nat := 185
def cl_X8_meanWidth : List Row := [(0, .aload_n 0, 1, 0, [0]), (1, .getfield 12, 4, 0, [8, 0, 2]), (4, .getfield 111, 7, 0, [2, 0, 0]), (7, .ifCond .ne 14, 10, 0, [21]), (10, .new 261, 13, 0, [5]), (21, .aload_n 0, 22, 0, [0]), (22, .invokevirtual 266, 25, 0, [6, 78, 1, 8]), (25, .i2d, 26, 0, []), (26, .aload_n 0, 27, 0, [0]), (27, .getfield 12, 30, 0, [8, 0, 2]), (30, .getfield 111, 33, 0, [2, 0, 0]), (33, .i2d, 34, 0, []), (34, .ddiv, 35, 0, []), (35, .dreturn, 36, 0, [])]
def md_X8_meanWidth : MDT := (cl_X8_meanWidth, 1, 0, [])
abbrev k_X8_meanWidth : Nat := 186
def cl_X8_fixedShare : List Row := [(0, .aload_n 0, 1, 0, [0]), (1, .getfield 12, 4, 0, [8, 0, 2]), (4, .getfield 111, 7, 0, [2, 0, 0]), (7, .ifCond .ne 14, 10, 0, [21]), (10, .new 261, 13, 0, [5]), (21, .aload_n 0, 22, 0, [0]), (22, .invokevirtual 269, 25, 0, [6, 76, 1, 8]), (25, .i2f, 26, 0, []), (26, .aload_n 0, 27, 0, [0]), (27, .getfield 12, 30, 0, [8, 0, 2]), (30, .getfield 111, 33, 0, [2, 0, 0]), (33, .i2f, 34, 0, []), (34, .fdiv, 35, 0, []), (35, .freturn, 36, 0, [])]
def md_X8_fixedShare : MDT := (cl_X8_fixedShare, 1, 0, [])
abbrev k_X8_fixedShare : Nat := 187
def cl_X8_settleTrialWithoutApart : List Row := [(0, .aload_n 0, 1, 0, [0]), (1, .getfield 29, 4, 0, [8, 4, 2]), (4, .aload_n 0, 5, 0, [0]), (5, .getfield 12, 8, 0, [8, 0, 2]), (8, .getfield 114, 11, 0, [2, 2, 2]), (11, .invokevirtual 244, 14, 0, [6, 221, 2, 0]), (14, .aload_n 0, 15, 0, [0]), (15, .getfield 36, 18, 0, [8, 5, 2]), (18, .invokevirtual 399, 21, 0, [6, 235, 1, 5]), (21, .aload_n 0, 22, 0, [0]), (22, .getfield 36, 25, 0, [8, 5, 2]), (25, .aload_n 0, 26, 0, [0]), (26, .getfield 12, 29, 0, [8, 0, 2]), (29, .getfield 135, 32, 0, [2, 3, 2]), (32, .aload_n 0, 33, 0, [0]), (33, .getfield 29, 36, 0, [8, 4, 2]), (36, .iconst 0, 37, 0, []), (37, .invokevirtual 413, 40, 0, [6, 245, 4, 5]), (40, .ireturn, 41, 0, [])]
def md_X8_settleTrialWithoutApart : MDT := (cl_X8_settleTrialWithoutApart, 1, 5, [])
abbrev k_X8_settleTrialWithoutApart : Nat := 188
def cl_X4_climb : List Row := [(0, .aload_n 2, 1, 0, [2]), (1, .getfield 18, 4, 0, [0, 0, 2]), (4, .iconst 0, 5, 0, []), (5, .aload_n 0, 6, 0, [0]), (6, .getfield 9, 9, 0, [4, 0, 2]), (9, .iconst 0, 10, 0, []), (10, .bipush 6, 12, 6, []), (12, .invokestatic 23, 15, 0, [2]), (15, .iconst 1, 16, 1, []), (16, .istore 4, 18, 0, [4]), (18, .iconst 0, 19, 0, []), (19, .istore 5, 21, 0, [5]), (21, .iload 4, 23, 0, [4]), (23, .ifCond .eq 22, 26, 0, [45]), (26, .iload 5, 28, 0, [5]), (28, .iload_n 3, 29, 0, [3]), (29, .if_icmp .gt 16, 32, 0, [45]), (32, .aload_n 0, 33, 0, [0]), (33, .aload_n 1, 34, 0, [1]), (34, .invokevirtual 29, 37, 0, [6, 246, 2, 4]), (37, .istore 4, 39, 0, [4]), (39, .iinc 5 1, 42, 1, [5]), (42, .goto (-21), 45, 0, [21]), (45, .iload 4, 47, 0, [4]), (47, .ifCond .eq 5, 50, 0, [52]), (50, .iconst 0, 51, 0, []), (51, .ireturn, 52, 0, []), (52, .iconst 0, 53, 0, []), (53, .istore 5, 55, 0, [5]), (55, .iload 5, 57, 0, [5]), (57, .iload_n 3, 58, 0, [3]), (58, .if_icmp .ge 28, 61, 0, [86]), (61, .aload_n 0, 62, 0, [0]), (62, .getfield 9, 65, 0, [4, 0, 2]), (65, .iload 5, 67, 0, [5]), (67, .iaload, 68, 0, []), (68, .aload_n 2, 69, 0, [2]), (69, .getfield 33, 72, 0, [0, 1, 2]), (72, .iload 5, 74, 0, [5]), (74, .iaload, 75, 0, []), (75, .if_icmp .le 5, 78, 0, [80]), (78, .iconst 0, 79, 0, []), (79, .ireturn, 80, 0, []), (80, .iinc 5 1, 83, 1, [5]), (83, .goto (-28), 86, 0, [55]), (86, .iconst 1, 87, 1, []), (87, .ireturn, 88, 0, [])]
def md_X4_climb : MDT := (cl_X4_climb, 6, 5, [])
abbrev k_X4_climb : Nat := 189
def cl_X2_isInOrder : List Row := [(0, .aload_n 0, 1, 0, [0]), (1, .getfield 18, 4, 0, [2, 2, 2]), (4, .iload_n 1, 5, 0, [1]), (5, .invokevirtual 56, 8, 0, [6, 247, 2, 0]), (8, .ifCond .ne 49, 11, 0, [57]), (11, .aload_n 0, 12, 0, [0]), (12, .getfield 18, 15, 0, [2, 2, 2]), (15, .getfield 45, 18, 0, [0, 0, 2]), (18, .iload_n 1, 19, 0, [1]), (19, .iaload, 20, 0, []), (20, .aload_n 0, 21, 0, [0]), (21, .getfield 12, 24, 0, [2, 1, 2]), (24, .getfield 45, 27, 0, [0, 0, 2]), (27, .iload_n 1, 28, 0, [1]), (28, .iaload, 29, 0, []), (29, .if_icmp .lt 28, 32, 0, [57]), (32, .aload_n 0, 33, 0, [0]), (33, .getfield 18, 36, 0, [2, 2, 2]), (36, .getfield 49, 39, 0, [0, 1, 2]), (39, .iload_n 1, 40, 0, [1]), (40, .iaload, 41, 0, []), (41, .aload_n 0, 42, 0, [0]), (42, .getfield 12, 45, 0, [2, 1, 2]), (45, .getfield 49, 48, 0, [0, 1, 2]), (48, .iload_n 1, 49, 0, [1]), (49, .iaload, 50, 0, []), (50, .if_icmp .gt 7, 53, 0, [57]), (53, .iconst 1, 54, 1, []), (54, .goto 4, 57, 0, [58]), (57, .iconst 0, 58, 0, []), (58, .ireturn, 59, 0, [])]
def md_X2_isInOrder : MDT := (cl_X2_isInOrder, 2, 5, [])
abbrev k_X2_isInOrder : Nat := 190
def cl_X8_writeDoor : List Row := [(0, .aload_n 0, 1, 0, [0]), (1, .iload_n 1, 2, 0, [1]), (2, .invokevirtual 94, 5, 0, [6, 215, 2, 8]), (5, .aload_n 0, 6, 0, [0]), (6, .getfield 57, 9, 0, [8, 8, 2]), (9, .iconst 0, 10, 0, []), (10, .invokevirtual 275, 13, 0, [6, 248, 2, 10]), (13, .aload_n 0, 14, 0, [0]), (14, .getfield 57, 17, 0, [8, 8, 2]), (17, .iload_n 1, 18, 0, [1]), (18, .invokevirtual 278, 21, 0, [6, 249, 2, 10]), (21, .bipush 91, 23, 91, []), (23, .invokevirtual 282, 26, 0, [6, 250, 2, 10]), (26, .aload_n 0, 27, 0, [0]), (27, .getfield 12, 30, 0, [8, 0, 2]), (30, .getfield 114, 33, 0, [2, 2, 2]), (33, .getfield 117, 36, 0, [0, 0, 2]), (36, .iload_n 1, 37, 0, [1]), (37, .iaload, 38, 0, []), (38, .invokevirtual 278, 41, 0, [6, 249, 2, 10]), (41, .pop, 42, 0, []), (42, .aload_n 0, 43, 0, [0]), (43, .getfield 12, 46, 0, [8, 0, 2]), (46, .getfield 114, 49, 0, [2, 2, 2]), (49, .iload_n 1, 50, 0, [1]), (50, .invokevirtual 131, 53, 0, [6, 184, 2, 0]), (53, .ifCond .ne 29, 56, 0, [82]), (56, .aload_n 0, 57, 0, [0]), (57, .getfield 57, 60, 0, [8, 8, 2]), (60, .ldc_w 285, 63, 0, [0]), (63, .invokevirtual 287, 66, 0, [6, 251, 2, 10]), (66, .aload_n 0, 67, 0, [0]), (67, .getfield 12, 70, 0, [8, 0, 2]), (70, .getfield 114, 73, 0, [2, 2, 2]), (73, .getfield 121, 76, 0, [0, 1, 2]), (76, .iload_n 1, 77, 0, [1]), (77, .iaload, 78, 0, []), (78, .invokevirtual 278, 81, 0, [6, 249, 2, 10]), (81, .pop, 82, 0, []), (82, .aload_n 0, 83, 0, [0]), (83, .getfield 57, 86, 0, [8, 8, 2]), (86, .bipush 93, 88, 93, []), (88, .invokevirtual 282, 91, 0, [6, 250, 2, 10]), (91, .pop, 92, 0, []), (92, .aload_n 0, 93, 0, [0]), (93, .getfield 12, 96, 0, [8, 0, 2]), (96, .iload_n 1, 97, 0, [1]), (97, .invokevirtual 290, 100, 0, [6, 220, 2, 2]), (100, .ifCond .le 13, 103, 0, [113]), (103, .aload_n 0, 104, 0, [0]), (104, .getfield 57, 107, 0, [8, 8, 2]), (107, .bipush 42, 109, 42, []), (109, .invokevirtual 282, 112, 0, [6, 250, 2, 10]), (112, .pop, 113, 0, []), (113, .aload_n 0, 114, 0, [0]), (114, .getfield 57, 117, 0, [8, 8, 2]), (117, .invokevirtual 293, 120, 0, [6, 252, 1, 10]), (120, .ireturn, 121, 0, [])]
def md_X8_writeDoor : MDT := (cl_X8_writeDoor, 2, 0, [])
abbrev k_X8_writeDoor : Nat := 191
def cl_X9_writesNumber : List Row := [(0, .iload_n 1, 1, 0, [1]), (1, .bipush 9, 3, 9, []), (3, .if_icmp .le 11, 6, 0, [14]), (6, .aload_n 0, 7, 0, [0]), (7, .iload_n 1, 8, 0, [1]), (8, .bipush 10, 10, 10, []), (10, .idiv, 11, 0, []), (11, .invokevirtual 258, 14, 0, [6, 192, 2, 9]), (14, .aload_n 0, 15, 0, [0]), (15, .bipush 48, 17, 48, []), (17, .iload_n 1, 18, 0, [1]), (18, .bipush 10, 20, 10, []), (20, .irem, 21, 0, []), (21, .iadd, 22, 0, []), (22, .invokevirtual 261, 25, 0, [6, 193, 2, 9]), (25, .return_, 26, 0, [])]
def md_X9_writesNumber : MDT := (cl_X9_writesNumber, 2, 0, [])
abbrev k_X9_writesNumber : Nat := 192
def cl_X9_writes : List Row := [(0, .aload_n 0, 1, 0, [0]), (1, .getfield 17, 4, 0, [9, 13, 2]), (4, .aload_n 0, 5, 0, [0]), (5, .getfield 255, 8, 0, [9, 14, 0]), (8, .iload_n 1, 9, 0, [1]), (9, .i2c, 10, 0, []), (10, .castore, 11, 0, []), (11, .aload_n 0, 12, 0, [0]), (12, .dup, 13, 0, []), (13, .getfield 255, 16, 0, [9, 14, 0]), (16, .iconst 1, 17, 1, []), (17, .iadd, 18, 0, []), (18, .putfield 255, 21, 0, [9, 14, 0]), (21, .return_, 22, 0, [])]
def md_X9_writes : MDT := (cl_X9_writes, 2, 0, [])
abbrev k_X9_writes : Nat := 193
def cl_X8_writeConstraint : List Row := [(0, .aload_n 0, 1, 0, [0]), (1, .iload_n 1, 2, 0, [1]), (2, .invokevirtual 159, 5, 0, [6, 227, 2, 8]), (5, .istore_n 2, 6, 0, [2]), (6, .aload_n 0, 7, 0, [0]), (7, .getfield 12, 10, 0, [8, 0, 2]), (10, .getfield 135, 13, 0, [2, 3, 2]), (13, .astore_n 3, 14, 0, [3]), (14, .aload_n 0, 15, 0, [0]), (15, .getfield 57, 18, 0, [8, 8, 2]), (18, .iconst 0, 19, 0, []), (19, .invokevirtual 275, 22, 0, [6, 248, 2, 10]), (22, .aload_n 0, 23, 0, [0]), (23, .getfield 57, 26, 0, [8, 8, 2]), (26, .iload_n 1, 27, 0, [1]), (27, .invokevirtual 278, 30, 0, [6, 249, 2, 10]), (30, .bipush 58, 32, 58, []), (32, .invokevirtual 282, 35, 0, [6, 250, 2, 10]), (35, .aload_n 3, 36, 0, [3]), (36, .getfield 180, 39, 0, [1, 4, 2]), (39, .iload_n 2, 40, 0, [2]), (40, .iaload, 41, 0, []), (41, .invokevirtual 278, 44, 0, [6, 249, 2, 10]), (44, .pop, 45, 0, []), (45, .aload_n 0, 46, 0, [0]), (46, .getfield 57, 49, 0, [8, 8, 2]), (49, .aload_n 3, 50, 0, [3]), (50, .getfield 176, 53, 0, [1, 3, 2]), (53, .iload_n 2, 54, 0, [2]), (54, .caload, 55, 0, []), (55, .invokevirtual 282, 58, 0, [6, 250, 2, 10]), (58, .aload_n 3, 59, 0, [3]), (59, .getfield 183, 62, 0, [1, 5, 2]), (62, .iload_n 2, 63, 0, [2]), (63, .iaload, 64, 0, []), (64, .invokevirtual 278, 67, 0, [6, 249, 2, 10]), (67, .pop, 68, 0, []), (68, .aload_n 3, 69, 0, [3]), (69, .getfield 186, 72, 0, [1, 6, 2]), (72, .iload_n 2, 73, 0, [2]), (73, .iaload, 74, 0, []), (74, .ifCond .eq 22, 77, 0, [96]), (77, .aload_n 0, 78, 0, [0]), (78, .getfield 57, 81, 0, [8, 8, 2]), (81, .bipush 43, 83, 43, []), (83, .invokevirtual 282, 86, 0, [6, 250, 2, 10]), (86, .aload_n 3, 87, 0, [3]), (87, .getfield 186, 90, 0, [1, 6, 2]), (90, .iload_n 2, 91, 0, [2]), (91, .iaload, 92, 0, []), (92, .invokevirtual 278, 95, 0, [6, 249, 2, 10]), (95, .pop, 96, 0, []), (96, .aload_n 0, 97, 0, [0]), (97, .getfield 57, 100, 0, [8, 8, 2]), (100, .invokevirtual 293, 103, 0, [6, 252, 1, 10]), (103, .ireturn, 104, 0, [])]
def md_X8_writeConstraint : MDT := (cl_X8_writeConstraint, 4, 0, [])
abbrev k_X8_writeConstraint : Nat := 194
def cl_X8_outputAt : List Row := [(0, .iload_n 1, 1, 0, [1]), (1, .ifCond .lt 14, 4, 0, [15]), (4, .iload_n 1, 5, 0, [1]), (5, .aload_n 0, 6, 0, [0]), (6, .getfield 57, 9, 0, [8, 8, 2]), (9, .invokevirtual 293, 12, 0, [6, 252, 1, 10]), (12, .if_icmp .lt 14, 15, 0, [26]), (15, .new 296, 18, 0, [2]), (26, .aload_n 0, 27, 0, [0]), (27, .getfield 57, 30, 0, [8, 8, 2]), (30, .iload_n 1, 31, 0, [1]), (31, .invokevirtual 301, 34, 0, [6, 253, 2, 10]), (34, .ireturn, 35, 0, [])]
def md_X8_outputAt : MDT := (cl_X8_outputAt, 2, 3, [])
abbrev k_X8_outputAt : Nat := 195
def cl_X8_appendInput : List Row := [(0, .iload_n 1, 1, 0, [1]), (1, .bipush 32, 3, 32, []), (3, .if_icmp .lt 9, 6, 0, [12]), (6, .iload_n 1, 7, 0, [1]), (7, .bipush 126, 9, 126, []), (9, .if_icmp .le 14, 12, 0, [23]), (12, .new 148, 15, 0, [0]), (23, .aload_n 0, 24, 0, [0]), (24, .getfield 64, 27, 0, [8, 9, 2]), (27, .getfield 307, 30, 0, [7, 0, 2]), (30, .invokevirtual 293, 33, 0, [6, 252, 1, 10]), (33, .bipush 60, 35, 60, []), (35, .if_icmp .lt 14, 38, 0, [49]), (38, .new 310, 41, 0, [4]), (49, .aload_n 0, 50, 0, [0]), (50, .getfield 64, 53, 0, [8, 9, 2]), (53, .getfield 307, 56, 0, [7, 0, 2]), (56, .iload_n 1, 57, 0, [1]), (57, .invokevirtual 282, 60, 0, [6, 250, 2, 10]), (60, .pop, 61, 0, []), (61, .aload_n 0, 62, 0, [0]), (62, .getfield 64, 65, 0, [8, 9, 2]), (65, .getfield 307, 68, 0, [7, 0, 2]), (68, .invokevirtual 293, 71, 0, [6, 252, 1, 10]), (71, .ireturn, 72, 0, [])]
def md_X8_appendInput : MDT := (cl_X8_appendInput, 2, 0, [])
abbrev k_X8_appendInput : Nat := 196
def cl_X8_execute : List Row := [(0, .aload_n 0, 1, 0, [0]), (1, .getfield 64, 4, 0, [8, 9, 2]), (4, .invokevirtual 315, 7, 0, [6, 254, 1, 7]), (7, .istore_n 1, 8, 0, [1]), (8, .aload_n 0, 9, 0, [0]), (9, .getfield 64, 12, 0, [8, 9, 2]), (12, .getfield 307, 15, 0, [7, 0, 2]), (15, .iconst 0, 16, 0, []), (16, .invokevirtual 275, 19, 0, [6, 248, 2, 10]), (19, .iload_n 1, 20, 0, [1]), (20, .ifCond .ne 25, 23, 0, [45]), (23, .aload_n 0, 24, 0, [0]), (24, .aload_n 0, 25, 0, [0]), (25, .getfield 64, 28, 0, [8, 9, 2]), (28, .getfield 318, 31, 0, [7, 1, 0]), (31, .putfield 68, 34, 0, [8, 10, 0]), (34, .new 148, 37, 0, [0]), (45, .aload_n 0, 46, 0, [0]), (46, .getfield 19, 49, 0, [8, 1, 2]), (49, .aload_n 0, 50, 0, [0]), (50, .getfield 12, 53, 0, [8, 0, 2]), (53, .invokevirtual 76, 56, 0, [6, 128, 2, 3]), (56, .iconst 0, 57, 0, []), (57, .istore_n 2, 58, 0, [2]), (58, .iconst (-1), 59, (-1), []), (59, .istore_n 3, 60, 0, [3]), (60, .iconst 0, 61, 0, []), (61, .istore 4, 63, 0, [4]), (63, .iload_n 2, 64, 0, [2]), (64, .ifCond .lt 31, 67, 0, [95]), (67, .iload 4, 69, 0, [4]), (69, .aload_n 0, 70, 0, [0]), (70, .getfield 64, 73, 0, [8, 9, 2]), (73, .getfield 323, 76, 0, [7, 2, 0]), (76, .if_icmp .ge 19, 79, 0, [95]), (79, .aload_n 0, 80, 0, [0]), (80, .iload 4, 82, 0, [4]), (82, .invokevirtual 324, 85, 0, [6, 255, 2, 8]), (85, .istore_n 2, 86, 0, [2]), (86, .iload 4, 88, 0, [4]), (88, .istore_n 3, 89, 0, [3]), (89, .iinc 4 1, 92, 1, [4]), (92, .goto (-29), 95, 0, [63]), (95, .iload_n 2, 96, 0, [2]), (96, .ifCond .ge 14, 99, 0, [110]), (99, .aload_n 0, 100, 0, [0]), (100, .getfield 19, 103, 0, [8, 1, 2]), (103, .aload_n 0, 104, 0, [0]), (104, .getfield 12, 107, 0, [8, 0, 2]), (107, .invokevirtual 327, 110, 0, [6, 256, 2, 3]), (110, .iload_n 2, 111, 0, [2]), (111, .bipush (-2), 113, (-2), []), (113, .if_icmp .ne 14, 116, 0, [127]), (116, .new 310, 119, 0, [4]), (127, .iload_n 2, 128, 0, [2]), (128, .iconst (-1), 129, (-1), []), (129, .if_icmp .ne 30, 132, 0, [159]), (132, .aload_n 0, 133, 0, [0]), (133, .aload_n 0, 134, 0, [0]), (134, .getfield 332, 137, 0, [8, 11, 0]), (137, .putfield 335, 140, 0, [8, 13, 0]), (140, .aload_n 0, 141, 0, [0]), (141, .bipush 6, 143, 6, []), (143, .iload_n 3, 144, 0, [3]), (144, .invokevirtual 338, 147, 0, [6, 257, 3, 8]), (147, .pop, 148, 0, []), (148, .new 84, 151, 0, [1]), (159, .aload_n 0, 160, 0, [0]), (160, .getfield 19, 163, 0, [8, 1, 2]), (163, .invokevirtual 91, 166, 0, [6, 130, 1, 3]), (166, .aload_n 0, 167, 0, [0]), (167, .getfield 64, 170, 0, [8, 9, 2]), (170, .getfield 323, 173, 0, [7, 2, 0]), (173, .ireturn, 174, 0, [])]
def md_X8_execute : MDT := (cl_X8_execute, 5, 0, [])
abbrev k_X8_execute : Nat := 197
def cl_X9_parse : List Row := [(0, .aload_n 0, 1, 0, [0]), (1, .iconst 0, 2, 0, []), (2, .putfield 267, 5, 0, [9, 17, 0]), (5, .aload_n 0, 6, 0, [0]), (6, .iconst (-1), 7, (-1), []), (7, .putfield 270, 10, 0, [9, 18, 0]), (10, .aload_n 0, 11, 0, [0]), (11, .iconst 0, 12, 0, []), (12, .putfield 285, 15, 0, [9, 21, 0]), (15, .aload_n 0, 16, 0, [0]), (16, .invokevirtual 297, 19, 0, [6, 258, 1, 9]), (19, .aload_n 0, 20, 0, [0]), (20, .getfield 270, 23, 0, [9, 18, 0]), (23, .ifCond .ge 29, 26, 0, [52]), (26, .aload_n 0, 27, 0, [0]), (27, .invokevirtual 273, 30, 0, [6, 259, 1, 9]), (30, .bipush 59, 32, 59, []), (32, .if_icmp .ne 20, 35, 0, [52]), (35, .aload_n 0, 36, 0, [0]), (36, .dup, 37, 0, []), (37, .getfield 267, 40, 0, [9, 17, 0]), (40, .iconst 1, 41, 1, []), (41, .iadd, 42, 0, []), (42, .putfield 267, 45, 0, [9, 17, 0]), (45, .aload_n 0, 46, 0, [0]), (46, .invokevirtual 297, 49, 0, [6, 258, 1, 9]), (49, .goto (-30), 52, 0, [19]), (52, .aload_n 0, 53, 0, [0]), (53, .getfield 270, 56, 0, [9, 18, 0]), (56, .ifCond .ge 22, 59, 0, [78]), (59, .aload_n 0, 60, 0, [0]), (60, .getfield 267, 63, 0, [9, 17, 0]), (63, .aload_n 0, 64, 0, [0]), (64, .getfield 264, 67, 0, [9, 16, 0]), (67, .if_icmp .ge 11, 70, 0, [78]), (70, .aload_n 0, 71, 0, [0]), (71, .aload_n 0, 72, 0, [0]), (72, .getfield 267, 75, 0, [9, 17, 0]), (75, .putfield 270, 78, 0, [9, 18, 0]), (78, .return_, 79, 0, [])]
def md_X9_parse : MDT := (cl_X9_parse, 1, 0, [])
abbrev k_X9_parse : Nat := 198
def cl_X9_does : List Row := [(0, .aload_n 0, 1, 0, [0]), (1, .getfield 28, 4, 0, [9, 20, 2]), (4, .iload_n 1, 5, 0, [1]), (5, .iconst 1, 6, 1, []), (6, .iadd, 7, 0, []), (7, .iaload, 8, 0, []), (8, .istore_n 2, 9, 0, [2]), (9, .aload_n 0, 10, 0, [0]), (10, .getfield 28, 13, 0, [9, 20, 2]), (13, .iload_n 1, 14, 0, [1]), (14, .iconst 2, 15, 2, []), (15, .iadd, 16, 0, []), (16, .iaload, 17, 0, []), (17, .istore_n 3, 18, 0, [3]), (18, .aload_n 0, 19, 0, [0]), (19, .getfield 28, 22, 0, [9, 20, 2]), (22, .iload_n 1, 23, 0, [1]), (23, .iconst 3, 24, 3, []), (24, .iadd, 25, 0, []), (25, .iaload, 26, 0, []), (26, .istore 4, 28, 0, [4]), (28, .aload_n 0, 29, 0, [0]), (29, .getfield 28, 32, 0, [9, 20, 2]), (32, .iload_n 1, 33, 0, [1]), (33, .iaload, 34, 0, []), (34, .tableswitch 132 100 117 #[86, 132, 93, 132, 132, 132, 132, 132, 132, 132, 102, 132, 117, 132, 127, 122, 132, 111], 120, 0, [166, 100, 120, 101, 166, 102, 127, 103, 166, 104, 166, 105, 166, 106, 166, 107, 166, 108, 166, 109, 166, 110, 136, 111, 166, 112, 151, 113, 166, 114, 161, 115, 156, 116, 166, 117, 145]), (120, .aload_n 0, 121, 0, [0]), (121, .iload_n 2, 122, 0, [2]), (122, .iload_n 3, 123, 0, [3]), (123, .invokevirtual 119, 126, 0, [6, 122, 3, 9]), (126, .ireturn, 127, 0, []), (127, .aload_n 0, 128, 0, [0]), (128, .iload_n 2, 129, 0, [2]), (129, .iload_n 3, 130, 0, [3]), (130, .iload 4, 132, 0, [4]), (132, .invokevirtual 136, 135, 0, [6, 125, 4, 9]), (135, .ireturn, 136, 0, []), (136, .aload_n 0, 137, 0, [0]), (137, .iload_n 2, 138, 0, [2]), (138, .iload_n 3, 139, 0, [3]), (139, .iload 4, 141, 0, [4]), (141, .invokevirtual 140, 144, 0, [6, 127, 4, 9]), (144, .ireturn, 145, 0, []), (145, .aload_n 0, 146, 0, [0]), (146, .iload_n 2, 147, 0, [2]), (147, .invokevirtual 156, 150, 0, [6, 148, 2, 9]), (150, .ireturn, 151, 0, []), (151, .aload_n 0, 152, 0, [0]), (152, .invokevirtual 159, 155, 0, [6, 162, 1, 9]), (155, .ireturn, 156, 0, []), (156, .aload_n 0, 157, 0, [0]), (157, .invokevirtual 165, 160, 0, [6, 164, 1, 9]), (160, .ireturn, 161, 0, []), (161, .aload_n 0, 162, 0, [0]), (162, .invokevirtual 143, 165, 0, [6, 131, 1, 9]), (165, .ireturn, 166, 0, []), (166, .aload_n 0, 167, 0, [0]), (167, .aload_n 0, 168, 0, [0]), (168, .getfield 28, 171, 0, [9, 20, 2]), (171, .iload_n 1, 172, 0, [1]), (172, .iaload, 173, 0, []), (173, .iload_n 2, 174, 0, [2]), (174, .iload_n 3, 175, 0, [3]), (175, .iload 4, 177, 0, [4]), (177, .invokevirtual 149, 180, 0, [6, 146, 5, 9]), (180, .ireturn, 181, 0, [])]
def md_X9_does : MDT := (cl_X9_does, 5, 0, [])
abbrev k_X9_does : Nat := 199
def cl_X9_kept : List Row := [(0, .aload_n 0, 1, 0, [0]), (1, .iload_n 1, 2, 0, [1]), (2, .putfield 31, 5, 0, [9, 0, 0]), (5, .iload_n 1, 6, 0, [1]), (6, .ifCond .eq 12, 9, 0, [18]), (9, .aload_n 0, 10, 0, [0]), (10, .bipush 10, 12, 10, []), (12, .iconst 0, 13, 0, []), (13, .invokevirtual 34, 16, 0, [6, 169, 3, 9]), (16, .iconst 0, 17, 0, []), (17, .ireturn, 18, 0, []), (18, .aload_n 0, 19, 0, [0]), (19, .getfield 38, 22, 0, [9, 2, 0]), (22, .bipush 8, 24, 8, []), (24, .if_icmp .ne 35, 27, 0, [59]), (27, .iconst 1, 28, 1, []), (28, .istore_n 2, 29, 0, [2]), (29, .iload_n 2, 30, 0, [2]), (30, .bipush 8, 32, 8, []), (32, .if_icmp .ge 17, 35, 0, [49]), (35, .aload_n 0, 36, 0, [0]), (36, .iload_n 2, 37, 0, [2]), (37, .iconst 1, 38, 1, []), (38, .iadd, 39, 0, []), (39, .iload_n 2, 40, 0, [2]), (40, .invokevirtual 34, 43, 0, [6, 169, 3, 9]), (43, .iinc 2 1, 46, 1, [2]), (46, .goto (-17), 49, 0, [29]), (49, .aload_n 0, 50, 0, [0]), (50, .dup, 51, 0, []), (51, .getfield 38, 54, 0, [9, 2, 0]), (54, .iconst 1, 55, 1, []), (55, .isub, 56, 0, []), (56, .putfield 38, 59, 0, [9, 2, 0]), (59, .aload_n 0, 60, 0, [0]), (60, .dup, 61, 0, []), (61, .getfield 38, 64, 0, [9, 2, 0]), (64, .iconst 1, 65, 1, []), (65, .iadd, 66, 0, []), (66, .putfield 38, 69, 0, [9, 2, 0]), (69, .aload_n 0, 70, 0, [0]), (70, .bipush 10, 72, 10, []), (72, .aload_n 0, 73, 0, [0]), (73, .getfield 38, 76, 0, [9, 2, 0]), (76, .invokevirtual 34, 79, 0, [6, 169, 3, 9]), (79, .aload_n 0, 80, 0, [0]), (80, .getfield 41, 83, 0, [9, 4, 0]), (83, .ireturn, 84, 0, [])]
def md_X9_kept : MDT := (cl_X9_kept, 3, 0, [])
abbrev k_X9_kept : Nat := 200
def cl_X8_syntaxErrorOffset : List Row := [(0, .aload_n 0, 1, 0, [0]), (1, .getfield 68, 4, 0, [8, 10, 0]), (4, .iconst (-1), 5, (-1), []), (5, .if_icmp .ne 14, 8, 0, [19]), (8, .new 168, 11, 0, [3]), (19, .aload_n 0, 20, 0, [0]), (20, .getfield 68, 23, 0, [8, 10, 0]), (23, .ireturn, 24, 0, [])]
def md_X8_syntaxErrorOffset : MDT := (cl_X8_syntaxErrorOffset, 1, 0, [])
abbrev k_X8_syntaxErrorOffset : Nat := 201
def cl_X8_rejectionReason : List Row := [(0, .aload_n 0, 1, 0, [0]), (1, .getfield 332, 4, 0, [8, 11, 0]), (4, .ifCond .ne 14, 7, 0, [18]), (7, .new 168, 10, 0, [3]), (18, .aload_n 0, 19, 0, [0]), (19, .getfield 332, 22, 0, [8, 11, 0]), (22, .ireturn, 23, 0, [])]
def md_X8_rejectionReason : MDT := (cl_X8_rejectionReason, 1, 0, [])
abbrev k_X8_rejectionReason : Nat := 202
def cl_X8_rejectionDetail : List Row := [(0, .aload_n 0, 1, 0, [0]), (1, .getfield 332, 4, 0, [8, 11, 0]), (4, .ifCond .ne 14, 7, 0, [18]), (7, .new 168, 10, 0, [3]), (18, .aload_n 0, 19, 0, [0]), (19, .getfield 347, 22, 0, [8, 12, 0]), (22, .ireturn, 23, 0, [])]
def md_X8_rejectionDetail : MDT := (cl_X8_rejectionDetail, 1, 0, [])
abbrev k_X8_rejectionDetail : Nat := 203
def cl_X8_causeReason : List Row := [(0, .aload_n 0, 1, 0, [0]), (1, .getfield 332, 4, 0, [8, 11, 0]), (4, .bipush 6, 6, 6, []), (6, .if_icmp .eq 14, 9, 0, [20]), (9, .new 168, 12, 0, [3]), (20, .aload_n 0, 21, 0, [0]), (21, .getfield 335, 24, 0, [8, 13, 0]), (24, .ireturn, 25, 0, [])]
def md_X8_causeReason : MDT := (cl_X8_causeReason, 1, 0, [])
abbrev k_X8_causeReason : Nat := 204
def cl_X8_undo : List Row := [(0, .aload_n 0, 1, 0, [0]), (1, .getfield 19, 4, 0, [8, 1, 2]), (4, .getfield 352, 7, 0, [3, 0, 0]), (7, .ifCond .ne 14, 10, 0, [21]), (10, .new 310, 13, 0, [4]), (21, .aload_n 0, 22, 0, [0]), (22, .getfield 19, 25, 0, [8, 1, 2]), (25, .aload_n 0, 26, 0, [0]), (26, .getfield 12, 29, 0, [8, 0, 2]), (29, .invokevirtual 355, 32, 0, [6, 260, 2, 3]), (32, .aload_n 0, 33, 0, [0]), (33, .getfield 19, 36, 0, [8, 1, 2]), (36, .getfield 352, 39, 0, [3, 0, 0]), (39, .ireturn, 40, 0, [])]
def md_X8_undo : MDT := (cl_X8_undo, 1, 0, [])
abbrev k_X8_undo : Nat := 205
def cl_X2_copyFrom : List Row := [(0, .aload_n 0, 1, 0, [0]), (1, .aload_n 1, 2, 0, [1]), (2, .getfield 28, 5, 0, [2, 0, 0]), (5, .putfield 28, 8, 0, [2, 0, 0]), (8, .aload_n 0, 9, 0, [0]), (9, .getfield 12, 12, 0, [2, 1, 2]), (12, .aload_n 1, 13, 0, [1]), (13, .getfield 12, 16, 0, [2, 1, 2]), (16, .invokevirtual 32, 19, 0, [6, 221, 2, 0]), (19, .aload_n 0, 20, 0, [0]), (20, .getfield 18, 23, 0, [2, 2, 2]), (23, .aload_n 1, 24, 0, [1]), (24, .getfield 18, 27, 0, [2, 2, 2]), (27, .invokevirtual 32, 30, 0, [6, 221, 2, 0]), (30, .aload_n 0, 31, 0, [0]), (31, .getfield 24, 34, 0, [2, 3, 2]), (34, .aload_n 1, 35, 0, [1]), (35, .getfield 24, 38, 0, [2, 3, 2]), (38, .invokevirtual 36, 41, 0, [6, 261, 2, 1]), (41, .aload_n 0, 42, 0, [0]), (42, .aload_n 1, 43, 0, [1]), (43, .getfield 39, 46, 0, [2, 4, 0]), (46, .putfield 39, 49, 0, [2, 4, 0]), (49, .aload_n 0, 50, 0, [0]), (50, .aload_n 1, 51, 0, [1]), (51, .getfield 42, 54, 0, [2, 5, 0]), (54, .putfield 42, 57, 0, [2, 5, 0]), (57, .return_, 58, 0, [])]
def md_X2_copyFrom : MDT := (cl_X2_copyFrom, 2, 0, [])
abbrev k_X2_copyFrom : Nat := 206
def cl_X8_restoreSnapshot : List Row := [(0, .aload_n 0, 1, 0, [0]), (1, .getfield 360, 4, 0, [8, 3, 5]), (4, .ifCond .ne 14, 7, 0, [18]), (7, .new 310, 10, 0, [4]), (18, .aload_n 0, 19, 0, [0]), (19, .getfield 12, 22, 0, [8, 0, 2]), (22, .aload_n 0, 23, 0, [0]), (23, .getfield 23, 26, 0, [8, 2, 2]), (26, .invokevirtual 358, 29, 0, [6, 206, 2, 2]), (29, .aload_n 0, 30, 0, [0]), (30, .getfield 19, 33, 0, [8, 1, 2]), (33, .iconst 0, 34, 0, []), (34, .putfield 352, 37, 0, [3, 0, 0]), (37, .aload_n 0, 38, 0, [0]), (38, .getfield 12, 41, 0, [8, 0, 2]), (41, .getfield 111, 44, 0, [2, 0, 0]), (44, .ireturn, 45, 0, [])]
def md_X8_restoreSnapshot : MDT := (cl_X8_restoreSnapshot, 1, 0, [])
abbrev k_X8_restoreSnapshot : Nat := 207
def cl_X1_init : List Row := [(0, .aload_n 0, 1, 0, [0]), (1, .invokespecial 3, 4, 0, [1]), (4, .aload_n 0, 5, 0, [0]), (5, .bipush 10, 7, 10, []), (7, .newarray .int, 9, 0, [1]), (9, .putfield 9, 12, 0, [1, 2, 2]), (12, .aload_n 0, 13, 0, [0]), (13, .bipush 10, 15, 10, []), (15, .newarray .char, 17, 0, [3]), (17, .putfield 15, 20, 0, [1, 3, 2]), (20, .aload_n 0, 21, 0, [0]), (21, .bipush 10, 23, 10, []), (23, .newarray .int, 25, 0, [1]), (25, .putfield 19, 28, 0, [1, 4, 2]), (28, .aload_n 0, 29, 0, [0]), (29, .bipush 10, 31, 10, []), (31, .newarray .int, 33, 0, [1]), (33, .putfield 22, 36, 0, [1, 5, 2]), (36, .aload_n 0, 37, 0, [0]), (37, .bipush 10, 39, 10, []), (39, .newarray .int, 41, 0, [1]), (41, .putfield 25, 44, 0, [1, 6, 2]), (44, .return_, 45, 0, [])]
def md_X1_init : MDT := (cl_X1_init, 1, 0, [])
abbrev k_X1_init : Nat := 208
def cl_J5_init_d00df : List Row := [(0, .aload_n 0, 1, 0, [0]), (1, .invokespecial 3, 4, 0, [1]), (4, .getstatic 18, 7, 1, []), (7, .ifCond .eq 18, 10, 0, [25]), (10, .aload_n 0, 11, 0, [0]), (11, .iload_n 1, 12, 0, [1]), (12, .newarray .byte, 14, 0, [4]), (14, .putfield 15, 17, 0, [10, 0, 2]), (17, .aload_n 0, 18, 0, [0]), (18, .iconst 0, 19, 0, []), (19, .putfield 22, 22, 0, [10, 1, 4]), (22, .goto 16, 25, 0, [38]), (25, .aload_n 0, 26, 0, [0]), (26, .iload_n 1, 27, 0, [1]), (30, .putfield 15, 33, 0, [10, 0, 2]), (33, .aload_n 0, 34, 0, [0]), (34, .iconst 1, 35, 1, []), (35, .putfield 22, 38, 0, [10, 1, 4]), (38, .return_, 39, 0, [])]
def md_J5_init_d00df : MDT := (cl_J5_init_d00df, 2, 0, [])
abbrev k_J5_init_d00df : Nat := 209
def cl_X8_checkRange : List Row := [(0, .iload_n 0, 1, 0, [0]), (1, .iload_n 1, 2, 0, [1]), (2, .invokestatic 366, 5, 0, [0, 262, 2]), (5, .ifCond .ne 13, 8, 0, [18]), (8, .new 148, 11, 0, [0]), (18, .return_, 19, 0, [])]
def md_X8_checkRange : MDT := (cl_X8_checkRange, 2, 0, [])
abbrev k_X8_checkRange : Nat := 210
def cl_X8_enterDoor : List Row := [(0, .aload_n 0, 1, 0, [0]), (1, .getfield 12, 4, 0, [8, 0, 2]), (4, .getfield 111, 7, 0, [2, 0, 0]), (7, .bipush 6, 9, 6, []), (9, .if_icmp .lt 11, 12, 0, [20]), (12, .aload_n 0, 13, 0, [0]), (13, .iconst 1, 14, 1, []), (14, .bipush 6, 16, 6, []), (16, .invokevirtual 338, 19, 0, [6, 257, 3, 8]), (19, .ireturn, 20, 0, []), (20, .aload_n 0, 21, 0, [0]), (21, .getfield 12, 24, 0, [8, 0, 2]), (24, .getfield 111, 27, 0, [2, 0, 0]), (27, .istore_n 3, 28, 0, [3]), (28, .aload_n 0, 29, 0, [0]), (29, .getfield 12, 32, 0, [8, 0, 2]), (32, .getfield 124, 35, 0, [2, 1, 2]), (35, .iload_n 3, 36, 0, [3]), (36, .iload_n 1, 37, 0, [1]), (37, .iload_n 2, 38, 0, [2]), (38, .invokevirtual 379, 41, 0, [6, 263, 4, 0]), (41, .aload_n 0, 42, 0, [0]), (42, .getfield 12, 45, 0, [8, 0, 2]), (45, .getfield 114, 48, 0, [2, 2, 2]), (48, .iload_n 3, 49, 0, [3]), (49, .iload_n 1, 50, 0, [1]), (50, .iload_n 2, 51, 0, [2]), (51, .invokevirtual 379, 54, 0, [6, 263, 4, 0]), (54, .aload_n 0, 55, 0, [0]), (55, .getfield 12, 58, 0, [8, 0, 2]), (58, .dup, 59, 0, []), (59, .getfield 111, 62, 0, [2, 0, 0]), (62, .iconst 1, 63, 1, []), (63, .iadd, 64, 0, []), (64, .putfield 111, 67, 0, [2, 0, 0]), (67, .iload_n 3, 68, 0, [3]), (68, .ireturn, 69, 0, [])]
def md_X8_enterDoor : MDT := (cl_X8_enterDoor, 4, 0, [])
abbrev k_X8_enterDoor : Nat := 211
def cl_X9_isRange : List Row := [(0, .iload_n 0, 1, 0, [0]), (1, .iconst 0, 2, 0, []), (2, .bipush 40, 4, 40, []), (4, .invokestatic 60, 7, 0, [0, 150, 3]), (7, .ifCond .eq 17, 10, 0, [24]), (10, .iload_n 1, 11, 0, [1]), (11, .iload_n 0, 12, 0, [0]), (12, .bipush 40, 14, 40, []), (14, .invokestatic 60, 17, 0, [0, 150, 3]), (17, .ifCond .eq 7, 20, 0, [24]), (20, .iconst 1, 21, 1, []), (21, .goto 4, 24, 0, [25]), (24, .iconst 0, 25, 0, []), (25, .ireturn, 26, 0, [])]
def md_X9_isRange : MDT := (cl_X9_isRange, 2, 5, [])
abbrev k_X9_isRange : Nat := 212
def cl_X9_rejects : List Row := [(0, .aload_n 0, 1, 0, [0]), (1, .iload_n 1, 2, 0, [1]), (2, .putfield 44, 5, 0, [9, 8, 0]), (5, .aload_n 0, 6, 0, [0]), (6, .iload_n 2, 7, 0, [2]), (7, .putfield 50, 10, 0, [9, 9, 0]), (10, .iconst 3, 11, 3, []), (11, .ireturn, 12, 0, [])]
def md_X9_rejects : MDT := (cl_X9_rejects, 3, 0, [])
abbrev k_X9_rejects : Nat := 213
def cl_X9_set : List Row := [(0, .aload_n 0, 1, 0, [0]), (1, .getfield 9, 4, 0, [9, 1, 2]), (4, .iconst 5, 5, 5, []), (5, .iconst 4, 6, 4, []), (6, .iload_n 1, 7, 0, [1]), (7, .imul, 8, 0, []), (8, .iadd, 9, 0, []), (9, .iload_n 2, 10, 0, [2]), (10, .iadd, 11, 0, []), (11, .iload_n 3, 12, 0, [3]), (12, .iastore, 13, 0, []), (13, .return_, 14, 0, [])]
def md_X9_set : MDT := (cl_X9_set, 4, 0, [])
abbrev k_X9_set : Nat := 214
def cl_X8_checkDoor : List Row := [(0, .aload_n 0, 1, 0, [0]), (1, .getfield 12, 4, 0, [8, 0, 2]), (4, .iload_n 1, 5, 0, [1]), (5, .invokevirtual 369, 8, 0, [6, 264, 2, 2]), (8, .ifCond .ne 14, 11, 0, [22]), (11, .new 296, 14, 0, [2]), (22, .return_, 23, 0, [])]
def md_X8_checkDoor : MDT := (cl_X8_checkDoor, 2, 0, [])
abbrev k_X8_checkDoor : Nat := 215
def cl_X8_changeFrame : List Row := [(0, .aload_n 0, 1, 0, [0]), (1, .getfield 12, 4, 0, [8, 0, 2]), (4, .getfield 124, 7, 0, [2, 1, 2]), (7, .iload_n 1, 8, 0, [1]), (8, .iload_n 2, 9, 0, [2]), (9, .iload_n 3, 10, 0, [3]), (10, .invokevirtual 379, 13, 0, [6, 263, 4, 0]), (13, .aload_n 0, 14, 0, [0]), (14, .getfield 12, 17, 0, [8, 0, 2]), (17, .invokevirtual 107, 20, 0, [6, 129, 1, 2]), (20, .ireturn, 21, 0, [])]
def md_X8_changeFrame : MDT := (cl_X8_changeFrame, 4, 0, [])
abbrev k_X8_changeFrame : Nat := 216
def cl_X9_resets : List Row := [(0, .iconst 0, 1, 0, []), (1, .istore_n 1, 2, 0, [1]), (2, .iload_n 1, 3, 0, [1]), (3, .aload_n 0, 4, 0, [0]), (4, .getfield 9, 7, 0, [9, 1, 2]), (7, .iconst 0, 8, 0, []), (8, .iaload, 9, 0, []), (9, .if_icmp .ge 33, 12, 0, [42]), (12, .aload_n 0, 13, 0, [0]), (13, .iload_n 1, 14, 0, [1]), (14, .iconst 2, 15, 2, []), (15, .aload_n 0, 16, 0, [0]), (16, .iload_n 1, 17, 0, [1]), (17, .iconst 0, 18, 0, []), (18, .invokevirtual 68, 21, 0, [6, 171, 3, 9]), (21, .invokevirtual 71, 24, 0, [6, 214, 4, 9]), (24, .aload_n 0, 25, 0, [0]), (25, .iload_n 1, 26, 0, [1]), (26, .iconst 3, 27, 3, []), (27, .aload_n 0, 28, 0, [0]), (28, .iload_n 1, 29, 0, [1]), (29, .iconst 1, 30, 1, []), (30, .invokevirtual 68, 33, 0, [6, 171, 3, 9]), (33, .invokevirtual 71, 36, 0, [6, 214, 4, 9]), (36, .iinc 1 1, 39, 1, [1]), (39, .goto (-37), 42, 0, [2]), (42, .return_, 43, 0, [])]
def md_X9_resets : MDT := (cl_X9_resets, 2, 0, [])
abbrev k_X9_resets : Nat := 217
def cl_X9_unlike : List Row := [(0, .iconst 0, 1, 0, []), (1, .istore_n 1, 2, 0, [1]), (2, .iconst 0, 3, 0, []), (3, .istore_n 2, 4, 0, [2]), (4, .iload_n 2, 5, 0, [2]), (5, .aload_n 0, 6, 0, [0]), (6, .getfield 9, 9, 0, [9, 1, 2]), (9, .iconst 0, 10, 0, []), (10, .iaload, 11, 0, []), (11, .if_icmp .ge 71, 14, 0, [82]), (14, .iload_n 1, 15, 0, [1]), (15, .aload_n 0, 16, 0, [0]), (16, .iload_n 2, 17, 0, [2]), (17, .iconst 2, 18, 2, []), (18, .invokevirtual 68, 21, 0, [6, 171, 3, 9]), (21, .aload_n 0, 22, 0, [0]), (22, .getfield 9, 25, 0, [9, 1, 2]), (25, .sipush 874, 28, 874, []), (28, .iconst 4, 29, 4, []), (29, .iload_n 2, 30, 0, [2]), (30, .imul, 31, 0, []), (31, .iadd, 32, 0, []), (32, .iconst 2, 33, 2, []), (33, .iadd, 34, 0, []), (34, .iaload, 35, 0, []), (35, .if_icmp .eq 7, 38, 0, [42]), (38, .iconst 1, 39, 1, []), (39, .goto 4, 42, 0, [43]), (42, .iconst 0, 43, 0, []), (43, .iadd, 44, 0, []), (44, .istore_n 1, 45, 0, [1]), (45, .iload_n 1, 46, 0, [1]), (46, .aload_n 0, 47, 0, [0]), (47, .iload_n 2, 48, 0, [2]), (48, .iconst 3, 49, 3, []), (49, .invokevirtual 68, 52, 0, [6, 171, 3, 9]), (52, .aload_n 0, 53, 0, [0]), (53, .getfield 9, 56, 0, [9, 1, 2]), (56, .sipush 874, 59, 874, []), (59, .iconst 4, 60, 4, []), (60, .iload_n 2, 61, 0, [2]), (61, .imul, 62, 0, []), (62, .iadd, 63, 0, []), (63, .iconst 3, 64, 3, []), (64, .iadd, 65, 0, []), (65, .iaload, 66, 0, []), (66, .if_icmp .eq 7, 69, 0, [73]), (69, .iconst 1, 70, 1, []), (70, .goto 4, 73, 0, [74]), (73, .iconst 0, 74, 0, []), (74, .iadd, 75, 0, []), (75, .istore_n 1, 76, 0, [1]), (76, .iinc 2 1, 79, 1, [2]), (79, .goto (-75), 82, 0, [4]), (82, .iload_n 1, 83, 0, [1]), (83, .ireturn, 84, 0, [])]
def md_X9_unlike : MDT := (cl_X9_unlike, 3, 0, [])
abbrev k_X9_unlike : Nat := 218
def cl_X8_narrowDoor : List Row := [(0, .aload_n 0, 1, 0, [0]), (1, .getfield 12, 4, 0, [8, 0, 2]), (4, .getfield 114, 7, 0, [2, 2, 2]), (7, .getfield 117, 10, 0, [0, 0, 2]), (10, .iload_n 1, 11, 0, [1]), (11, .iaload, 12, 0, []), (12, .istore 4, 14, 0, [4]), (14, .aload_n 0, 15, 0, [0]), (15, .getfield 12, 18, 0, [8, 0, 2]), (18, .getfield 114, 21, 0, [2, 2, 2]), (21, .getfield 121, 24, 0, [0, 1, 2]), (24, .iload_n 1, 25, 0, [1]), (25, .iaload, 26, 0, []), (26, .istore 5, 28, 0, [5]), (28, .iload 4, 30, 0, [4]), (30, .iload_n 2, 31, 0, [2]), (31, .invokestatic 383, 34, 0, [3]), (34, .istore 6, 36, 0, [6]), (36, .iload 5, 38, 0, [5]), (38, .iload_n 3, 39, 0, [3]), (39, .invokestatic 388, 42, 0, [4]), (42, .istore 7, 44, 0, [7]), (44, .iload 6, 46, 0, [6]), (46, .iload 7, 48, 0, [7]), (48, .if_icmp .le 11, 51, 0, [59]), (51, .aload_n 0, 52, 0, [0]), (52, .iconst 4, 53, 4, []), (53, .iload 4, 55, 0, [4]), (55, .invokevirtual 338, 58, 0, [6, 257, 3, 8]), (58, .ireturn, 59, 0, []), (59, .aload_n 0, 60, 0, [0]), (60, .getfield 12, 63, 0, [8, 0, 2]), (63, .getfield 114, 66, 0, [2, 2, 2]), (66, .iload_n 1, 67, 0, [1]), (67, .iload 6, 69, 0, [6]), (69, .iload 7, 71, 0, [7]), (71, .invokevirtual 379, 74, 0, [6, 263, 4, 0]), (74, .iload 6, 76, 0, [6]), (76, .iload 4, 78, 0, [4]), (78, .if_icmp .eq 7, 81, 0, [85]), (81, .iconst 1, 82, 1, []), (82, .goto 4, 85, 0, [86]), (85, .iconst 0, 86, 0, []), (86, .iload 7, 88, 0, [7]), (88, .iload 5, 90, 0, [5]), (90, .if_icmp .eq 7, 93, 0, [97]), (93, .iconst 1, 94, 1, []), (94, .goto 4, 97, 0, [98]), (97, .iconst 0, 98, 0, []), (98, .iadd, 99, 0, []), (99, .ireturn, 100, 0, [])]
def md_X8_narrowDoor : MDT := (cl_X8_narrowDoor, 8, 0, [])
abbrev k_X8_narrowDoor : Nat := 219
def cl_X2_differencesToFrame : List Row := [(0, .aload_n 0, 1, 0, [0]), (1, .getfield 18, 4, 0, [2, 2, 2]), (4, .getfield 45, 7, 0, [0, 0, 2]), (7, .iload_n 1, 8, 0, [1]), (8, .iaload, 9, 0, []), (9, .aload_n 0, 10, 0, [0]), (10, .getfield 12, 13, 0, [2, 1, 2]), (13, .getfield 45, 16, 0, [0, 0, 2]), (16, .iload_n 1, 17, 0, [1]), (17, .iaload, 18, 0, []), (18, .if_icmp .eq 7, 21, 0, [25]), (21, .iconst 1, 22, 1, []), (22, .goto 4, 25, 0, [26]), (25, .iconst 0, 26, 0, []), (26, .aload_n 0, 27, 0, [0]), (27, .getfield 18, 30, 0, [2, 2, 2]), (30, .getfield 49, 33, 0, [0, 1, 2]), (33, .iload_n 1, 34, 0, [1]), (34, .iaload, 35, 0, []), (35, .aload_n 0, 36, 0, [0]), (36, .getfield 12, 39, 0, [2, 1, 2]), (39, .getfield 49, 42, 0, [0, 1, 2]), (42, .iload_n 1, 43, 0, [1]), (43, .iaload, 44, 0, []), (44, .if_icmp .eq 7, 47, 0, [51]), (47, .iconst 1, 48, 1, []), (48, .goto 4, 51, 0, [52]), (51, .iconst 0, 52, 0, []), (52, .iadd, 53, 0, []), (53, .ireturn, 54, 0, [])]
def md_X2_differencesToFrame : MDT := (cl_X2_differencesToFrame, 2, 0, [])
abbrev k_X2_differencesToFrame : Nat := 220
def cl_X0_copyFrom : List Row := [(0, .aload_n 1, 1, 0, [1]), (1, .getfield 9, 4, 0, [0, 0, 2]), (4, .iconst 0, 5, 0, []), (5, .aload_n 0, 6, 0, [0]), (6, .getfield 9, 9, 0, [0, 0, 2]), (9, .iconst 0, 10, 0, []), (10, .bipush 6, 12, 6, []), (12, .invokestatic 18, 15, 0, [2]), (15, .aload_n 1, 16, 0, [1]), (16, .getfield 15, 19, 0, [0, 1, 2]), (19, .iconst 0, 20, 0, []), (20, .aload_n 0, 21, 0, [0]), (21, .getfield 15, 24, 0, [0, 1, 2]), (24, .iconst 0, 25, 0, []), (25, .bipush 6, 27, 6, []), (27, .invokestatic 18, 30, 0, [2]), (30, .return_, 31, 0, [])]
def md_X0_copyFrom : MDT := (cl_X0_copyFrom, 2, 0, [])
abbrev k_X0_copyFrom : Nat := 221
def cl_X0_width : List Row := [(0, .aload_n 0, 1, 0, [0]), (1, .getfield 15, 4, 0, [0, 1, 2]), (4, .iload_n 1, 5, 0, [1]), (5, .iaload, 6, 0, []), (6, .aload_n 0, 7, 0, [0]), (7, .getfield 9, 10, 0, [0, 0, 2]), (10, .iload_n 1, 11, 0, [1]), (11, .iaload, 12, 0, []), (12, .isub, 13, 0, []), (13, .iconst 1, 14, 1, []), (14, .iadd, 15, 0, []), (15, .ireturn, 16, 0, [])]
def md_X0_width : MDT := (cl_X0_width, 2, 0, [])
abbrev k_X0_width : Nat := 222
def cl_X1_countWith : List Row := [(0, .iconst 0, 1, 0, []), (1, .istore_n 2, 2, 0, [2]), (2, .iconst 0, 3, 0, []), (3, .istore_n 3, 4, 0, [3]), (4, .iload_n 3, 5, 0, [3]), (5, .aload_n 0, 6, 0, [0]), (6, .getfield 28, 9, 0, [1, 0, 0]), (9, .if_icmp .ge 32, 12, 0, [41]), (12, .aload_n 0, 13, 0, [0]), (13, .getfield 19, 16, 0, [1, 4, 2]), (16, .iload_n 3, 17, 0, [3]), (17, .iaload, 18, 0, []), (18, .iload_n 1, 19, 0, [1]), (19, .if_icmp .eq 13, 22, 0, [32]), (22, .aload_n 0, 23, 0, [0]), (23, .getfield 22, 26, 0, [1, 5, 2]), (26, .iload_n 3, 27, 0, [3]), (27, .iaload, 28, 0, []), (28, .iload_n 1, 29, 0, [1]), (29, .if_icmp .ne 6, 32, 0, [35]), (32, .iinc 2 1, 35, 1, [2]), (35, .iinc 3 1, 38, 1, [3]), (38, .goto (-34), 41, 0, [4]), (41, .iload_n 2, 42, 0, [2]), (42, .ireturn, 43, 0, [])]
def md_X1_countWith : MDT := (cl_X1_countWith, 4, 0, [])
abbrev k_X1_countWith : Nat := 223
def cl_X8_isConstraint : List Row := [(0, .iload_n 0, 1, 0, [0]), (1, .bipush 60, 3, 60, []), (3, .if_icmp .eq 15, 6, 0, [18]), (6, .iload_n 0, 7, 0, [0]), (7, .bipush 61, 9, 61, []), (9, .if_icmp .eq 9, 12, 0, [18]), (12, .iload_n 0, 13, 0, [0]), (13, .bipush 35, 15, 35, []), (15, .if_icmp .ne 7, 18, 0, [22]), (18, .iconst 1, 19, 1, []), (19, .goto 4, 22, 0, [23]), (22, .iconst 0, 23, 0, []), (23, .istore 4, 25, 0, [4]), (25, .iload_n 0, 26, 0, [0]), (26, .bipush 35, 28, 35, []), (28, .if_icmp .ne 7, 31, 0, [35]), (31, .iconst 1, 32, 1, []), (32, .goto 4, 35, 0, [36]), (35, .iconst 0, 36, 0, []), (36, .istore 5, 38, 0, [5]), (38, .iload 4, 40, 0, [4]), (40, .ifCond .eq 24, 43, 0, [64]), (43, .iload_n 3, 44, 0, [3]), (44, .iload 5, 46, 0, [5]), (46, .if_icmp .lt 18, 49, 0, [64]), (49, .iload_n 3, 50, 0, [3]), (50, .bipush 20, 52, 20, []), (52, .if_icmp .gt 12, 55, 0, [64]), (55, .iload_n 1, 56, 0, [1]), (56, .iload_n 2, 57, 0, [2]), (57, .if_icmp .eq 7, 60, 0, [64]), (60, .iconst 1, 61, 1, []), (61, .goto 4, 64, 0, [65]), (64, .iconst 0, 65, 0, []), (65, .ireturn, 66, 0, [])]
def md_X8_isConstraint : MDT := (cl_X8_isConstraint, 6, 5, [])
abbrev k_X8_isConstraint : Nat := 224
def cl_X8_enterConstraint : List Row := [(0, .aload_n 0, 1, 0, [0]), (1, .getfield 12, 4, 0, [8, 0, 2]), (4, .getfield 135, 7, 0, [2, 3, 2]), (7, .astore 5, 9, 0, [5]), (9, .aload 5, 11, 0, [5]), (11, .getfield 165, 14, 0, [1, 0, 0]), (14, .bipush 10, 16, 10, []), (16, .if_icmp .lt 16, 19, 0, [32]), (19, .aload_n 0, 20, 0, [0]), (20, .iconst 2, 21, 2, []), (21, .aload 5, 23, 0, [5]), (23, .getfield 173, 26, 0, [1, 2, 2]), (26, .iconst 0, 27, 0, []), (27, .iaload, 28, 0, []), (28, .invokevirtual 338, 31, 0, [6, 257, 3, 8]), (31, .ireturn, 32, 0, []), (32, .aload 5, 34, 0, [5]), (34, .iload_n 1, 35, 0, [1]), (35, .iload_n 2, 36, 0, [2]), (36, .iload_n 3, 37, 0, [3]), (37, .iload 4, 39, 0, [4]), (39, .invokevirtual 391, 42, 0, [6, 265, 5, 1]), (42, .istore 6, 44, 0, [6]), (44, .iload 6, 46, 0, [6]), (46, .iconst (-1), 47, (-1), []), (47, .if_icmp .eq 17, 50, 0, [64]), (50, .aload_n 0, 51, 0, [0]), (51, .iconst 3, 52, 3, []), (52, .aload 5, 54, 0, [5]), (54, .getfield 173, 57, 0, [1, 2, 2]), (57, .iload 6, 59, 0, [6]), (59, .iaload, 60, 0, []), (60, .invokevirtual 338, 63, 0, [6, 257, 3, 8]), (63, .ireturn, 64, 0, []), (64, .aload 5, 66, 0, [5]), (66, .iload_n 1, 67, 0, [1]), (67, .iload_n 2, 68, 0, [2]), (68, .iload_n 3, 69, 0, [3]), (69, .iload 4, 71, 0, [4]), (71, .invokevirtual 394, 74, 0, [6, 266, 5, 1]), (74, .ireturn, 75, 0, [])]
def md_X8_enterConstraint : MDT := (cl_X8_enterConstraint, 7, 0, [])
abbrev k_X8_enterConstraint : Nat := 225
def cl_X9_isKind : List Row := [(0, .iload_n 0, 1, 0, [0]), (1, .bipush 60, 3, 60, []), (3, .if_icmp .eq 15, 6, 0, [18]), (6, .iload_n 0, 7, 0, [0]), (7, .bipush 61, 9, 61, []), (9, .if_icmp .eq 9, 12, 0, [18]), (12, .iload_n 0, 13, 0, [0]), (13, .bipush 35, 15, 35, []), (15, .if_icmp .ne 7, 18, 0, [22]), (18, .iconst 1, 19, 1, []), (19, .goto 4, 22, 0, [23]), (22, .iconst 0, 23, 0, []), (23, .ireturn, 24, 0, [])]
def md_X9_isKind : MDT := (cl_X9_isKind, 1, 5, [])
abbrev k_X9_isKind : Nat := 226
def cl_X8_checkedPosition : List Row := [(0, .aload_n 0, 1, 0, [0]), (1, .getfield 12, 4, 0, [8, 0, 2]), (4, .getfield 135, 7, 0, [2, 3, 2]), (7, .iload_n 1, 8, 0, [1]), (8, .invokevirtual 374, 11, 0, [6, 267, 2, 1]), (11, .istore_n 2, 12, 0, [2]), (12, .iload_n 2, 13, 0, [2]), (13, .iconst (-1), 14, (-1), []), (14, .if_icmp .ne 14, 17, 0, [28]), (17, .new 168, 20, 0, [3]), (28, .iload_n 2, 29, 0, [2]), (29, .ireturn, 30, 0, [])]
def md_X8_checkedPosition : MDT := (cl_X8_checkedPosition, 3, 0, [])
abbrev k_X8_checkedPosition : Nat := 227
def cl_X8_takeConstraintAway : List Row := [(0, .aload_n 0, 1, 0, [0]), (1, .getfield 12, 4, 0, [8, 0, 2]), (4, .getfield 135, 7, 0, [2, 3, 2]), (7, .iload_n 1, 8, 0, [1]), (8, .invokevirtual 396, 11, 0, [6, 268, 2, 1]), (11, .aload_n 0, 12, 0, [0]), (12, .getfield 12, 15, 0, [8, 0, 2]), (15, .invokevirtual 107, 18, 0, [6, 129, 1, 2]), (18, .pop, 19, 0, []), (19, .aload_n 0, 20, 0, [0]), (20, .getfield 12, 23, 0, [8, 0, 2]), (23, .getfield 135, 26, 0, [2, 3, 2]), (26, .getfield 165, 29, 0, [1, 0, 0]), (29, .ireturn, 30, 0, [])]
def md_X8_takeConstraintAway : MDT := (cl_X8_takeConstraintAway, 2, 0, [])
abbrev k_X8_takeConstraintAway : Nat := 228
def cl_X2_isAlwaysMet : List Row := [(0, .aload_n 0, 1, 0, [0]), (1, .getfield 24, 4, 0, [2, 3, 2]), (4, .getfield 60, 7, 0, [1, 4, 2]), (7, .iload_n 1, 8, 0, [1]), (8, .iaload, 9, 0, []), (9, .istore_n 2, 10, 0, [2]), (10, .aload_n 0, 11, 0, [0]), (11, .getfield 24, 14, 0, [2, 3, 2]), (14, .getfield 63, 17, 0, [1, 5, 2]), (17, .iload_n 1, 18, 0, [1]), (18, .iaload, 19, 0, []), (19, .istore_n 3, 20, 0, [3]), (20, .aload_n 0, 21, 0, [0]), (21, .getfield 24, 24, 0, [2, 3, 2]), (24, .getfield 66, 27, 0, [1, 6, 2]), (27, .iload_n 1, 28, 0, [1]), (28, .iaload, 29, 0, []), (29, .istore 4, 31, 0, [4]), (31, .aload_n 0, 32, 0, [0]), (32, .getfield 18, 35, 0, [2, 2, 2]), (35, .getfield 49, 38, 0, [0, 1, 2]), (38, .iload_n 2, 39, 0, [2]), (39, .iaload, 40, 0, []), (40, .iload 4, 42, 0, [4]), (42, .iadd, 43, 0, []), (43, .aload_n 0, 44, 0, [0]), (44, .getfield 18, 47, 0, [2, 2, 2]), (47, .getfield 45, 50, 0, [0, 0, 2]), (50, .iload_n 3, 51, 0, [3]), (51, .iaload, 52, 0, []), (52, .if_icmp .gt 7, 55, 0, [59]), (55, .iconst 1, 56, 1, []), (56, .goto 4, 59, 0, [60]), (59, .iconst 0, 60, 0, []), (60, .istore 5, 62, 0, [5]), (62, .aload_n 0, 63, 0, [0]), (63, .getfield 18, 66, 0, [2, 2, 2]), (66, .getfield 49, 69, 0, [0, 1, 2]), (69, .iload_n 3, 70, 0, [3]), (70, .iaload, 71, 0, []), (71, .iload 4, 73, 0, [4]), (73, .iadd, 74, 0, []), (74, .aload_n 0, 75, 0, [0]), (75, .getfield 18, 78, 0, [2, 2, 2]), (78, .getfield 45, 81, 0, [0, 0, 2]), (81, .iload_n 2, 82, 0, [2]), (82, .iaload, 83, 0, []), (83, .if_icmp .gt 7, 86, 0, [90]), (86, .iconst 1, 87, 1, []), (87, .goto 4, 90, 0, [91]), (90, .iconst 0, 91, 0, []), (91, .istore 6, 93, 0, [6]), (93, .aload_n 0, 94, 0, [0]), (94, .getfield 24, 97, 0, [2, 3, 2]), (97, .getfield 69, 100, 0, [1, 3, 2]), (100, .iload_n 1, 101, 0, [1]), (101, .caload, 102, 0, []), (102, .lookupswitch 64 #[(60, 26), (61, 29)], 128, 0, [166, 60, 128, 61, 131]), (128, .iload 5, 130, 0, [5]), (130, .ireturn, 131, 0, []), (131, .iload 5, 133, 0, [5]), (133, .ifCond .eq 31, 136, 0, [164]), (136, .aload_n 0, 137, 0, [0]), (137, .getfield 18, 140, 0, [2, 2, 2]), (140, .getfield 45, 143, 0, [0, 0, 2]), (143, .iload_n 2, 144, 0, [2]), (144, .iaload, 145, 0, []), (145, .iload 4, 147, 0, [4]), (147, .iadd, 148, 0, []), (148, .aload_n 0, 149, 0, [0]), (149, .getfield 18, 152, 0, [2, 2, 2]), (152, .getfield 49, 155, 0, [0, 1, 2]), (155, .iload_n 3, 156, 0, [3]), (156, .iaload, 157, 0, []), (157, .if_icmp .lt 7, 160, 0, [164]), (160, .iconst 1, 161, 1, []), (161, .goto 4, 164, 0, [165]), (164, .iconst 0, 165, 0, []), (165, .ireturn, 166, 0, []), (166, .iload 5, 168, 0, [5]), (168, .ifCond .ne 8, 171, 0, [176]), (171, .iload 6, 173, 0, [6]), (173, .ifCond .eq 7, 176, 0, [180]), (176, .iconst 1, 177, 1, []), (177, .goto 4, 180, 0, [181]), (180, .iconst 0, 181, 0, []), (181, .ireturn, 182, 0, [])]
def md_X2_isAlwaysMet : MDT := (cl_X2_isAlwaysMet, 7, 5, [])
abbrev k_X2_isAlwaysMet : Nat := 229
def cl_X9_holds : List Row := [(0, .iload_n 1, 1, 0, [1]), (1, .iload_n 2, 2, 0, [2]), (2, .if_icmp .ge 9, 5, 0, [11]), (5, .iload_n 2, 6, 0, [2]), (6, .iload_n 1, 7, 0, [1]), (7, .isub, 8, 0, []), (8, .goto 6, 11, 0, [14]), (11, .iload_n 1, 12, 0, [1]), (12, .iload_n 2, 13, 0, [2]), (13, .isub, 14, 0, []), (14, .istore 4, 16, 0, [4]), (16, .iload_n 0, 17, 0, [0]), (17, .bipush 60, 19, 60, []), (19, .if_icmp .ne 18, 22, 0, [37]), (22, .iload_n 1, 23, 0, [1]), (23, .iload_n 3, 24, 0, [3]), (24, .iadd, 25, 0, []), (25, .iload_n 2, 26, 0, [2]), (26, .if_icmp .gt 7, 29, 0, [33]), (29, .iconst 1, 30, 1, []), (30, .goto 39, 33, 0, [69]), (33, .iconst 0, 34, 0, []), (34, .goto 35, 37, 0, [69]), (37, .iload_n 0, 38, 0, [0]), (38, .bipush 61, 40, 61, []), (40, .if_icmp .ne 18, 43, 0, [58]), (43, .iload_n 1, 44, 0, [1]), (44, .iload_n 3, 45, 0, [3]), (45, .iadd, 46, 0, []), (46, .iload_n 2, 47, 0, [2]), (47, .if_icmp .ne 7, 50, 0, [54]), (50, .iconst 1, 51, 1, []), (51, .goto 18, 54, 0, [69]), (54, .iconst 0, 55, 0, []), (55, .goto 14, 58, 0, [69]), (58, .iload 4, 60, 0, [4]), (60, .iload_n 3, 61, 0, [3]), (61, .if_icmp .lt 7, 64, 0, [68]), (64, .iconst 1, 65, 1, []), (65, .goto 4, 68, 0, [69]), (68, .iconst 0, 69, 0, []), (69, .ireturn, 70, 0, [])]
def md_X9_holds : MDT := (cl_X9_holds, 5, 5, [])
abbrev k_X9_holds : Nat := 230
def cl_X2_isNeverMet : List Row := [(0, .aload_n 0, 1, 0, [0]), (1, .getfield 24, 4, 0, [2, 3, 2]), (4, .getfield 60, 7, 0, [1, 4, 2]), (7, .iload_n 1, 8, 0, [1]), (8, .iaload, 9, 0, []), (9, .istore_n 2, 10, 0, [2]), (10, .aload_n 0, 11, 0, [0]), (11, .getfield 24, 14, 0, [2, 3, 2]), (14, .getfield 63, 17, 0, [1, 5, 2]), (17, .iload_n 1, 18, 0, [1]), (18, .iaload, 19, 0, []), (19, .istore_n 3, 20, 0, [3]), (20, .aload_n 0, 21, 0, [0]), (21, .getfield 24, 24, 0, [2, 3, 2]), (24, .getfield 66, 27, 0, [1, 6, 2]), (27, .iload_n 1, 28, 0, [1]), (28, .iaload, 29, 0, []), (29, .istore 4, 31, 0, [4]), (31, .aload_n 0, 32, 0, [0]), (32, .getfield 18, 35, 0, [2, 2, 2]), (35, .getfield 45, 38, 0, [0, 0, 2]), (38, .iload_n 2, 39, 0, [2]), (39, .iaload, 40, 0, []), (40, .iload 4, 42, 0, [4]), (42, .iadd, 43, 0, []), (43, .aload_n 0, 44, 0, [0]), (44, .getfield 18, 47, 0, [2, 2, 2]), (47, .getfield 49, 50, 0, [0, 1, 2]), (50, .iload_n 3, 51, 0, [3]), (51, .iaload, 52, 0, []), (52, .if_icmp .le 7, 55, 0, [59]), (55, .iconst 1, 56, 1, []), (56, .goto 4, 59, 0, [60]), (59, .iconst 0, 60, 0, []), (60, .istore 5, 62, 0, [5]), (62, .aload_n 0, 63, 0, [0]), (63, .getfield 18, 66, 0, [2, 2, 2]), (66, .getfield 45, 69, 0, [0, 0, 2]), (69, .iload_n 3, 70, 0, [3]), (70, .iaload, 71, 0, []), (71, .iload 4, 73, 0, [4]), (73, .iadd, 74, 0, []), (74, .aload_n 0, 75, 0, [0]), (75, .getfield 18, 78, 0, [2, 2, 2]), (78, .getfield 49, 81, 0, [0, 1, 2]), (81, .iload_n 2, 82, 0, [2]), (82, .iaload, 83, 0, []), (83, .if_icmp .le 7, 86, 0, [90]), (86, .iconst 1, 87, 1, []), (87, .goto 4, 90, 0, [91]), (90, .iconst 0, 91, 0, []), (91, .istore 6, 93, 0, [6]), (93, .aload_n 0, 94, 0, [0]), (94, .getfield 24, 97, 0, [2, 3, 2]), (97, .getfield 69, 100, 0, [1, 3, 2]), (100, .iload_n 1, 101, 0, [1]), (101, .caload, 102, 0, []), (102, .lookupswitch 64 #[(60, 26), (61, 29)], 128, 0, [166, 60, 128, 61, 131]), (128, .iload 5, 130, 0, [5]), (130, .ireturn, 131, 0, []), (131, .iload 5, 133, 0, [5]), (133, .ifCond .ne 27, 136, 0, [160]), (136, .aload_n 0, 137, 0, [0]), (137, .getfield 18, 140, 0, [2, 2, 2]), (140, .getfield 49, 143, 0, [0, 1, 2]), (143, .iload_n 2, 144, 0, [2]), (144, .iaload, 145, 0, []), (145, .iload 4, 147, 0, [4]), (147, .iadd, 148, 0, []), (148, .aload_n 0, 149, 0, [0]), (149, .getfield 18, 152, 0, [2, 2, 2]), (152, .getfield 45, 155, 0, [0, 0, 2]), (155, .iload_n 3, 156, 0, [3]), (156, .iaload, 157, 0, []), (157, .if_icmp .ge 7, 160, 0, [164]), (160, .iconst 1, 161, 1, []), (161, .goto 4, 164, 0, [165]), (164, .iconst 0, 165, 0, []), (165, .ireturn, 166, 0, []), (166, .iload 5, 168, 0, [5]), (168, .ifCond .eq 12, 171, 0, [180]), (171, .iload 6, 173, 0, [6]), (173, .ifCond .eq 7, 176, 0, [180]), (176, .iconst 1, 177, 1, []), (177, .goto 4, 180, 0, [181]), (180, .iconst 0, 181, 0, []), (181, .ireturn, 182, 0, [])]
def md_X2_isNeverMet : MDT := (cl_X2_isNeverMet, 7, 5, [])
abbrev k_X2_isNeverMet : Nat := 231
def cl_X8_passOnce : List Row := [(0, .aload_n 0, 1, 0, [0]), (1, .getfield 29, 4, 0, [8, 4, 2]), (4, .aload_n 0, 5, 0, [0]), (5, .getfield 12, 8, 0, [8, 0, 2]), (8, .getfield 114, 11, 0, [2, 2, 2]), (11, .invokevirtual 244, 14, 0, [6, 221, 2, 0]), (14, .aload_n 0, 15, 0, [0]), (15, .getfield 36, 18, 0, [8, 5, 2]), (18, .invokevirtual 399, 21, 0, [6, 235, 1, 5]), (21, .aload_n 0, 22, 0, [0]), (22, .getfield 36, 25, 0, [8, 5, 2]), (25, .aload_n 0, 26, 0, [0]), (26, .getfield 12, 29, 0, [8, 0, 2]), (29, .getfield 135, 32, 0, [2, 3, 2]), (32, .aload_n 0, 33, 0, [0]), (33, .getfield 29, 36, 0, [8, 4, 2]), (36, .iconst 1, 37, 1, []), (37, .invokevirtual 402, 40, 0, [6, 236, 4, 5]), (40, .ifCond .ne 16, 43, 0, [56]), (43, .aload_n 0, 44, 0, [0]), (44, .iconst 5, 45, 5, []), (45, .aload_n 0, 46, 0, [0]), (46, .getfield 36, 49, 0, [8, 5, 2]), (49, .getfield 406, 52, 0, [5, 2, 0]), (52, .invokevirtual 338, 55, 0, [6, 257, 3, 8]), (55, .ireturn, 56, 0, []), (56, .aload_n 0, 57, 0, [0]), (57, .invokevirtual 409, 60, 0, [6, 269, 1, 8]), (60, .aload_n 0, 61, 0, [0]), (61, .getfield 36, 64, 0, [8, 5, 2]), (64, .getfield 412, 67, 0, [5, 1, 0]), (67, .ireturn, 68, 0, [])]
def md_X8_passOnce : MDT := (cl_X8_passOnce, 1, 0, [])
abbrev k_X8_passOnce : Nat := 232
def cl_X9_goesThrough : List Row := [(0, .iconst 0, 1, 0, []), (1, .istore_n 2, 2, 0, [2]), (2, .iload_n 2, 3, 0, [2]), (3, .aload_n 0, 4, 0, [0]), (4, .getfield 9, 7, 0, [9, 1, 2]), (7, .iconst 1, 8, 1, []), (8, .iaload, 9, 0, []), (9, .if_icmp .ge 60, 12, 0, [69]), (12, .iload_n 1, 13, 0, [1]), (13, .ifCond .eq 17, 16, 0, [30]), (16, .aload_n 0, 17, 0, [0]), (17, .iload_n 2, 18, 0, [2]), (18, .iconst 1, 19, 1, []), (19, .invokevirtual 64, 22, 0, [6, 151, 3, 9]), (22, .bipush 35, 24, 35, []), (24, .if_icmp .ne 6, 27, 0, [30]), (27, .goto 36, 30, 0, [63]), (30, .aload_n 0, 31, 0, [0]), (31, .iload_n 2, 32, 0, [2]), (32, .invokevirtual 95, 35, 0, [6, 270, 2, 9]), (35, .aload_n 0, 36, 0, [0]), (36, .aload_n 0, 37, 0, [0]), (37, .iload_n 2, 38, 0, [2]), (38, .iconst 2, 39, 2, []), (39, .invokevirtual 64, 42, 0, [6, 151, 3, 9]), (42, .invokevirtual 99, 45, 0, [6, 271, 2, 9]), (45, .ifCond .ne 16, 48, 0, [61]), (48, .aload_n 0, 49, 0, [0]), (49, .aload_n 0, 50, 0, [0]), (50, .iload_n 2, 51, 0, [2]), (51, .iconst 3, 52, 3, []), (52, .invokevirtual 64, 55, 0, [6, 151, 3, 9]), (55, .invokevirtual 99, 58, 0, [6, 271, 2, 9]), (58, .ifCond .eq 5, 61, 0, [63]), (61, .iload_n 2, 62, 0, [2]), (62, .ireturn, 63, 0, []), (63, .iinc 2 1, 66, 1, [2]), (66, .goto (-64), 69, 0, [2]), (69, .iconst (-1), 70, (-1), []), (70, .ireturn, 71, 0, [])]
def md_X9_goesThrough : MDT := (cl_X9_goesThrough, 3, 0, [])
abbrev k_X9_goesThrough : Nat := 233
def cl_X8_passUntilSettled : List Row := [(0, .aload_n 0, 1, 0, [0]), (1, .getfield 29, 4, 0, [8, 4, 2]), (4, .aload_n 0, 5, 0, [0]), (5, .getfield 12, 8, 0, [8, 0, 2]), (8, .getfield 114, 11, 0, [2, 2, 2]), (11, .invokevirtual 244, 14, 0, [6, 221, 2, 0]), (14, .aload_n 0, 15, 0, [0]), (15, .getfield 36, 18, 0, [8, 5, 2]), (18, .invokevirtual 399, 21, 0, [6, 235, 1, 5]), (21, .aload_n 0, 22, 0, [0]), (22, .getfield 36, 25, 0, [8, 5, 2]), (25, .aload_n 0, 26, 0, [0]), (26, .getfield 12, 29, 0, [8, 0, 2]), (29, .getfield 135, 32, 0, [2, 3, 2]), (32, .aload_n 0, 33, 0, [0]), (33, .getfield 29, 36, 0, [8, 4, 2]), (36, .iconst 1, 37, 1, []), (37, .invokevirtual 413, 40, 0, [6, 245, 4, 5]), (40, .ifCond .ne 16, 43, 0, [56]), (43, .aload_n 0, 44, 0, [0]), (44, .iconst 5, 45, 5, []), (45, .aload_n 0, 46, 0, [0]), (46, .getfield 36, 49, 0, [8, 5, 2]), (49, .getfield 406, 52, 0, [5, 2, 0]), (52, .invokevirtual 338, 55, 0, [6, 257, 3, 8]), (55, .ireturn, 56, 0, []), (56, .aload_n 0, 57, 0, [0]), (57, .invokevirtual 409, 60, 0, [6, 269, 1, 8]), (60, .aload_n 0, 61, 0, [0]), (61, .getfield 36, 64, 0, [8, 5, 2]), (64, .getfield 416, 67, 0, [5, 0, 0]), (67, .ireturn, 68, 0, [])]
def md_X8_passUntilSettled : MDT := (cl_X8_passUntilSettled, 1, 0, [])
abbrev k_X8_passUntilSettled : Nat := 234
def cl_X5_begin : List Row := [(0, .aload_n 0, 1, 0, [0]), (1, .iconst 0, 2, 0, []), (2, .putfield 9, 5, 0, [5, 0, 0]), (5, .aload_n 0, 6, 0, [0]), (6, .iconst 0, 7, 0, []), (7, .putfield 15, 10, 0, [5, 1, 0]), (10, .aload_n 0, 11, 0, [0]), (11, .iconst (-1), 12, (-1), []), (12, .putfield 18, 15, 0, [5, 2, 0]), (15, .return_, 16, 0, [])]
def md_X5_begin : MDT := (cl_X5_begin, 1, 0, [])
abbrev k_X5_begin : Nat := 235
def cl_X5_makePass : List Row := [(0, .iconst 0, 1, 0, []), (1, .istore 4, 3, 0, [4]), (3, .iload 4, 5, 0, [4]), (5, .aload_n 1, 6, 0, [1]), (6, .getfield 25, 9, 0, [1, 0, 0]), (9, .if_icmp .ge 77, 12, 0, [86]), (12, .aload_n 1, 13, 0, [1]), (13, .getfield 30, 16, 0, [1, 3, 2]), (16, .iload 4, 18, 0, [4]), (18, .caload, 19, 0, []), (19, .bipush 35, 21, 35, []), (21, .if_icmp .ne 10, 24, 0, [31]), (24, .iload_n 3, 25, 0, [3]), (25, .ifCond .ne 6, 28, 0, [31]), (28, .goto 52, 31, 0, [80]), (31, .aload_n 0, 32, 0, [0]), (32, .aload_n 1, 33, 0, [1]), (33, .iload 4, 35, 0, [4]), (35, .aload_n 2, 36, 0, [2]), (36, .invokevirtual 34, 39, 0, [6, 272, 4, 5]), (39, .aload_n 2, 40, 0, [2]), (40, .aload_n 1, 41, 0, [1]), (41, .getfield 38, 44, 0, [1, 4, 2]), (44, .iload 4, 46, 0, [4]), (46, .iaload, 47, 0, []), (47, .invokevirtual 42, 50, 0, [6, 247, 2, 0]), (50, .ifCond .ne 17, 53, 0, [67]), (53, .aload_n 2, 54, 0, [2]), (54, .aload_n 1, 55, 0, [1]), (55, .getfield 48, 58, 0, [1, 5, 2]), (58, .iload 4, 60, 0, [4]), (60, .iaload, 61, 0, []), (61, .invokevirtual 42, 64, 0, [6, 247, 2, 0]), (64, .ifCond .eq 16, 67, 0, [80]), (67, .aload_n 0, 68, 0, [0]), (68, .aload_n 1, 69, 0, [1]), (69, .getfield 51, 72, 0, [1, 2, 2]), (72, .iload 4, 74, 0, [4]), (74, .iaload, 75, 0, []), (75, .putfield 18, 78, 0, [5, 2, 0]), (78, .iconst 0, 79, 0, []), (79, .ireturn, 80, 0, []), (80, .iinc 4 1, 83, 1, [4]), (83, .goto (-80), 86, 0, [3]), (86, .aload_n 0, 87, 0, [0]), (87, .dup, 88, 0, []), (88, .getfield 9, 91, 0, [5, 0, 0]), (91, .iconst 1, 92, 1, []), (92, .iadd, 93, 0, []), (93, .putfield 9, 96, 0, [5, 0, 0]), (96, .iconst 1, 97, 1, []), (97, .ireturn, 98, 0, [])]
def md_X5_makePass : MDT := (cl_X5_makePass, 5, 5, [])
abbrev k_X5_makePass : Nat := 236
def cl_X6_chooseSides : List Row := [(0, .aload_n 0, 1, 0, [0]), (1, .getfield 18, 4, 0, [6, 2, 2]), (4, .astore 5, 6, 0, [5]), (6, .iload 4, 8, 0, [4]), (8, .bipush 10, 10, 10, []), (10, .if_icmp .gt 22, 13, 0, [32]), (13, .aload 5, 15, 0, [5]), (15, .aload_n 1, 16, 0, [1]), (16, .aload_n 2, 17, 0, [2]), (17, .iload_n 3, 18, 0, [3]), (18, .invokevirtual 30, 21, 0, [6, 189, 4, 4]), (21, .ifCond .eq 11, 24, 0, [32]), (24, .aload_n 0, 25, 0, [0]), (25, .iload_n 3, 26, 0, [3]), (26, .invokevirtual 34, 29, 0, [6, 273, 2, 6]), (29, .ifCond .ne 4, 32, 0, [33]), (32, .return_, 33, 0, []), (33, .aload_n 0, 34, 0, [0]), (34, .aload_n 1, 35, 0, [1]), (35, .invokevirtual 38, 38, 0, [6, 274, 2, 6]), (38, .istore 6, 40, 0, [6]), (40, .iload 6, 42, 0, [6]), (42, .iconst (-1), 43, (-1), []), (43, .if_icmp .ne 25, 46, 0, [68]), (46, .aload 5, 48, 0, [5]), (48, .getfield 42, 51, 0, [4, 0, 2]), (51, .iconst 0, 52, 0, []), (52, .aload_n 0, 53, 0, [0]), (53, .getfield 9, 56, 0, [6, 0, 2]), (56, .iconst 0, 57, 0, []), (57, .bipush 6, 59, 6, []), (59, .invokestatic 45, 62, 0, [2]), (62, .aload_n 0, 63, 0, [0]), (63, .iconst 1, 64, 1, []), (64, .putfield 22, 67, 0, [6, 1, 5]), (67, .return_, 68, 0, []), (68, .aload 5, 70, 0, [5]), (70, .getfield 51, 73, 0, [4, 1, 2]), (73, .iload 6, 75, 0, [6]), (75, .iconst 1, 76, 1, []), (76, .iastore, 77, 0, []), (77, .aload_n 0, 78, 0, [0]), (78, .aload_n 1, 79, 0, [1]), (79, .aload_n 2, 80, 0, [2]), (80, .iload_n 3, 81, 0, [3]), (81, .iload 4, 83, 0, [4]), (83, .iconst 1, 84, 1, []), (84, .iadd, 85, 0, []), (85, .invokestatic 26, 88, 0, [0, 237, 5]), (88, .aload 5, 90, 0, [5]), (90, .getfield 51, 93, 0, [4, 1, 2]), (93, .iload 6, 95, 0, [6]), (95, .iconst 2, 96, 2, []), (96, .iastore, 97, 0, []), (97, .aload_n 0, 98, 0, [0]), (98, .aload_n 1, 99, 0, [1]), (99, .aload_n 2, 100, 0, [2]), (100, .iload_n 3, 101, 0, [3]), (101, .iload 4, 103, 0, [4]), (103, .iconst 1, 104, 1, []), (104, .iadd, 105, 0, []), (105, .invokestatic 26, 108, 0, [0, 237, 5]), (108, .aload 5, 110, 0, [5]), (110, .getfield 51, 113, 0, [4, 1, 2]), (113, .iload 6, 115, 0, [6]), (115, .iconst 0, 116, 0, []), (116, .iastore, 117, 0, []), (117, .return_, 118, 0, [])]
def md_X6_chooseSides : MDT := (cl_X6_chooseSides, 7, 0, [])
abbrev k_X6_chooseSides : Nat := 237
def cl_X9_from : List Row := [(0, .iload_n 0, 1, 0, [0]), (1, .bipush 40, 3, 40, []), (3, .if_icmp .le 7, 6, 0, [10]), (6, .lconst 0, 7, 0, []), (7, .goto 22, 10, 0, [29]), (10, .iload_n 0, 11, 0, [0]), (11, .ifCond .gt 9, 14, 0, [20]), (14, .ldc2_w 201, 17, 0, [2199023255551]), (17, .goto 12, 20, 0, [29]), (20, .ldc2_w 201, 23, 0, [2199023255551]), (23, .ldc2_w 203, 26, (-1), []), (26, .iload_n 0, 27, 0, [0]), (27, .lshl, 28, 0, []), (28, .land, 29, 0, []), (29, .lreturn, 30, 0, [])]
def md_X9_from : MDT := (cl_X9_from, 1, 0, [])
abbrev k_X9_from : Nat := 238
def cl_X9_till : List Row := [(0, .iload_n 0, 1, 0, [0]), (1, .ifCond .ge 7, 4, 0, [8]), (4, .lconst 0, 5, 0, []), (5, .goto 22, 8, 0, [27]), (8, .iload_n 0, 9, 0, [0]), (9, .bipush 40, 11, 40, []), (11, .if_icmp .lt 9, 14, 0, [20]), (14, .ldc2_w 201, 17, 0, [2199023255551]), (17, .goto 10, 20, 0, [27]), (20, .lconst 1, 21, 0, []), (21, .iload_n 0, 22, 0, [0]), (22, .iconst 1, 23, 1, []), (23, .iadd, 24, 0, []), (24, .lshl, 25, 0, []), (25, .lconst 1, 26, 0, []), (26, .lsub, 27, 0, []), (27, .lreturn, 28, 0, [])]
def md_X9_till : MDT := (cl_X9_till, 1, 0, [])
abbrev k_X9_till : Nat := 239
def cl_X9_isSolvable_0 : List Row := [(0, .aload_n 0, 1, 0, [0]), (1, .iload_n 1, 2, 0, [1]), (2, .invokevirtual 223, 5, 0, [6, 275, 2, 9]), (5, .ifCond .ne 5, 8, 0, [10]), (8, .iconst 0, 9, 0, []), (9, .ireturn, 10, 0, []), (10, .iconst (-1), 11, (-1), []), (11, .istore_n 2, 12, 0, [2]), (12, .bipush 42, 14, 42, []), (14, .istore_n 3, 15, 0, [3]), (15, .iconst 0, 16, 0, []), (16, .istore 4, 18, 0, [4]), (18, .iload 4, 20, 0, [4]), (20, .aload_n 0, 21, 0, [0]), (21, .getfield 9, 24, 0, [9, 1, 2]), (24, .iconst 0, 25, 0, []), (25, .iaload, 26, 0, []), (26, .if_icmp .ge 67, 29, 0, [93]), (29, .aload_n 0, 30, 0, [0]), (30, .getfield 13, 33, 0, [9, 12, 2]), (33, .bipush 6, 35, 6, []), (35, .iload_n 1, 36, 0, [1]), (36, .imul, 37, 0, []), (37, .iload 4, 39, 0, [4]), (39, .iadd, 40, 0, []), (40, .laload, 41, 0, []), (41, .invokestatic 226, 44, 0, [0, 276, 1]), (44, .istore 5, 46, 0, [5]), (46, .iload 5, 48, 0, [5]), (48, .iconst 1, 49, 1, []), (49, .if_icmp .le 23, 52, 0, [72]), (52, .iload 5, 54, 0, [5]), (54, .iload_n 3, 55, 0, [3]), (55, .if_icmp .ge 17, 58, 0, [72]), (58, .aload_n 0, 59, 0, [0]), (59, .iload 4, 61, 0, [4]), (61, .invokevirtual 181, 64, 0, [6, 144, 2, 9]), (64, .ifCond .le 8, 67, 0, [72]), (67, .iload 4, 69, 0, [4]), (69, .goto 4, 72, 0, [73]), (72, .iload_n 2, 73, 0, [2]), (73, .istore_n 2, 74, 0, [2]), (74, .iload_n 2, 75, 0, [2]), (75, .iload 4, 77, 0, [4]), (77, .if_icmp .ne 8, 80, 0, [85]), (80, .iload 5, 82, 0, [5]), (82, .goto 4, 85, 0, [86]), (85, .iload_n 3, 86, 0, [3]), (86, .istore_n 3, 87, 0, [3]), (87, .iinc 4 1, 90, 1, [4]), (90, .goto (-72), 93, 0, [18]), (93, .iload_n 2, 94, 0, [2]), (94, .ifCond .ge 5, 97, 0, [99]), (97, .iconst 1, 98, 1, []), (98, .ireturn, 99, 0, []), (99, .aload_n 0, 100, 0, [0]), (100, .getfield 13, 103, 0, [9, 12, 2]), (103, .bipush 6, 105, 6, []), (105, .iload_n 1, 106, 0, [1]), (106, .imul, 107, 0, [])]
def cl_X9_isSolvable_1 : List Row := [(107, .iload_n 2, 108, 0, [2]), (108, .iadd, 109, 0, []), (109, .laload, 110, 0, []), (110, .lstore 4, 112, 0, [4]), (112, .iconst 0, 113, 0, []), (113, .istore 6, 115, 0, [6]), (115, .iload 6, 117, 0, [6]), (117, .bipush 40, 119, 40, []), (119, .if_icmp .gt 36, 122, 0, [155]), (122, .lload 4, 124, 0, [4]), (124, .iload 6, 126, 0, [6]), (126, .lshr, 127, 0, []), (127, .lconst 1, 128, 0, []), (128, .land, 129, 0, []), (129, .lconst 1, 130, 0, []), (130, .lcmp, 131, 0, []), (131, .ifCond .ne 18, 134, 0, [149]), (134, .aload_n 0, 135, 0, [0]), (135, .iload_n 1, 136, 0, [1]), (136, .iload_n 2, 137, 0, [2]), (137, .lconst 1, 138, 0, []), (138, .iload 6, 140, 0, [6]), (140, .lshl, 141, 0, []), (141, .invokevirtual 229, 144, 0, [6, 175, 4, 9]), (144, .ifCond .eq 5, 147, 0, [149]), (147, .iconst 1, 148, 1, []), (148, .ireturn, 149, 0, []), (149, .iinc 6 1, 152, 1, [6]), (152, .goto (-37), 155, 0, [115]), (155, .iconst 0, 156, 0, []), (156, .ireturn, 157, 0, [])]
def cl_X9_isSolvable : List Row := cl_X9_isSolvable_0 ++ cl_X9_isSolvable_1
def md_X9_isSolvable : MDT := (cl_X9_isSolvable, 7, 5, [])
abbrev k_X9_isSolvable : Nat := 240
def cl_X8_isHeight : List Row := [(0, .iload_n 0, 1, 0, [0]), (1, .ifCond .lt 13, 4, 0, [14]), (4, .iload_n 0, 5, 0, [0]), (5, .bipush 40, 7, 40, []), (7, .if_icmp .gt 7, 10, 0, [14]), (10, .iconst 1, 11, 1, []), (11, .goto 4, 14, 0, [15]), (14, .iconst 0, 15, 0, []), (15, .ireturn, 16, 0, [])]
def md_X8_isHeight : MDT := (cl_X8_isHeight, 1, 5, [])
abbrev k_X8_isHeight : Nat := 241
def cl_X0_fix : List Row := [(0, .iload_n 2, 1, 0, [2]), (1, .aload_n 0, 2, 0, [0]), (2, .getfield 9, 5, 0, [0, 0, 2]), (5, .iload_n 1, 6, 0, [1]), (6, .iaload, 7, 0, []), (7, .if_icmp .lt 13, 10, 0, [20]), (10, .iload_n 2, 11, 0, [2]), (11, .aload_n 0, 12, 0, [0]), (12, .getfield 15, 15, 0, [0, 1, 2]), (15, .iload_n 1, 16, 0, [1]), (16, .iaload, 17, 0, []), (17, .if_icmp .le 5, 20, 0, [22]), (20, .iconst 0, 21, 0, []), (21, .ireturn, 22, 0, []), (22, .aload_n 0, 23, 0, [0]), (23, .iload_n 1, 24, 0, [1]), (24, .iload_n 2, 25, 0, [2]), (25, .iload_n 2, 26, 0, [2]), (26, .invokevirtual 24, 29, 0, [6, 263, 4, 0]), (29, .iconst 1, 30, 1, []), (30, .ireturn, 31, 0, [])]
def md_X0_fix : MDT := (cl_X0_fix, 3, 5, [])
abbrev k_X0_fix : Nat := 242
def cl_X2_doorAtRank : List Row := [(0, .iconst 0, 1, 0, []), (1, .istore_n 2, 2, 0, [2]), (2, .iload_n 2, 3, 0, [2]), (3, .aload_n 0, 4, 0, [0]), (4, .getfield 28, 7, 0, [2, 0, 0]), (7, .if_icmp .ge 20, 10, 0, [27]), (10, .aload_n 0, 11, 0, [0]), (11, .iload_n 2, 12, 0, [2]), (12, .invokevirtual 73, 15, 0, [6, 277, 2, 2]), (15, .iload_n 1, 16, 0, [1]), (16, .if_icmp .ne 5, 19, 0, [21]), (19, .iload_n 2, 20, 0, [2]), (20, .ireturn, 21, 0, []), (21, .iinc 2 1, 24, 1, [2]), (24, .goto (-22), 27, 0, [2]), (27, .iconst (-1), 28, (-1), []), (28, .ireturn, 29, 0, [])]
def md_X2_doorAtRank : MDT := (cl_X2_doorAtRank, 3, 0, [])
abbrev k_X2_doorAtRank : Nat := 243
def cl_X1_positionAtRank : List Row := [(0, .iconst 0, 1, 0, []), (1, .istore_n 2, 2, 0, [2]), (2, .iload_n 2, 3, 0, [2]), (3, .aload_n 0, 4, 0, [0]), (4, .getfield 28, 7, 0, [1, 0, 0]), (7, .if_icmp .ge 20, 10, 0, [27]), (10, .aload_n 0, 11, 0, [0]), (11, .iload_n 2, 12, 0, [2]), (12, .invokevirtual 41, 15, 0, [6, 278, 2, 1]), (15, .iload_n 1, 16, 0, [1]), (16, .if_icmp .ne 5, 19, 0, [21]), (19, .iload_n 2, 20, 0, [2]), (20, .ireturn, 21, 0, []), (21, .iinc 2 1, 24, 1, [2]), (24, .goto (-22), 27, 0, [2]), (27, .iconst (-1), 28, (-1), []), (28, .ireturn, 29, 0, [])]
def md_X1_positionAtRank : MDT := (cl_X1_positionAtRank, 3, 0, [])
abbrev k_X1_positionAtRank : Nat := 244
def cl_X5_makePassesToTheEnd : List Row := [(0, .iconst 0, 1, 0, []), (1, .istore 4, 3, 0, [4]), (3, .iload 4, 5, 0, [4]), (5, .sipush 1000, 8, 1000, []), (8, .if_icmp .ge 38, 11, 0, [46]), (11, .aload_n 0, 12, 0, [0]), (12, .getfield 15, 15, 0, [5, 1, 0]), (15, .istore 5, 17, 0, [5]), (17, .aload_n 0, 18, 0, [0]), (18, .aload_n 1, 19, 0, [1]), (19, .aload_n 2, 20, 0, [2]), (20, .iload_n 3, 21, 0, [3]), (21, .invokevirtual 21, 24, 0, [6, 236, 4, 5]), (24, .ifCond .ne 5, 27, 0, [29]), (27, .iconst 0, 28, 0, []), (28, .ireturn, 29, 0, []), (29, .aload_n 0, 30, 0, [0]), (30, .getfield 15, 33, 0, [5, 1, 0]), (33, .iload 5, 35, 0, [5]), (35, .if_icmp .ne 5, 38, 0, [40]), (38, .iconst 1, 39, 1, []), (39, .ireturn, 40, 0, []), (40, .iinc 4 1, 43, 1, [4]), (43, .goto (-40), 46, 0, [3]), (46, .iconst 1, 47, 1, []), (47, .ireturn, 48, 0, [])]
def md_X5_makePassesToTheEnd : MDT := (cl_X5_makePassesToTheEnd, 6, 5, [])
abbrev k_X5_makePassesToTheEnd : Nat := 245
def cl_X4_climbOnce : List Row := [(0, .iconst 0, 1, 0, []), (1, .istore_n 2, 2, 0, [2]), (2, .iconst 0, 3, 0, []), (3, .istore_n 3, 4, 0, [3]), (4, .iload_n 3, 5, 0, [3]), (5, .aload_n 1, 6, 0, [1]), (6, .getfield 36, 9, 0, [1, 0, 0]), (9, .if_icmp .ge 20, 12, 0, [29]), (12, .aload_n 0, 13, 0, [0]), (13, .aload_n 1, 14, 0, [1]), (14, .iload_n 3, 15, 0, [3]), (15, .invokevirtual 42, 18, 0, [6, 279, 3, 4]), (18, .ifCond .eq 5, 21, 0, [23]), (21, .iconst 1, 22, 1, []), (22, .istore_n 2, 23, 0, [2]), (23, .iinc 3 1, 26, 1, [3]), (26, .goto (-22), 29, 0, [4]), (29, .iload_n 2, 30, 0, [2]), (30, .ireturn, 31, 0, [])]
def md_X4_climbOnce : MDT := (cl_X4_climbOnce, 4, 5, [])
abbrev k_X4_climbOnce : Nat := 246
def cl_X0_isEmpty : List Row := [(0, .aload_n 0, 1, 0, [0]), (1, .getfield 9, 4, 0, [0, 0, 2]), (4, .iload_n 1, 5, 0, [1]), (5, .iaload, 6, 0, []), (6, .aload_n 0, 7, 0, [0]), (7, .getfield 15, 10, 0, [0, 1, 2]), (10, .iload_n 1, 11, 0, [1]), (11, .iaload, 12, 0, []), (12, .if_icmp .le 7, 15, 0, [19]), (15, .iconst 1, 16, 1, []), (16, .goto 4, 19, 0, [20]), (19, .iconst 0, 20, 0, []), (20, .ireturn, 21, 0, [])]
def md_X0_isEmpty : MDT := (cl_X0_isEmpty, 2, 5, [])
abbrev k_X0_isEmpty : Nat := 247
def cl_J4_setLength_d00df : List Row := [(0, .aload_n 0, 1, 0, [0]), (1, .iload_n 1, 2, 0, [1]), (2, .invokespecial 333, 5, 0, [6, 280, 2, 10]), (5, .return_, 6, 0, [])]
def md_J4_setLength_d00df : MDT := (cl_J4_setLength_d00df, 2, 0, [])
abbrev k_J4_setLength_d00df : Nat := 248
def cl_J4_append_bf812 : List Row := [(0, .aload_n 0, 1, 0, [0]), (1, .iload_n 1, 2, 0, [1]), (2, .invokespecial 53, 5, 0, [6, 281, 2, 10]), (5, .pop, 6, 0, []), (6, .aload_n 0, 7, 0, [0]), (7, .areturn, 8, 0, [])]
def md_J4_append_bf812 : MDT := (cl_J4_append_bf812, 2, 0, [])
abbrev k_J4_append_bf812 : Nat := 249
def cl_J4_append_cf468 : List Row := [(0, .aload_n 0, 1, 0, [0]), (1, .iload_n 1, 2, 0, [1]), (2, .invokespecial 50, 5, 0, [6, 282, 2, 10]), (5, .pop, 6, 0, []), (6, .aload_n 0, 7, 0, [0]), (7, .areturn, 8, 0, [])]
def md_J4_append_cf468 : MDT := (cl_J4_append_cf468, 2, 0, [])
abbrev k_J4_append_cf468 : Nat := 250
def cl_J4_append_15ec4 : List Row := [(0, .aload_n 0, 1, 0, [0]), (1, .aload_n 1, 2, 0, [1]), (2, .invokespecial 29, 5, 0, [6, 283, 2, 10]), (5, .pop, 6, 0, []), (6, .aload_n 0, 7, 0, [0]), (7, .areturn, 8, 0, [])]
def md_J4_append_15ec4 : MDT := (cl_J4_append_15ec4, 2, 0, [])
abbrev k_J4_append_15ec4 : Nat := 251
def cl_J4_length_8abf5 : List Row := [(0, .aload_n 0, 1, 0, [0]), (1, .invokespecial 343, 4, 0, [6, 284, 1, 10]), (4, .ireturn, 5, 0, [])]
def md_J4_length_8abf5 : MDT := (cl_J4_length_8abf5, 1, 0, [])
abbrev k_J4_length_8abf5 : Nat := 252
def cl_J4_charAt_5068e : List Row := [(0, .aload_n 0, 1, 0, [0]), (1, .iload_n 1, 2, 0, [1]), (2, .invokespecial 329, 5, 0, [6, 285, 2, 10]), (5, .ireturn, 6, 0, [])]
def md_J4_charAt_5068e : MDT := (cl_J4_charAt_5068e, 2, 3, [])
abbrev k_J4_charAt_5068e : Nat := 253
def cl_X7_read : List Row := [(0, .aload_n 0, 1, 0, [0]), (1, .iconst 0, 2, 0, []), (2, .putfield 31, 5, 0, [7, 1, 0]), (5, .iconst 0, 6, 0, []), (6, .istore_n 1, 7, 0, [1]), (7, .iload_n 1, 8, 0, [1]), (8, .bipush 12, 10, 12, []), (10, .if_icmp .ge 53, 13, 0, [63]), (13, .aload_n 0, 14, 0, [0]), (14, .iload_n 1, 15, 0, [1]), (15, .invokevirtual 35, 18, 0, [6, 286, 2, 7]), (18, .ifCond .ne 5, 21, 0, [23]), (21, .iconst 0, 22, 0, []), (22, .ireturn, 23, 0, []), (23, .aload_n 0, 24, 0, [0]), (24, .getfield 31, 27, 0, [7, 1, 0]), (27, .aload_n 0, 28, 0, [0]), (28, .getfield 12, 31, 0, [7, 0, 2]), (31, .invokevirtual 39, 34, 0, [6, 252, 1, 10]), (34, .if_icmp .lt 12, 37, 0, [46]), (37, .aload_n 0, 38, 0, [0]), (38, .iload_n 1, 39, 0, [1]), (39, .iconst 1, 40, 1, []), (40, .iadd, 41, 0, []), (41, .putfield 43, 44, 0, [7, 2, 0]), (44, .iconst 1, 45, 1, []), (45, .ireturn, 46, 0, []), (46, .aload_n 0, 47, 0, [0]), (47, .bipush 59, 49, 59, []), (49, .invokevirtual 46, 52, 0, [6, 287, 2, 7]), (52, .ifCond .ne 5, 55, 0, [57]), (55, .iconst 0, 56, 0, []), (56, .ireturn, 57, 0, []), (57, .iinc 1 1, 60, 1, [1]), (60, .goto (-53), 63, 0, [7]), (63, .iconst 0, 64, 0, []), (64, .ireturn, 65, 0, [])]
def md_X7_read : MDT := (cl_X7_read, 2, 5, [])
abbrev k_X7_read : Nat := 254
def cl_X8_runCommand_0 : List Row := [(0, .aload_n 0, 1, 0, [0]), (1, .getfield 64, 4, 0, [8, 9, 2]), (4, .getfield 417, 7, 0, [7, 4, 2]), (7, .iload_n 1, 8, 0, [1]), (8, .caload, 9, 0, []), (9, .istore_n 2, 10, 0, [2]), (10, .aload_n 0, 11, 0, [0]), (11, .getfield 64, 14, 0, [8, 9, 2]), (14, .getfield 418, 17, 0, [7, 5, 2]), (17, .iload_n 1, 18, 0, [1]), (18, .aaload, 19, 0, []), (19, .iconst 0, 20, 0, []), (20, .iaload, 21, 0, []), (21, .istore_n 3, 22, 0, [3]), (22, .aload_n 0, 23, 0, [0]), (23, .getfield 64, 26, 0, [8, 9, 2]), (26, .getfield 418, 29, 0, [7, 5, 2]), (29, .iload_n 1, 30, 0, [1]), (30, .aaload, 31, 0, []), (31, .iconst 1, 32, 1, []), (32, .iaload, 33, 0, []), (33, .istore 4, 35, 0, [4]), (35, .aload_n 0, 36, 0, [0]), (36, .getfield 64, 39, 0, [8, 9, 2]), (39, .getfield 418, 42, 0, [7, 5, 2]), (42, .iload_n 1, 43, 0, [1]), (43, .aaload, 44, 0, []), (44, .iconst 2, 45, 2, []), (45, .iaload, 46, 0, []), (46, .istore 5, 48, 0, [5]), (48, .aload_n 0, 49, 0, [0]), (49, .getfield 64, 52, 0, [8, 9, 2]), (52, .getfield 422, 55, 0, [7, 3, 2]), (55, .iload_n 1, 56, 0, [1]), (56, .iaload, 57, 0, []), (57, .tableswitch 241 1 7 #[43, 65, 101, 137, 200, 231, 236], 100, 0, [298, 1, 100, 2, 122, 3, 158, 4, 194, 5, 257, 6, 288, 7, 293]), (100, .iload_n 3, 101, 0, [3]), (101, .iload 4, 103, 0, [4]), (103, .invokestatic 366, 106, 0, [0, 262, 2]), (106, .ifCond .eq 13, 109, 0, [119]), (109, .aload_n 0, 110, 0, [0]), (110, .iload_n 3, 111, 0, [3]), (111, .iload 4, 113, 0, [4]), (113, .invokevirtual 80, 116, 0, [6, 211, 3, 8]), (116, .goto 5, 119, 0, [121]), (119, .bipush (-2), 121, (-2), []), (121, .ireturn, 122, 0, []), (122, .aload_n 0, 123, 0, [0]), (123, .getfield 12, 126, 0, [8, 0, 2]), (126, .iload_n 3, 127, 0, [3]), (127, .invokevirtual 369, 130, 0, [6, 264, 2, 2]), (130, .ifCond .eq 25, 133, 0, [155]), (133, .iload 4, 135, 0, [4]), (135, .iload 5, 137, 0, [5]), (137, .invokestatic 366, 140, 0, [0, 262, 2]), (140, .ifCond .eq 15, 143, 0, [155]), (143, .aload_n 0, 144, 0, [0]), (144, .iload_n 3, 145, 0, [3]), (145, .iload 4, 147, 0, [4]), (147, .iload 5, 149, 0, [5])]
def cl_X8_runCommand_1 : List Row := [(149, .invokevirtual 98, 152, 0, [6, 216, 4, 8]), (152, .goto 5, 155, 0, [157]), (155, .bipush (-2), 157, (-2), []), (157, .ireturn, 158, 0, []), (158, .aload_n 0, 159, 0, [0]), (159, .getfield 12, 162, 0, [8, 0, 2]), (162, .iload_n 3, 163, 0, [3]), (163, .invokevirtual 369, 166, 0, [6, 264, 2, 2]), (166, .ifCond .eq 25, 169, 0, [191]), (169, .iload 4, 171, 0, [4]), (171, .iload 5, 173, 0, [5]), (173, .invokestatic 366, 176, 0, [0, 262, 2]), (176, .ifCond .eq 15, 179, 0, [191]), (179, .aload_n 0, 180, 0, [0]), (180, .iload_n 3, 181, 0, [3]), (181, .iload 4, 183, 0, [4]), (183, .iload 5, 185, 0, [5]), (185, .invokevirtual 102, 188, 0, [6, 219, 4, 8]), (188, .goto 5, 191, 0, [193]), (191, .bipush (-2), 193, (-2), []), (193, .ireturn, 194, 0, []), (194, .aload_n 0, 195, 0, [0]), (195, .getfield 12, 198, 0, [8, 0, 2]), (198, .iload_n 3, 199, 0, [3]), (199, .invokevirtual 369, 202, 0, [6, 264, 2, 2]), (202, .ifCond .eq 31, 205, 0, [233]), (205, .aload_n 0, 206, 0, [0]), (206, .getfield 12, 209, 0, [8, 0, 2]), (209, .iload 4, 211, 0, [4]), (211, .invokevirtual 369, 214, 0, [6, 264, 2, 2]), (214, .ifCond .eq 19, 217, 0, [233]), (217, .iload_n 2, 218, 0, [2]), (218, .iload_n 3, 219, 0, [3]), (219, .iload 4, 221, 0, [4]), (221, .iload 5, 223, 0, [5]), (223, .invokestatic 144, 226, 0, [0, 224, 4]), (226, .ifCond .eq 7, 229, 0, [233]), (229, .iconst 1, 230, 1, []), (230, .goto 4, 233, 0, [234]), (233, .iconst 0, 234, 0, []), (234, .istore 6, 236, 0, [6]), (236, .iload 6, 238, 0, [6]), (238, .ifCond .eq 16, 241, 0, [254]), (241, .aload_n 0, 242, 0, [0]), (242, .iload_n 2, 243, 0, [2]), (243, .iload_n 3, 244, 0, [3]), (244, .iload 4, 246, 0, [4]), (246, .iload 5, 248, 0, [5]), (248, .invokevirtual 153, 251, 0, [6, 225, 5, 8]), (251, .goto 5, 254, 0, [256]), (254, .bipush (-2), 256, (-2), []), (256, .ireturn, 257, 0, []), (257, .aload_n 0, 258, 0, [0]), (258, .getfield 12, 261, 0, [8, 0, 2]), (261, .getfield 135, 264, 0, [2, 3, 2]), (264, .iload_n 3, 265, 0, [3]), (265, .invokevirtual 374, 268, 0, [6, 267, 2, 1]), (268, .istore 7, 270, 0, [7]), (270, .iload 7, 272, 0, [7]), (272, .iconst (-1), 273, (-1), [])]
def cl_X8_runCommand_2 : List Row := [(273, .if_icmp .eq 12, 276, 0, [285]), (276, .aload_n 0, 277, 0, [0]), (277, .iload 7, 279, 0, [7]), (279, .invokevirtual 162, 282, 0, [6, 228, 2, 8]), (282, .goto 5, 285, 0, [287]), (285, .bipush (-2), 287, (-2), []), (287, .ireturn, 288, 0, []), (288, .aload_n 0, 289, 0, [0]), (289, .invokevirtual 195, 292, 0, [6, 232, 1, 8]), (292, .ireturn, 293, 0, []), (293, .aload_n 0, 294, 0, [0]), (294, .invokevirtual 200, 297, 0, [6, 234, 1, 8]), (297, .ireturn, 298, 0, []), (298, .aload_n 0, 299, 0, [0]), (299, .getfield 12, 302, 0, [8, 0, 2]), (302, .invokevirtual 107, 305, 0, [6, 129, 1, 2]), (305, .ireturn, 306, 0, [])]
def cl_X8_runCommand : List Row := cl_X8_runCommand_0 ++ cl_X8_runCommand_1 ++ cl_X8_runCommand_2
def md_X8_runCommand : MDT := (cl_X8_runCommand, 8, 0, [])
abbrev k_X8_runCommand : Nat := 255
def cl_X3_bringBackPrepared : List Row := [(0, .aload_n 1, 1, 0, [1]), (1, .aload_n 0, 2, 0, [0]), (2, .getfield 13, 5, 0, [3, 2, 2]), (5, .aload_n 0, 6, 0, [0]), (6, .getfield 18, 9, 0, [3, 1, 0]), (9, .aaload, 10, 0, []), (10, .invokevirtual 22, 13, 0, [6, 206, 2, 2]), (13, .return_, 14, 0, [])]
def md_X3_bringBackPrepared : MDT := (cl_X3_bringBackPrepared, 2, 0, [])
abbrev k_X3_bringBackPrepared : Nat := 256
def cl_X8_reject : List Row := [(0, .aload_n 0, 1, 0, [0]), (1, .iload_n 1, 2, 0, [1]), (2, .putfield 332, 5, 0, [8, 11, 0]), (5, .aload_n 0, 6, 0, [0]), (6, .iload_n 2, 7, 0, [2]), (7, .putfield 347, 10, 0, [8, 12, 0]), (10, .iconst (-1), 11, (-1), []), (11, .ireturn, 12, 0, [])]
def md_X8_reject : MDT := (cl_X8_reject, 3, 0, [])
abbrev k_X8_reject : Nat := 257
def cl_X9_command_0 : List Row := [(0, .iconst 4, 1, 4, []), (1, .aload_n 0, 2, 0, [0]), (2, .getfield 285, 5, 0, [9, 21, 0]), (5, .imul, 6, 0, []), (6, .istore_n 1, 7, 0, [1]), (7, .aload_n 0, 8, 0, [0]), (8, .dup, 9, 0, []), (9, .getfield 285, 12, 0, [9, 21, 0]), (12, .iconst 1, 13, 1, []), (13, .iadd, 14, 0, []), (14, .putfield 285, 17, 0, [9, 21, 0]), (17, .aload_n 0, 18, 0, [0]), (18, .invokevirtual 273, 21, 0, [6, 259, 1, 9]), (21, .istore_n 2, 22, 0, [2]), (22, .iconst 0, 23, 0, []), (23, .istore_n 3, 24, 0, [3]), (24, .iload_n 3, 25, 0, [3]), (25, .iconst 4, 26, 4, []), (26, .if_icmp .ge 18, 29, 0, [44]), (29, .aload_n 0, 30, 0, [0]), (30, .getfield 28, 33, 0, [9, 20, 2]), (33, .iload_n 1, 34, 0, [1]), (34, .iload_n 3, 35, 0, [3]), (35, .iadd, 36, 0, []), (36, .iconst 0, 37, 0, []), (37, .iastore, 38, 0, []), (38, .iinc 3 1, 41, 1, [3]), (41, .goto (-17), 44, 0, [24]), (44, .iload_n 2, 45, 0, [2]), (45, .bipush 48, 47, 48, []), (47, .bipush 57, 49, 57, []), (49, .invokestatic 60, 52, 0, [0, 150, 3]), (52, .ifCond .eq 9, 55, 0, [61]), (55, .aload_n 0, 56, 0, [0]), (56, .iload_n 1, 57, 0, [1]), (57, .invokevirtual 288, 60, 0, [6, 288, 2, 9]), (60, .return_, 61, 0, []), (61, .aload_n 0, 62, 0, [0]), (62, .getfield 28, 65, 0, [9, 20, 2]), (65, .iload_n 1, 66, 0, [1]), (66, .iload_n 2, 67, 0, [2]), (67, .iastore, 68, 0, []), (68, .iload_n 2, 69, 0, [2]), (69, .bipush 100, 71, 100, []), (71, .if_icmp .eq 42, 74, 0, [113]), (74, .iload_n 2, 75, 0, [2]), (75, .bipush 102, 77, 102, []), (77, .if_icmp .eq 36, 80, 0, [113]), (80, .iload_n 2, 81, 0, [2]), (81, .bipush 110, 83, 110, []), (83, .if_icmp .eq 30, 86, 0, [113]), (86, .iload_n 2, 87, 0, [2]), (87, .bipush 112, 89, 112, []), (89, .if_icmp .eq 24, 92, 0, [113]), (92, .iload_n 2, 93, 0, [2]), (93, .bipush 115, 95, 115, []), (95, .if_icmp .eq 18, 98, 0, [113]), (98, .iload_n 2, 99, 0, [2]), (99, .bipush 114, 101, 114, []), (101, .if_icmp .eq 12, 104, 0, [113])]
def cl_X9_command_1 : List Row := [(104, .aload_n 0, 105, 0, [0]), (105, .aload_n 0, 106, 0, [0]), (106, .getfield 267, 109, 0, [9, 17, 0]), (109, .putfield 270, 112, 0, [9, 18, 0]), (112, .return_, 113, 0, []), (113, .aload_n 0, 114, 0, [0]), (114, .dup, 115, 0, []), (115, .getfield 267, 118, 0, [9, 17, 0]), (118, .iconst 1, 119, 1, []), (119, .iadd, 120, 0, []), (120, .putfield 267, 123, 0, [9, 17, 0]), (123, .iload_n 2, 124, 0, [2]), (124, .tableswitch 217 102 115 #[72, 217, 217, 217, 217, 217, 217, 217, 113, 217, 160, 217, 198, 173], 196, 0, [341, 102, 196, 103, 341, 104, 341, 105, 341, 106, 341, 107, 341, 108, 341, 109, 341, 110, 237, 111, 341, 112, 284, 113, 341, 114, 322, 115, 297]), (196, .aload_n 0, 197, 0, [0]), (197, .bipush 114, 199, 114, []), (199, .bipush 97, 201, 97, []), (201, .bipush 109, 203, 109, []), (203, .invokevirtual 291, 206, 0, [6, 289, 4, 9]), (206, .aload_n 0, 207, 0, [0]), (207, .bipush 101, 209, 101, []), (209, .invokevirtual 276, 212, 0, [6, 290, 2, 9]), (212, .aload_n 0, 213, 0, [0]), (213, .getfield 28, 216, 0, [9, 20, 2]), (216, .iload_n 1, 217, 0, [1]), (217, .iconst 1, 218, 1, []), (218, .iadd, 219, 0, []), (219, .aload_n 0, 220, 0, [0]), (220, .bipush 32, 222, 32, []), (222, .iconst 1, 223, 1, []), (223, .invokevirtual 282, 226, 0, [6, 291, 3, 9]), (226, .iastore, 227, 0, []), (227, .aload_n 0, 228, 0, [0]), (228, .iload_n 1, 229, 0, [1]), (229, .iconst 2, 230, 2, []), (230, .iadd, 231, 0, []), (231, .invokevirtual 294, 234, 0, [6, 292, 2, 9]), (234, .goto 169, 237, 0, [403]), (237, .aload_n 0, 238, 0, [0]), (238, .bipush 97, 240, 97, []), (240, .bipush 114, 242, 114, []), (242, .bipush 114, 244, 114, []), (244, .invokevirtual 291, 247, 0, [6, 289, 4, 9]), (247, .aload_n 0, 248, 0, [0]), (248, .bipush 111, 250, 111, []), (250, .invokevirtual 276, 253, 0, [6, 290, 2, 9]), (253, .aload_n 0, 254, 0, [0]), (254, .bipush 119, 256, 119, []), (256, .invokevirtual 276, 259, 0, [6, 290, 2, 9]), (259, .aload_n 0, 260, 0, [0]), (260, .getfield 28, 263, 0, [9, 20, 2]), (263, .iload_n 1, 264, 0, [1]), (264, .iconst 1, 265, 1, []), (265, .iadd, 266, 0, []), (266, .aload_n 0, 267, 0, [0]), (267, .bipush 32, 269, 32, []), (269, .iconst 1, 270, 1, []), (270, .invokevirtual 282, 273, 0, [6, 291, 3, 9]), (273, .iastore, 274, 0, []), (274, .aload_n 0, 275, 0, [0]), (275, .iload_n 1, 276, 0, [1])]
def cl_X9_command_2 : List Row := [(276, .iconst 2, 277, 2, []), (277, .iadd, 278, 0, []), (278, .invokevirtual 294, 281, 0, [6, 292, 2, 9]), (281, .goto 122, 284, 0, [403]), (284, .aload_n 0, 285, 0, [0]), (285, .bipush 97, 287, 97, []), (287, .bipush 115, 289, 115, []), (289, .bipush 115, 291, 115, []), (291, .invokevirtual 291, 294, 0, [6, 289, 4, 9]), (294, .goto 109, 297, 0, [403]), (297, .aload_n 0, 298, 0, [0]), (298, .bipush 101, 300, 101, []), (300, .bipush 116, 302, 116, []), (302, .bipush 116, 304, 116, []), (304, .invokevirtual 291, 307, 0, [6, 289, 4, 9]), (307, .aload_n 0, 308, 0, [0]), (308, .bipush 108, 310, 108, []), (310, .invokevirtual 276, 313, 0, [6, 290, 2, 9]), (313, .aload_n 0, 314, 0, [0]), (314, .bipush 101, 316, 101, []), (316, .invokevirtual 276, 319, 0, [6, 290, 2, 9]), (319, .goto 84, 322, 0, [403]), (322, .aload_n 0, 323, 0, [0]), (323, .bipush 101, 325, 101, []), (325, .bipush 115, 327, 115, []), (327, .bipush 101, 329, 101, []), (329, .invokevirtual 291, 332, 0, [6, 289, 4, 9]), (332, .aload_n 0, 333, 0, [0]), (333, .bipush 116, 335, 116, []), (335, .invokevirtual 276, 338, 0, [6, 290, 2, 9]), (338, .goto 65, 341, 0, [403]), (341, .aload_n 0, 342, 0, [0]), (342, .invokevirtual 273, 345, 0, [6, 259, 1, 9]), (345, .bipush 114, 347, 114, []), (347, .if_icmp .ne 39, 350, 0, [386]), (350, .aload_n 0, 351, 0, [0]), (351, .bipush 114, 353, 114, []), (353, .bipush 111, 355, 111, []), (355, .bipush 112, 357, 112, []), (357, .invokevirtual 291, 360, 0, [6, 289, 4, 9]), (360, .aload_n 0, 361, 0, [0]), (361, .getfield 28, 364, 0, [9, 20, 2]), (364, .iload_n 1, 365, 0, [1]), (365, .bipush 117, 367, 117, []), (367, .iastore, 368, 0, []), (368, .aload_n 0, 369, 0, [0]), (369, .getfield 28, 372, 0, [9, 20, 2]), (372, .iload_n 1, 373, 0, [1]), (373, .iconst 1, 374, 1, []), (374, .iadd, 375, 0, []), (375, .aload_n 0, 376, 0, [0]), (376, .bipush 32, 378, 32, []), (378, .iconst 2, 379, 2, []), (379, .invokevirtual 282, 382, 0, [6, 291, 3, 9]), (382, .iastore, 383, 0, []), (383, .goto 20, 386, 0, [403]), (386, .aload_n 0, 387, 0, [0]), (387, .bipush 111, 389, 111, []), (389, .bipush 111, 391, 111, []), (391, .bipush 114, 393, 114, [])]
def cl_X9_command_3 : List Row := [(393, .invokevirtual 291, 396, 0, [6, 289, 4, 9]), (396, .aload_n 0, 397, 0, [0]), (397, .iload_n 1, 398, 0, [1]), (398, .iconst 1, 399, 1, []), (399, .iadd, 400, 0, []), (400, .invokevirtual 294, 403, 0, [6, 292, 2, 9]), (403, .return_, 404, 0, [])]
def cl_X9_command : List Row := cl_X9_command_0 ++ cl_X9_command_1 ++ cl_X9_command_2 ++ cl_X9_command_3
def md_X9_command : MDT := (cl_X9_command, 4, 0, [])
abbrev k_X9_command : Nat := 258
def cl_X9_sign : List Row := [(0, .aload_n 0, 1, 0, [0]), (1, .getfield 267, 4, 0, [9, 17, 0]), (4, .aload_n 0, 5, 0, [0]), (5, .getfield 264, 8, 0, [9, 16, 0]), (8, .if_icmp .ge 15, 11, 0, [23]), (11, .aload_n 0, 12, 0, [0]), (12, .getfield 21, 15, 0, [9, 15, 2]), (15, .aload_n 0, 16, 0, [0]), (16, .getfield 267, 19, 0, [9, 17, 0]), (19, .caload, 20, 0, []), (20, .goto 4, 23, 0, [24]), (23, .iconst (-1), 24, (-1), []), (24, .ireturn, 25, 0, [])]
def md_X9_sign : MDT := (cl_X9_sign, 1, 0, [])
abbrev k_X9_sign : Nat := 259
def cl_X3_bringBackLatest : List Row := [(0, .aload_n 0, 1, 0, [0]), (1, .aload_n 0, 2, 0, [0]), (2, .getfield 18, 5, 0, [3, 1, 0]), (5, .ifCond .le 12, 8, 0, [17]), (8, .aload_n 0, 9, 0, [0]), (9, .getfield 18, 12, 0, [3, 1, 0]), (12, .iconst 1, 13, 1, []), (13, .isub, 14, 0, []), (14, .goto 5, 17, 0, [19]), (17, .bipush 8, 19, 8, []), (19, .putfield 18, 22, 0, [3, 1, 0]), (22, .aload_n 0, 23, 0, [0]), (23, .dup, 24, 0, []), (24, .getfield 26, 27, 0, [3, 0, 0]), (27, .iconst 1, 28, 1, []), (28, .isub, 29, 0, []), (29, .putfield 26, 32, 0, [3, 0, 0]), (32, .aload_n 1, 33, 0, [1]), (33, .aload_n 0, 34, 0, [0]), (34, .getfield 13, 37, 0, [3, 2, 2]), (37, .aload_n 0, 38, 0, [0]), (38, .getfield 18, 41, 0, [3, 1, 0]), (41, .aaload, 42, 0, []), (42, .invokevirtual 22, 45, 0, [6, 206, 2, 2]), (45, .return_, 46, 0, [])]
def md_X3_bringBackLatest : MDT := (cl_X3_bringBackLatest, 2, 0, [])
abbrev k_X3_bringBackLatest : Nat := 260
def cl_X1_copyFrom : List Row := [(0, .aload_n 0, 1, 0, [0]), (1, .aload_n 1, 2, 0, [1]), (2, .getfield 28, 5, 0, [1, 0, 0]), (5, .putfield 28, 8, 0, [1, 0, 0]), (8, .aload_n 0, 9, 0, [0]), (9, .aload_n 1, 10, 0, [1]), (10, .getfield 32, 13, 0, [1, 1, 0]), (13, .putfield 32, 16, 0, [1, 1, 0]), (16, .aload_n 1, 17, 0, [1]), (17, .getfield 9, 20, 0, [1, 2, 2]), (20, .iconst 0, 21, 0, []), (21, .aload_n 0, 22, 0, [0]), (22, .getfield 9, 25, 0, [1, 2, 2]), (25, .iconst 0, 26, 0, []), (26, .bipush 10, 28, 10, []), (28, .invokestatic 35, 31, 0, [2]), (31, .aload_n 1, 32, 0, [1]), (32, .getfield 15, 35, 0, [1, 3, 2]), (35, .iconst 0, 36, 0, []), (36, .aload_n 0, 37, 0, [0]), (37, .getfield 15, 40, 0, [1, 3, 2]), (40, .iconst 0, 41, 0, []), (41, .bipush 10, 43, 10, []), (43, .invokestatic 35, 46, 0, [2]), (46, .aload_n 1, 47, 0, [1]), (47, .getfield 19, 50, 0, [1, 4, 2]), (50, .iconst 0, 51, 0, []), (51, .aload_n 0, 52, 0, [0]), (52, .getfield 19, 55, 0, [1, 4, 2]), (55, .iconst 0, 56, 0, []), (56, .bipush 10, 58, 10, []), (58, .invokestatic 35, 61, 0, [2]), (61, .aload_n 1, 62, 0, [1]), (62, .getfield 22, 65, 0, [1, 5, 2]), (65, .iconst 0, 66, 0, []), (66, .aload_n 0, 67, 0, [0]), (67, .getfield 22, 70, 0, [1, 5, 2]), (70, .iconst 0, 71, 0, []), (71, .bipush 10, 73, 10, []), (73, .invokestatic 35, 76, 0, [2]), (76, .aload_n 1, 77, 0, [1]), (77, .getfield 25, 80, 0, [1, 6, 2]), (80, .iconst 0, 81, 0, []), (81, .aload_n 0, 82, 0, [0]), (82, .getfield 25, 85, 0, [1, 6, 2]), (85, .iconst 0, 86, 0, []), (86, .bipush 10, 88, 10, []), (88, .invokestatic 35, 91, 0, [2]), (91, .return_, 92, 0, [])]
def md_X1_copyFrom : MDT := (cl_X1_copyFrom, 2, 0, [])
abbrev k_X1_copyFrom : Nat := 261
def cl_X8_isRange : List Row := [(0, .iload_n 0, 1, 0, [0]), (1, .invokestatic 239, 4, 0, [0, 241, 1]), (4, .ifCond .eq 19, 7, 0, [23]), (7, .iload_n 1, 8, 0, [1]), (8, .invokestatic 239, 11, 0, [0, 241, 1]), (11, .ifCond .eq 12, 14, 0, [23]), (14, .iload_n 0, 15, 0, [0]), (15, .iload_n 1, 16, 0, [1]), (16, .if_icmp .gt 7, 19, 0, [23]), (19, .iconst 1, 20, 1, []), (20, .goto 4, 23, 0, [24]), (23, .iconst 0, 24, 0, []), (24, .ireturn, 25, 0, [])]
def md_X8_isRange : MDT := (cl_X8_isRange, 2, 5, [])
abbrev k_X8_isRange : Nat := 262
def cl_X0_put : List Row := [(0, .aload_n 0, 1, 0, [0]), (1, .getfield 9, 4, 0, [0, 0, 2]), (4, .iload_n 1, 5, 0, [1]), (5, .iload_n 2, 6, 0, [2]), (6, .iastore, 7, 0, []), (7, .aload_n 0, 8, 0, [0]), (8, .getfield 15, 11, 0, [0, 1, 2]), (11, .iload_n 1, 12, 0, [1]), (12, .iload_n 3, 13, 0, [3]), (13, .iastore, 14, 0, []), (14, .return_, 15, 0, [])]
def md_X0_put : MDT := (cl_X0_put, 4, 0, [])
abbrev k_X0_put : Nat := 263
def cl_X2_hasDoor : List Row := [(0, .iload_n 1, 1, 0, [1]), (1, .ifCond .lt 15, 4, 0, [16]), (4, .iload_n 1, 5, 0, [1]), (5, .aload_n 0, 6, 0, [0]), (6, .getfield 28, 9, 0, [2, 0, 0]), (9, .if_icmp .ge 7, 12, 0, [16]), (12, .iconst 1, 13, 1, []), (13, .goto 4, 16, 0, [17]), (16, .iconst 0, 17, 0, []), (17, .ireturn, 18, 0, [])]
def md_X2_hasDoor : MDT := (cl_X2_hasDoor, 2, 5, [])
abbrev k_X2_hasDoor : Nat := 264
def cl_X1_positionOfSame : List Row := [(0, .iconst 0, 1, 0, []), (1, .istore 5, 3, 0, [5]), (3, .iload 5, 5, 0, [5]), (5, .aload_n 0, 6, 0, [0]), (6, .getfield 28, 9, 0, [1, 0, 0]), (9, .if_icmp .ge 57, 12, 0, [66]), (12, .aload_n 0, 13, 0, [0]), (13, .getfield 15, 16, 0, [1, 3, 2]), (16, .iload 5, 18, 0, [5]), (18, .caload, 19, 0, []), (19, .iload_n 1, 20, 0, [1]), (20, .if_icmp .ne 40, 23, 0, [60]), (23, .aload_n 0, 24, 0, [0]), (24, .getfield 19, 27, 0, [1, 4, 2]), (27, .iload 5, 29, 0, [5]), (29, .iaload, 30, 0, []), (30, .iload_n 2, 31, 0, [2]), (31, .if_icmp .ne 29, 34, 0, [60]), (34, .aload_n 0, 35, 0, [0]), (35, .getfield 22, 38, 0, [1, 5, 2]), (38, .iload 5, 40, 0, [5]), (40, .iaload, 41, 0, []), (41, .iload_n 3, 42, 0, [3]), (42, .if_icmp .ne 18, 45, 0, [60]), (45, .aload_n 0, 46, 0, [0]), (46, .getfield 25, 49, 0, [1, 6, 2]), (49, .iload 5, 51, 0, [5]), (51, .iaload, 52, 0, []), (52, .iload 4, 54, 0, [4]), (54, .if_icmp .ne 6, 57, 0, [60]), (57, .iload 5, 59, 0, [5]), (59, .ireturn, 60, 0, []), (60, .iinc 5 1, 63, 1, [5]), (63, .goto (-60), 66, 0, [3]), (66, .iconst (-1), 67, (-1), []), (67, .ireturn, 68, 0, [])]
def md_X1_positionOfSame : MDT := (cl_X1_positionOfSame, 6, 0, [])
abbrev k_X1_positionOfSame : Nat := 265
def cl_X1_append : List Row := [(0, .aload_n 0, 1, 0, [0]), (1, .getfield 32, 4, 0, [1, 1, 0]), (4, .istore 5, 6, 0, [5]), (6, .aload_n 0, 7, 0, [0]), (7, .getfield 9, 10, 0, [1, 2, 2]), (10, .aload_n 0, 11, 0, [0]), (11, .getfield 28, 14, 0, [1, 0, 0]), (14, .iload 5, 16, 0, [5]), (16, .iastore, 17, 0, []), (17, .aload_n 0, 18, 0, [0]), (18, .getfield 15, 21, 0, [1, 3, 2]), (21, .aload_n 0, 22, 0, [0]), (22, .getfield 28, 25, 0, [1, 0, 0]), (25, .iload_n 1, 26, 0, [1]), (26, .castore, 27, 0, []), (27, .aload_n 0, 28, 0, [0]), (28, .getfield 19, 31, 0, [1, 4, 2]), (31, .aload_n 0, 32, 0, [0]), (32, .getfield 28, 35, 0, [1, 0, 0]), (35, .iload_n 2, 36, 0, [2]), (36, .iastore, 37, 0, []), (37, .aload_n 0, 38, 0, [0]), (38, .getfield 22, 41, 0, [1, 5, 2]), (41, .aload_n 0, 42, 0, [0]), (42, .getfield 28, 45, 0, [1, 0, 0]), (45, .iload_n 3, 46, 0, [3]), (46, .iastore, 47, 0, []), (47, .aload_n 0, 48, 0, [0]), (48, .getfield 25, 51, 0, [1, 6, 2]), (51, .aload_n 0, 52, 0, [0]), (52, .getfield 28, 55, 0, [1, 0, 0]), (55, .iload 4, 57, 0, [4]), (57, .iastore, 58, 0, []), (58, .aload_n 0, 59, 0, [0]), (59, .dup, 60, 0, []), (60, .getfield 28, 63, 0, [1, 0, 0]), (63, .iconst 1, 64, 1, []), (64, .iadd, 65, 0, []), (65, .putfield 28, 68, 0, [1, 0, 0]), (68, .aload_n 0, 69, 0, [0]), (69, .dup, 70, 0, []), (70, .getfield 32, 73, 0, [1, 1, 0]), (73, .iconst 1, 74, 1, []), (74, .iadd, 75, 0, []), (75, .putfield 32, 78, 0, [1, 1, 0]), (78, .iload 5, 80, 0, [5]), (80, .ireturn, 81, 0, [])]
def md_X1_append : MDT := (cl_X1_append, 6, 0, [])
abbrev k_X1_append : Nat := 266
def cl_X1_positionOf : List Row := [(0, .iconst 0, 1, 0, []), (1, .istore_n 2, 2, 0, [2]), (2, .iload_n 2, 3, 0, [2]), (3, .aload_n 0, 4, 0, [0]), (4, .getfield 28, 7, 0, [1, 0, 0]), (7, .if_icmp .ge 21, 10, 0, [28]), (10, .aload_n 0, 11, 0, [0]), (11, .getfield 9, 14, 0, [1, 2, 2]), (14, .iload_n 2, 15, 0, [2]), (15, .iaload, 16, 0, []), (16, .iload_n 1, 17, 0, [1]), (17, .if_icmp .ne 5, 20, 0, [22]), (20, .iload_n 2, 21, 0, [2]), (21, .ireturn, 22, 0, []), (22, .iinc 2 1, 25, 1, [2]), (25, .goto (-23), 28, 0, [2]), (28, .iconst (-1), 29, (-1), []), (29, .ireturn, 30, 0, [])]
def md_X1_positionOf : MDT := (cl_X1_positionOf, 3, 0, [])
abbrev k_X1_positionOf : Nat := 267
def cl_X1_takeOut : List Row := [(0, .aload_n 0, 1, 0, [0]), (1, .dup, 2, 0, []), (2, .getfield 28, 5, 0, [1, 0, 0]), (5, .iconst 1, 6, 1, []), (6, .isub, 7, 0, []), (7, .putfield 28, 10, 0, [1, 0, 0]), (10, .iload_n 1, 11, 0, [1]), (11, .istore_n 2, 12, 0, [2]), (12, .iload_n 2, 13, 0, [2]), (13, .aload_n 0, 14, 0, [0]), (14, .getfield 28, 17, 0, [1, 0, 0]), (17, .if_icmp .ge 79, 20, 0, [96]), (20, .aload_n 0, 21, 0, [0]), (21, .getfield 9, 24, 0, [1, 2, 2]), (24, .iload_n 2, 25, 0, [2]), (25, .aload_n 0, 26, 0, [0]), (26, .getfield 9, 29, 0, [1, 2, 2]), (29, .iload_n 2, 30, 0, [2]), (30, .iconst 1, 31, 1, []), (31, .iadd, 32, 0, []), (32, .iaload, 33, 0, []), (33, .iastore, 34, 0, []), (34, .aload_n 0, 35, 0, [0]), (35, .getfield 15, 38, 0, [1, 3, 2]), (38, .iload_n 2, 39, 0, [2]), (39, .aload_n 0, 40, 0, [0]), (40, .getfield 15, 43, 0, [1, 3, 2]), (43, .iload_n 2, 44, 0, [2]), (44, .iconst 1, 45, 1, []), (45, .iadd, 46, 0, []), (46, .caload, 47, 0, []), (47, .castore, 48, 0, []), (48, .aload_n 0, 49, 0, [0]), (49, .getfield 19, 52, 0, [1, 4, 2]), (52, .iload_n 2, 53, 0, [2]), (53, .aload_n 0, 54, 0, [0]), (54, .getfield 19, 57, 0, [1, 4, 2]), (57, .iload_n 2, 58, 0, [2]), (58, .iconst 1, 59, 1, []), (59, .iadd, 60, 0, []), (60, .iaload, 61, 0, []), (61, .iastore, 62, 0, []), (62, .aload_n 0, 63, 0, [0]), (63, .getfield 22, 66, 0, [1, 5, 2]), (66, .iload_n 2, 67, 0, [2]), (67, .aload_n 0, 68, 0, [0]), (68, .getfield 22, 71, 0, [1, 5, 2]), (71, .iload_n 2, 72, 0, [2]), (72, .iconst 1, 73, 1, []), (73, .iadd, 74, 0, []), (74, .iaload, 75, 0, []), (75, .iastore, 76, 0, []), (76, .aload_n 0, 77, 0, [0]), (77, .getfield 25, 80, 0, [1, 6, 2]), (80, .iload_n 2, 81, 0, [2]), (81, .aload_n 0, 82, 0, [0]), (82, .getfield 25, 85, 0, [1, 6, 2]), (85, .iload_n 2, 86, 0, [2]), (86, .iconst 1, 87, 1, []), (87, .iadd, 88, 0, []), (88, .iaload, 89, 0, []), (89, .iastore, 90, 0, []), (90, .iinc 2 1, 93, 1, [2]), (93, .goto (-81), 96, 0, [12]), (96, .return_, 97, 0, [])]
def md_X1_takeOut : MDT := (cl_X1_takeOut, 3, 0, [])
abbrev k_X1_takeOut : Nat := 268
def cl_X8_takeOverTrial : List Row := [(0, .aload_n 0, 1, 0, [0]), (1, .getfield 12, 4, 0, [8, 0, 2]), (4, .getfield 114, 7, 0, [2, 2, 2]), (7, .aload_n 0, 8, 0, [0]), (8, .getfield 29, 11, 0, [8, 4, 2]), (11, .invokevirtual 244, 14, 0, [6, 221, 2, 0]), (14, .aload_n 0, 15, 0, [0]), (15, .getfield 12, 18, 0, [8, 0, 2]), (18, .dup, 19, 0, []), (19, .getfield 225, 22, 0, [2, 4, 0]), (22, .aload_n 0, 23, 0, [0]), (23, .getfield 36, 26, 0, [8, 5, 2]), (26, .getfield 416, 29, 0, [5, 0, 0]), (29, .iadd, 30, 0, []), (30, .putfield 225, 33, 0, [2, 4, 0]), (33, .aload_n 0, 34, 0, [0]), (34, .getfield 12, 37, 0, [8, 0, 2]), (37, .dup, 38, 0, []), (38, .getfield 228, 41, 0, [2, 5, 0]), (41, .aload_n 0, 42, 0, [0]), (42, .getfield 36, 45, 0, [8, 5, 2]), (45, .getfield 412, 48, 0, [5, 1, 0]), (48, .iadd, 49, 0, []), (49, .putfield 228, 52, 0, [2, 5, 0]), (52, .return_, 53, 0, [])]
def md_X8_takeOverTrial : MDT := (cl_X8_takeOverTrial, 1, 0, [])
abbrev k_X8_takeOverTrial : Nat := 269
def cl_X9_narrows : List Row := [(0, .aload_n 0, 1, 0, [0]), (1, .iload_n 1, 2, 0, [1]), (2, .iconst 2, 3, 2, []), (3, .invokevirtual 64, 6, 0, [6, 151, 3, 9]), (6, .istore_n 2, 7, 0, [2]), (7, .aload_n 0, 8, 0, [0]), (8, .iload_n 1, 9, 0, [1]), (9, .iconst 3, 10, 3, []), (10, .invokevirtual 64, 13, 0, [6, 151, 3, 9]), (13, .istore_n 3, 14, 0, [3]), (14, .aload_n 0, 15, 0, [0]), (15, .iload_n 1, 16, 0, [1]), (16, .iconst 4, 17, 4, []), (17, .invokevirtual 64, 20, 0, [6, 151, 3, 9]), (20, .istore 4, 22, 0, [4]), (22, .aload_n 0, 23, 0, [0]), (23, .iload_n 1, 24, 0, [1]), (24, .iconst 1, 25, 1, []), (25, .invokevirtual 64, 28, 0, [6, 151, 3, 9]), (28, .bipush 35, 30, 35, []), (30, .if_icmp .ne 20, 33, 0, [50]), (33, .aload_n 0, 34, 0, [0]), (34, .iload_n 2, 35, 0, [2]), (35, .iload_n 3, 36, 0, [3]), (36, .iload 4, 38, 0, [4]), (38, .invokevirtual 86, 41, 0, [6, 293, 4, 9]), (41, .aload_n 0, 42, 0, [0]), (42, .iload_n 3, 43, 0, [3]), (43, .iload_n 2, 44, 0, [2]), (44, .iload 4, 46, 0, [4]), (46, .invokevirtual 86, 49, 0, [6, 293, 4, 9]), (49, .return_, 50, 0, []), (50, .aload_n 0, 51, 0, [0]), (51, .iload_n 3, 52, 0, [3]), (52, .aload_n 0, 53, 0, [0]), (53, .iload_n 2, 54, 0, [2]), (54, .iconst 2, 55, 2, []), (55, .invokevirtual 68, 58, 0, [6, 171, 3, 9]), (58, .iload 4, 60, 0, [4]), (60, .iadd, 61, 0, []), (61, .invokevirtual 89, 64, 0, [6, 294, 3, 9]), (64, .aload_n 0, 65, 0, [0]), (65, .iload_n 2, 66, 0, [2]), (66, .aload_n 0, 67, 0, [0]), (67, .iload_n 3, 68, 0, [3]), (68, .iconst 3, 69, 3, []), (69, .invokevirtual 68, 72, 0, [6, 171, 3, 9]), (72, .iload 4, 74, 0, [4]), (74, .isub, 75, 0, []), (75, .invokevirtual 92, 78, 0, [6, 295, 3, 9]), (78, .aload_n 0, 79, 0, [0]), (79, .iload_n 1, 80, 0, [1]), (80, .iconst 1, 81, 1, []), (81, .invokevirtual 64, 84, 0, [6, 151, 3, 9]), (84, .bipush 61, 86, 61, []), (86, .if_icmp .ne 31, 89, 0, [117]), (89, .aload_n 0, 90, 0, [0]), (90, .iload_n 2, 91, 0, [2]), (91, .aload_n 0, 92, 0, [0]), (92, .iload_n 3, 93, 0, [3]), (93, .iconst 2, 94, 2, []), (94, .invokevirtual 68, 97, 0, [6, 171, 3, 9]), (97, .iload 4, 99, 0, [4]), (99, .isub, 100, 0, []), (100, .invokevirtual 89, 103, 0, [6, 294, 3, 9]), (103, .aload_n 0, 104, 0, [0]), (104, .iload_n 3, 105, 0, [3]), (105, .aload_n 0, 106, 0, [0]), (106, .iload_n 2, 107, 0, [2]), (107, .iconst 3, 108, 3, []), (108, .invokevirtual 68, 111, 0, [6, 171, 3, 9]), (111, .iload 4, 113, 0, [4]), (113, .iadd, 114, 0, []), (114, .invokevirtual 92, 117, 0, [6, 295, 3, 9]), (117, .return_, 118, 0, [])]
def md_X9_narrows : MDT := (cl_X9_narrows, 5, 0, [])
abbrev k_X9_narrows : Nat := 270
def cl_X9_isTorn : List Row := [(0, .aload_n 0, 1, 0, [0]), (1, .iload_n 1, 2, 0, [1]), (2, .iconst 2, 3, 2, []), (3, .invokevirtual 68, 6, 0, [6, 171, 3, 9]), (6, .aload_n 0, 7, 0, [0]), (7, .iload_n 1, 8, 0, [1]), (8, .iconst 3, 9, 3, []), (9, .invokevirtual 68, 12, 0, [6, 171, 3, 9]), (12, .if_icmp .le 7, 15, 0, [19]), (15, .iconst 1, 16, 1, []), (16, .goto 4, 19, 0, [20]), (19, .iconst 0, 20, 0, []), (20, .ireturn, 21, 0, [])]
def md_X9_isTorn : MDT := (cl_X9_isTorn, 2, 5, [])
abbrev k_X9_isTorn : Nat := 271
def cl_X5_takeSteps : List Row := [(0, .aload_n 1, 1, 0, [1]), (1, .getfield 38, 4, 0, [1, 4, 2]), (4, .iload_n 2, 5, 0, [2]), (5, .iaload, 6, 0, []), (6, .istore 4, 8, 0, [4]), (8, .aload_n 1, 9, 0, [1]), (9, .getfield 48, 12, 0, [1, 5, 2]), (12, .iload_n 2, 13, 0, [2]), (13, .iaload, 14, 0, []), (14, .istore 5, 16, 0, [5]), (16, .aload_n 1, 17, 0, [1]), (17, .getfield 54, 20, 0, [1, 6, 2]), (20, .iload_n 2, 21, 0, [2]), (21, .iaload, 22, 0, []), (22, .istore 6, 24, 0, [6]), (24, .aload_n 1, 25, 0, [1]), (25, .getfield 30, 28, 0, [1, 3, 2]), (28, .iload_n 2, 29, 0, [2]), (29, .caload, 30, 0, []), (30, .bipush 35, 32, 35, []), (32, .if_icmp .ne 26, 35, 0, [58]), (35, .aload_n 0, 36, 0, [0]), (36, .aload_n 3, 37, 0, [3]), (37, .iload 4, 39, 0, [4]), (39, .iload 5, 41, 0, [5]), (41, .iload 6, 43, 0, [6]), (43, .invokevirtual 57, 46, 0, [6, 296, 5, 5]), (46, .aload_n 0, 47, 0, [0]), (47, .aload_n 3, 48, 0, [3]), (48, .iload 5, 50, 0, [5]), (50, .iload 4, 52, 0, [4]), (52, .iload 6, 54, 0, [6]), (54, .invokevirtual 57, 57, 0, [6, 296, 5, 5]), (57, .return_, 58, 0, []), (58, .aload_n 0, 59, 0, [0]), (59, .aload_n 3, 60, 0, [3]), (60, .iload 5, 62, 0, [5]), (62, .aload_n 3, 63, 0, [3]), (63, .getfield 61, 66, 0, [0, 0, 2]), (66, .iload 4, 68, 0, [4]), (68, .iaload, 69, 0, []), (69, .iload 6, 71, 0, [6]), (71, .iadd, 72, 0, []), (72, .invokevirtual 64, 75, 0, [6, 297, 4, 5]), (75, .aload_n 0, 76, 0, [0]), (76, .aload_n 3, 77, 0, [3]), (77, .iload 4, 79, 0, [4]), (79, .aload_n 3, 80, 0, [3]), (80, .getfield 68, 83, 0, [0, 1, 2]), (83, .iload 5, 85, 0, [5]), (85, .iaload, 86, 0, []), (86, .iload 6, 88, 0, [6]), (88, .isub, 89, 0, []), (89, .invokevirtual 71, 92, 0, [6, 298, 4, 5]), (92, .aload_n 1, 93, 0, [1]), (93, .getfield 30, 96, 0, [1, 3, 2]), (96, .iload_n 2, 97, 0, [2]), (97, .caload, 98, 0, []), (98, .bipush 61, 100, 61, []), (100, .if_icmp .ne 37, 103, 0, [137]), (103, .aload_n 0, 104, 0, [0]), (104, .aload_n 3, 105, 0, [3]), (105, .iload 4, 107, 0, [4]), (107, .aload_n 3, 108, 0, [3]), (108, .getfield 61, 111, 0, [0, 0, 2]), (111, .iload 5, 113, 0, [5]), (113, .iaload, 114, 0, []), (114, .iload 6, 116, 0, [6]), (116, .isub, 117, 0, []), (117, .invokevirtual 64, 120, 0, [6, 297, 4, 5]), (120, .aload_n 0, 121, 0, [0]), (121, .aload_n 3, 122, 0, [3]), (122, .iload 5, 124, 0, [5]), (124, .aload_n 3, 125, 0, [3]), (125, .getfield 68, 128, 0, [0, 1, 2]), (128, .iload 4, 130, 0, [4]), (130, .iaload, 131, 0, []), (131, .iload 6, 133, 0, [6]), (133, .iadd, 134, 0, []), (134, .invokevirtual 71, 137, 0, [6, 298, 4, 5]), (137, .return_, 138, 0, [])]
def md_X5_takeSteps : MDT := (cl_X5_takeSteps, 7, 0, [])
abbrev k_X5_takeSteps : Nat := 272
def cl_X6_isBetter : List Row := [(0, .aload_n 0, 1, 0, [0]), (1, .getfield 22, 4, 0, [6, 1, 5]), (4, .ifCond .ne 5, 7, 0, [9]), (7, .iconst 1, 8, 1, []), (8, .ireturn, 9, 0, []), (9, .iconst 0, 10, 0, []), (10, .istore_n 2, 11, 0, [2]), (11, .iload_n 2, 12, 0, [2]), (12, .iload_n 1, 13, 0, [1]), (13, .if_icmp .ge 51, 16, 0, [64]), (16, .aload_n 0, 17, 0, [0]), (17, .getfield 18, 20, 0, [6, 2, 2]), (20, .getfield 42, 23, 0, [4, 0, 2]), (23, .iload_n 2, 24, 0, [2]), (24, .iaload, 25, 0, []), (25, .aload_n 0, 26, 0, [0]), (26, .getfield 9, 29, 0, [6, 0, 2]), (29, .iload_n 2, 30, 0, [2]), (30, .iaload, 31, 0, []), (31, .if_icmp .eq 27, 34, 0, [58]), (34, .aload_n 0, 35, 0, [0]), (35, .getfield 18, 38, 0, [6, 2, 2]), (38, .getfield 42, 41, 0, [4, 0, 2]), (41, .iload_n 2, 42, 0, [2]), (42, .iaload, 43, 0, []), (43, .aload_n 0, 44, 0, [0]), (44, .getfield 9, 47, 0, [6, 0, 2]), (47, .iload_n 2, 48, 0, [2]), (48, .iaload, 49, 0, []), (49, .if_icmp .ge 7, 52, 0, [56]), (52, .iconst 1, 53, 1, []), (53, .goto 4, 56, 0, [57]), (56, .iconst 0, 57, 0, []), (57, .ireturn, 58, 0, []), (58, .iinc 2 1, 61, 1, [2]), (61, .goto (-50), 64, 0, [11]), (64, .iconst 0, 65, 0, []), (65, .ireturn, 66, 0, [])]
def md_X6_isBetter : MDT := (cl_X6_isBetter, 3, 5, [])
abbrev k_X6_isBetter : Nat := 273
def cl_X6_tooNear : List Row := [(0, .iconst 0, 1, 0, []), (1, .istore_n 2, 2, 0, [2]), (2, .iload_n 2, 3, 0, [2]), (3, .aload_n 1, 4, 0, [1]), (4, .getfield 54, 7, 0, [1, 0, 0]), (7, .if_icmp .ge 65, 10, 0, [72]), (10, .aload_n 0, 11, 0, [0]), (11, .getfield 18, 14, 0, [6, 2, 2]), (14, .getfield 42, 17, 0, [4, 0, 2]), (17, .aload_n 1, 18, 0, [1]), (18, .getfield 60, 21, 0, [1, 4, 2]), (21, .iload_n 2, 22, 0, [2]), (22, .iaload, 23, 0, []), (23, .iaload, 24, 0, []), (24, .aload_n 0, 25, 0, [0]), (25, .getfield 18, 28, 0, [6, 2, 2]), (28, .getfield 42, 31, 0, [4, 0, 2]), (31, .aload_n 1, 32, 0, [1]), (32, .getfield 63, 35, 0, [1, 5, 2]), (35, .iload_n 2, 36, 0, [2]), (36, .iaload, 37, 0, []), (37, .iaload, 38, 0, []), (38, .isub, 39, 0, []), (39, .invokestatic 66, 42, 0, [5]), (42, .istore_n 3, 43, 0, [3]), (43, .aload_n 1, 44, 0, [1]), (44, .getfield 72, 47, 0, [1, 3, 2]), (47, .iload_n 2, 48, 0, [2]), (48, .caload, 49, 0, []), (49, .bipush 35, 51, 35, []), (51, .if_icmp .ne 15, 54, 0, [66]), (54, .iload_n 3, 55, 0, [3]), (55, .aload_n 1, 56, 0, [1]), (56, .getfield 76, 59, 0, [1, 6, 2]), (59, .iload_n 2, 60, 0, [2]), (60, .iaload, 61, 0, []), (61, .if_icmp .ge 5, 64, 0, [66]), (64, .iload_n 2, 65, 0, [2]), (65, .ireturn, 66, 0, []), (66, .iinc 2 1, 69, 1, [2]), (69, .goto (-67), 72, 0, [2]), (72, .iconst (-1), 73, (-1), []), (73, .ireturn, 74, 0, [])]
def md_X6_tooNear : MDT := (cl_X6_tooNear, 4, 0, [])
abbrev k_X6_tooNear : Nat := 274
def cl_X9_isOpen_0 : List Row := [(0, .iconst 1, 1, 1, []), (1, .istore_n 2, 2, 0, [2]), (2, .iload_n 2, 3, 0, [2]), (3, .ifCond .eq 196, 6, 0, [199]), (6, .iconst 0, 7, 0, []), (7, .istore_n 2, 8, 0, [2]), (8, .iconst 0, 9, 0, []), (9, .istore_n 3, 10, 0, [3]), (10, .iload_n 3, 11, 0, [3]), (11, .aload_n 0, 12, 0, [0]), (12, .getfield 9, 15, 0, [9, 1, 2]), (15, .iconst 1, 16, 1, []), (16, .iaload, 17, 0, []), (17, .if_icmp .ge 179, 20, 0, [196]), (20, .bipush 6, 22, 6, []), (22, .iload_n 1, 23, 0, [1]), (23, .imul, 24, 0, []), (24, .aload_n 0, 25, 0, [0]), (25, .iload_n 3, 26, 0, [3]), (26, .iconst 2, 27, 2, []), (27, .invokevirtual 64, 30, 0, [6, 151, 3, 9]), (30, .iadd, 31, 0, []), (31, .istore 4, 33, 0, [4]), (33, .bipush 6, 35, 6, []), (35, .iload_n 1, 36, 0, [1]), (36, .imul, 37, 0, []), (37, .aload_n 0, 38, 0, [0]), (38, .iload_n 3, 39, 0, [3]), (39, .iconst 3, 40, 3, []), (40, .invokevirtual 64, 43, 0, [6, 151, 3, 9]), (43, .iadd, 44, 0, []), (44, .istore 5, 46, 0, [5]), (46, .aload_n 0, 47, 0, [0]), (47, .getfield 13, 50, 0, [9, 12, 2]), (50, .iload 4, 52, 0, [4]), (52, .laload, 53, 0, []), (53, .lstore 6, 55, 0, [6]), (55, .aload_n 0, 56, 0, [0]), (56, .getfield 13, 59, 0, [9, 12, 2]), (59, .iload 5, 61, 0, [5]), (61, .laload, 62, 0, []), (62, .lstore 8, 64, 0, [8]), (64, .aload_n 0, 65, 0, [0]), (65, .getfield 13, 68, 0, [9, 12, 2]), (68, .iload 5, 70, 0, [5]), (70, .dup2, 71, 0, []), (71, .laload, 72, 0, []), (72, .aload_n 0, 73, 0, [0]), (73, .iload_n 3, 74, 0, [3]), (74, .iconst 1, 75, 1, []), (75, .invokevirtual 64, 78, 0, [6, 151, 3, 9]), (78, .aload_n 0, 79, 0, [0]), (79, .getfield 13, 82, 0, [9, 12, 2]), (82, .iload 4, 84, 0, [4]), (84, .laload, 85, 0, []), (85, .aload_n 0, 86, 0, [0]), (86, .iload_n 3, 87, 0, [3]), (87, .iconst 4, 88, 4, []), (88, .invokevirtual 64, 91, 0, [6, 151, 3, 9]), (91, .iconst 1, 92, 1, [])]
def cl_X9_isOpen_1 : List Row := [(92, .invokestatic 219, 95, 0, [0, 299, 4]), (95, .land, 96, 0, []), (96, .lastore, 97, 0, []), (97, .aload_n 0, 98, 0, [0]), (98, .getfield 13, 101, 0, [9, 12, 2]), (101, .iload 4, 103, 0, [4]), (103, .dup2, 104, 0, []), (104, .laload, 105, 0, []), (105, .aload_n 0, 106, 0, [0]), (106, .iload_n 3, 107, 0, [3]), (107, .iconst 1, 108, 1, []), (108, .invokevirtual 64, 111, 0, [6, 151, 3, 9]), (111, .aload_n 0, 112, 0, [0]), (112, .getfield 13, 115, 0, [9, 12, 2]), (115, .iload 5, 117, 0, [5]), (117, .laload, 118, 0, []), (118, .aload_n 0, 119, 0, [0]), (119, .iload_n 3, 120, 0, [3]), (120, .iconst 4, 121, 4, []), (121, .invokevirtual 64, 124, 0, [6, 151, 3, 9]), (124, .iconst 0, 125, 0, []), (125, .invokestatic 219, 128, 0, [0, 299, 4]), (128, .land, 129, 0, []), (129, .lastore, 130, 0, []), (130, .aload_n 0, 131, 0, [0]), (131, .getfield 13, 134, 0, [9, 12, 2]), (134, .iload 4, 136, 0, [4]), (136, .laload, 137, 0, []), (137, .lconst 0, 138, 0, []), (138, .lcmp, 139, 0, []), (139, .ifCond .eq 15, 142, 0, [154]), (142, .aload_n 0, 143, 0, [0]), (143, .getfield 13, 146, 0, [9, 12, 2]), (146, .iload 5, 148, 0, [5]), (148, .laload, 149, 0, []), (149, .lconst 0, 150, 0, []), (150, .lcmp, 151, 0, []), (151, .ifCond .ne 5, 154, 0, [156]), (154, .iconst 0, 155, 0, []), (155, .ireturn, 156, 0, []), (156, .iload_n 2, 157, 0, [2]), (157, .lload 6, 159, 0, [6]), (159, .aload_n 0, 160, 0, [0]), (160, .getfield 13, 163, 0, [9, 12, 2]), (163, .iload 4, 165, 0, [4]), (165, .laload, 166, 0, []), (166, .lcmp, 167, 0, []), (167, .ifCond .ne 16, 170, 0, [183]), (170, .lload 8, 172, 0, [8]), (172, .aload_n 0, 173, 0, [0]), (173, .getfield 13, 176, 0, [9, 12, 2]), (176, .iload 5, 178, 0, [5]), (178, .laload, 179, 0, []), (179, .lcmp, 180, 0, []), (180, .ifCond .eq 7, 183, 0, [187]), (183, .iconst 1, 184, 1, []), (184, .goto 4, 187, 0, [188]), (187, .iconst 0, 188, 0, []), (188, .ior, 189, 0, []), (189, .istore_n 2, 190, 0, [2])]
def cl_X9_isOpen_2 : List Row := [(190, .iinc 3 1, 193, 1, [3]), (193, .goto (-183), 196, 0, [10]), (196, .goto (-194), 199, 0, [2]), (199, .iconst 1, 200, 1, []), (200, .ireturn, 201, 0, [])]
def cl_X9_isOpen : List Row := cl_X9_isOpen_0 ++ cl_X9_isOpen_1 ++ cl_X9_isOpen_2
def md_X9_isOpen : MDT := (cl_X9_isOpen, 10, 5, [])
abbrev k_X9_isOpen : Nat := 275
def cl_X9_size : List Row := [(0, .iconst 0, 1, 0, []), (1, .istore_n 2, 2, 0, [2]), (2, .iconst 0, 3, 0, []), (3, .istore_n 3, 4, 0, [3]), (4, .iload_n 3, 5, 0, [3]), (5, .bipush 40, 7, 40, []), (7, .if_icmp .gt 27, 10, 0, [34]), (10, .iload_n 2, 11, 0, [2]), (11, .lload_n 0, 12, 0, [0]), (12, .iload_n 3, 13, 0, [3]), (13, .lshr, 14, 0, []), (14, .lconst 1, 15, 0, []), (15, .land, 16, 0, []), (16, .lconst 1, 17, 0, []), (17, .lcmp, 18, 0, []), (18, .ifCond .ne 7, 21, 0, [25]), (21, .iconst 1, 22, 1, []), (22, .goto 4, 25, 0, [26]), (25, .iconst 0, 26, 0, []), (26, .iadd, 27, 0, []), (27, .istore_n 2, 28, 0, [2]), (28, .iinc 3 1, 31, 1, [3]), (31, .goto (-27), 34, 0, [4]), (34, .iload_n 2, 35, 0, [2]), (35, .ireturn, 36, 0, [])]
def md_X9_size : MDT := (cl_X9_size, 4, 0, [])
abbrev k_X9_size : Nat := 276
def cl_X2_rankOf : List Row := [(0, .iconst 0, 1, 0, []), (1, .istore_n 2, 2, 0, [2]), (2, .iconst 0, 3, 0, []), (3, .istore_n 3, 4, 0, [3]), (4, .iload_n 3, 5, 0, [3]), (5, .aload_n 0, 6, 0, [0]), (6, .getfield 28, 9, 0, [2, 0, 0]), (9, .if_icmp .ge 21, 12, 0, [30]), (12, .aload_n 0, 13, 0, [0]), (13, .iload_n 3, 14, 0, [3]), (14, .iload_n 1, 15, 0, [1]), (15, .invokevirtual 76, 18, 0, [6, 300, 3, 2]), (18, .ifCond .eq 6, 21, 0, [24]), (21, .iinc 2 1, 24, 1, [2]), (24, .iinc 3 1, 27, 1, [3]), (27, .goto (-23), 30, 0, [4]), (30, .iload_n 2, 31, 0, [2]), (31, .ireturn, 32, 0, [])]
def md_X2_rankOf : MDT := (cl_X2_rankOf, 4, 0, [])
abbrev k_X2_rankOf : Nat := 277
def cl_X1_rankOf : List Row := [(0, .iconst 0, 1, 0, []), (1, .istore_n 2, 2, 0, [2]), (2, .iconst 0, 3, 0, []), (3, .istore_n 3, 4, 0, [3]), (4, .iload_n 3, 5, 0, [3]), (5, .aload_n 0, 6, 0, [0]), (6, .getfield 28, 9, 0, [1, 0, 0]), (9, .if_icmp .ge 47, 12, 0, [56]), (12, .aload_n 0, 13, 0, [0]), (13, .getfield 25, 16, 0, [1, 6, 2]), (16, .iload_n 3, 17, 0, [3]), (17, .iaload, 18, 0, []), (18, .aload_n 0, 19, 0, [0]), (19, .getfield 25, 22, 0, [1, 6, 2]), (22, .iload_n 1, 23, 0, [1]), (23, .iaload, 24, 0, []), (24, .if_icmp .gt 23, 27, 0, [47]), (27, .aload_n 0, 28, 0, [0]), (28, .getfield 25, 31, 0, [1, 6, 2]), (31, .iload_n 3, 32, 0, [3]), (32, .iaload, 33, 0, []), (33, .aload_n 0, 34, 0, [0]), (34, .getfield 25, 37, 0, [1, 6, 2]), (37, .iload_n 1, 38, 0, [1]), (38, .iaload, 39, 0, []), (39, .if_icmp .ne 11, 42, 0, [50]), (42, .iload_n 3, 43, 0, [3]), (43, .iload_n 1, 44, 0, [1]), (44, .if_icmp .ge 6, 47, 0, [50]), (47, .iinc 2 1, 50, 1, [2]), (50, .iinc 3 1, 53, 1, [3]), (53, .goto (-49), 56, 0, [4]), (56, .iload_n 2, 57, 0, [2]), (57, .ireturn, 58, 0, [])]
def md_X1_rankOf : MDT := (cl_X1_rankOf, 4, 0, [])
abbrev k_X1_rankOf : Nat := 278
def cl_X4_climbAlong_0 : List Row := [(0, .aload_n 1, 1, 0, [1]), (1, .getfield 46, 4, 0, [1, 4, 2]), (4, .iload_n 2, 5, 0, [2]), (5, .iaload, 6, 0, []), (6, .istore_n 3, 7, 0, [3]), (7, .aload_n 1, 8, 0, [1]), (8, .getfield 49, 11, 0, [1, 5, 2]), (11, .iload_n 2, 12, 0, [2]), (12, .iaload, 13, 0, []), (13, .istore 4, 15, 0, [4]), (15, .aload_n 1, 16, 0, [1]), (16, .getfield 52, 19, 0, [1, 6, 2]), (19, .iload_n 2, 20, 0, [2]), (20, .iaload, 21, 0, []), (21, .istore 5, 23, 0, [5]), (23, .aload_n 1, 24, 0, [1]), (24, .getfield 55, 27, 0, [1, 3, 2]), (27, .iload_n 2, 28, 0, [2]), (28, .caload, 29, 0, []), (29, .lookupswitch 89 #[(60, 27), (61, 43)], 56, 0, [118, 60, 56, 61, 72]), (56, .aload_n 0, 57, 0, [0]), (57, .iload 4, 59, 0, [4]), (59, .aload_n 0, 60, 0, [0]), (60, .getfield 9, 63, 0, [4, 0, 2]), (63, .iload_n 3, 64, 0, [3]), (64, .iaload, 65, 0, []), (65, .iload 5, 67, 0, [5]), (67, .iadd, 68, 0, []), (68, .invokevirtual 59, 71, 0, [6, 301, 3, 4]), (71, .ireturn, 72, 0, []), (72, .aload_n 0, 73, 0, [0]), (73, .iload 4, 75, 0, [4]), (75, .aload_n 0, 76, 0, [0]), (76, .getfield 9, 79, 0, [4, 0, 2]), (79, .iload_n 3, 80, 0, [3]), (80, .iaload, 81, 0, []), (81, .iload 5, 83, 0, [5]), (83, .iadd, 84, 0, []), (84, .invokevirtual 59, 87, 0, [6, 301, 3, 4]), (87, .istore 6, 89, 0, [6]), (89, .aload_n 0, 90, 0, [0]), (90, .iload_n 3, 91, 0, [3]), (91, .aload_n 0, 92, 0, [0]), (92, .getfield 9, 95, 0, [4, 0, 2]), (95, .iload 4, 97, 0, [4]), (97, .iaload, 98, 0, []), (98, .iload 5, 100, 0, [5]), (100, .isub, 101, 0, []), (101, .invokevirtual 59, 104, 0, [6, 301, 3, 4]), (104, .ifCond .ne 8, 107, 0, [112]), (107, .iload 6, 109, 0, [6]), (109, .ifCond .eq 7, 112, 0, [116]), (112, .iconst 1, 113, 1, []), (113, .goto 4, 116, 0, [117]), (116, .iconst 0, 117, 0, []), (117, .ireturn, 118, 0, []), (118, .aload_n 0, 119, 0, [0]), (119, .getfield 15, 122, 0, [4, 1, 2]), (122, .iload_n 2, 123, 0, [2]), (123, .iaload, 124, 0, [])]
def cl_X4_climbAlong_1 : List Row := [(124, .iconst 1, 125, 1, []), (125, .if_icmp .ne 21, 128, 0, [146]), (128, .aload_n 0, 129, 0, [0]), (129, .iload 4, 131, 0, [4]), (131, .aload_n 0, 132, 0, [0]), (132, .getfield 9, 135, 0, [4, 0, 2]), (135, .iload_n 3, 136, 0, [3]), (136, .iaload, 137, 0, []), (137, .iload 5, 139, 0, [5]), (139, .iadd, 140, 0, []), (140, .invokevirtual 59, 143, 0, [6, 301, 3, 4]), (143, .ifCond .ne 31, 146, 0, [174]), (146, .aload_n 0, 147, 0, [0]), (147, .getfield 15, 150, 0, [4, 1, 2]), (150, .iload_n 2, 151, 0, [2]), (151, .iaload, 152, 0, []), (152, .iconst 2, 153, 2, []), (153, .if_icmp .ne 25, 156, 0, [178]), (156, .aload_n 0, 157, 0, [0]), (157, .iload_n 3, 158, 0, [3]), (158, .aload_n 0, 159, 0, [0]), (159, .getfield 9, 162, 0, [4, 0, 2]), (162, .iload 4, 164, 0, [4]), (164, .iaload, 165, 0, []), (165, .iload 5, 167, 0, [5]), (167, .iadd, 168, 0, []), (168, .invokevirtual 59, 171, 0, [6, 301, 3, 4]), (171, .ifCond .eq 7, 174, 0, [178]), (174, .iconst 1, 175, 1, []), (175, .goto 4, 178, 0, [179]), (178, .iconst 0, 179, 0, []), (179, .ireturn, 180, 0, [])]
def cl_X4_climbAlong : List Row := cl_X4_climbAlong_0 ++ cl_X4_climbAlong_1
def md_X4_climbAlong : MDT := (cl_X4_climbAlong, 7, 5, [])
abbrev k_X4_climbAlong : Nat := 279
def cl_J5_setLength_d00df : List Row := [(0, .iload_n 1, 1, 0, [1]), (1, .ifCond .ge 12, 4, 0, [13]), (7, .dup, 8, 0, []), (8, .iload_n 1, 9, 0, [1]), (12, .athrow, 13, 0, []), (13, .aload_n 0, 14, 0, [0]), (14, .iload_n 1, 15, 0, [1]), (15, .invokevirtual 100, 18, 0, [6, 302, 2, 10]), (18, .aload_n 0, 19, 0, [0]), (19, .getfield 79, 22, 0, [10, 3, 0]), (22, .iload_n 1, 23, 0, [1]), (23, .if_icmp .ge 40, 26, 0, [63]), (26, .aload_n 0, 27, 0, [0]), (27, .invokevirtual 83, 30, 0, [6, 303, 1, 10]), (30, .ifCond .eq 18, 33, 0, [48]), (33, .aload_n 0, 34, 0, [0]), (34, .getfield 15, 37, 0, [10, 0, 2]), (37, .aload_n 0, 38, 0, [0]), (38, .getfield 79, 41, 0, [10, 3, 0]), (41, .iload_n 1, 42, 0, [1]), (45, .goto 31, 48, 0, [76]), (48, .aload_n 0, 49, 0, [0]), (49, .getfield 15, 52, 0, [10, 0, 2]), (52, .aload_n 0, 53, 0, [0]), (53, .getfield 79, 56, 0, [10, 3, 0]), (56, .iload_n 1, 57, 0, [1]), (60, .goto 16, 63, 0, [76]), (63, .aload_n 0, 64, 0, [0]), (64, .getfield 79, 67, 0, [10, 3, 0]), (67, .iload_n 1, 68, 0, [1]), (68, .if_icmp .le 8, 71, 0, [76]), (71, .aload_n 0, 72, 0, [0]), (72, .iconst 1, 73, 1, []), (73, .putfield 73, 76, 0, [10, 2, 5]), (76, .aload_n 0, 77, 0, [0]), (77, .iload_n 1, 78, 0, [1]), (78, .putfield 79, 81, 0, [10, 3, 0]), (81, .return_, 82, 0, [])]
def md_J5_setLength_d00df : MDT := (cl_J5_setLength_d00df, 2, 0, [])
abbrev k_J5_setLength_d00df : Nat := 280
def cl_J5_append_c97b9 : List Row := [(0, .aload_n 0, 1, 0, [0]), (1, .getfield 79, 4, 0, [10, 3, 0]), (4, .istore_n 2, 5, 0, [2]), (5, .iload_n 2, 6, 0, [2]), (6, .iload_n 1, 7, 0, [1]), (7, .invokestatic 245, 10, 0, [0, 304, 1]), (10, .iadd, 11, 0, []), (11, .istore_n 3, 12, 0, [3]), (12, .aload_n 0, 13, 0, [0]), (13, .iload_n 3, 14, 0, [3]), (14, .invokevirtual 100, 17, 0, [6, 302, 2, 10]), (17, .aload_n 0, 18, 0, [0]), (18, .invokevirtual 83, 21, 0, [6, 303, 1, 10]), (21, .ifCond .eq 16, 24, 0, [37]), (24, .iload_n 1, 25, 0, [1]), (25, .iload_n 3, 26, 0, [3]), (26, .aload_n 0, 27, 0, [0]), (27, .getfield 15, 30, 0, [10, 0, 2]), (30, .invokestatic 248, 33, 0, [0, 305, 3]), (33, .pop, 34, 0, []), (34, .goto 14, 37, 0, [48]), (37, .iload_n 1, 38, 0, [1]), (38, .iload_n 2, 39, 0, [2]), (39, .iload_n 3, 40, 0, [3]), (40, .aload_n 0, 41, 0, [0]), (41, .getfield 15, 44, 0, [10, 0, 2]), (47, .pop, 48, 0, []), (48, .aload_n 0, 49, 0, [0]), (49, .iload_n 3, 50, 0, [3]), (50, .putfield 79, 53, 0, [10, 3, 0]), (53, .aload_n 0, 54, 0, [0]), (54, .areturn, 55, 0, [])]
def md_J5_append_c97b9 : MDT := (cl_J5_append_c97b9, 4, 0, [])
abbrev k_J5_append_c97b9 : Nat := 281
def cl_J5_append_3fe6f : List Row := [(0, .aload_n 0, 1, 0, [0]), (1, .aload_n 0, 2, 0, [0]), (2, .getfield 79, 5, 0, [10, 3, 0]), (5, .iconst 1, 6, 1, []), (6, .iadd, 7, 0, []), (7, .invokevirtual 100, 10, 0, [6, 302, 2, 10]), (10, .aload_n 0, 11, 0, [0]), (11, .invokevirtual 83, 14, 0, [6, 303, 1, 10]), (14, .ifCond .eq 31, 17, 0, [45]), (17, .iload_n 1, 18, 0, [1]), (18, .invokestatic 191, 21, 0, [0, 306, 1]), (21, .ifCond .eq 24, 24, 0, [45]), (24, .aload_n 0, 25, 0, [0]), (25, .getfield 15, 28, 0, [10, 0, 2]), (28, .aload_n 0, 29, 0, [0]), (29, .dup, 30, 0, []), (30, .getfield 79, 33, 0, [10, 3, 0]), (33, .dup_x1, 34, 0, []), (34, .iconst 1, 35, 1, []), (35, .iadd, 36, 0, []), (36, .putfield 79, 39, 0, [10, 3, 0]), (39, .iload_n 1, 40, 0, [1]), (40, .i2b, 41, 0, []), (41, .bastore, 42, 0, []), (42, .goto 33, 45, 0, [75]), (45, .aload_n 0, 46, 0, [0]), (46, .invokevirtual 83, 49, 0, [6, 303, 1, 10]), (49, .ifCond .eq 7, 52, 0, [56]), (52, .aload_n 0, 53, 0, [0]), (56, .aload_n 0, 57, 0, [0]), (57, .getfield 15, 60, 0, [10, 0, 2]), (60, .aload_n 0, 61, 0, [0]), (61, .dup, 62, 0, []), (62, .getfield 79, 65, 0, [10, 3, 0]), (65, .dup_x1, 66, 0, []), (66, .iconst 1, 67, 1, []), (67, .iadd, 68, 0, []), (68, .putfield 79, 71, 0, [10, 3, 0]), (71, .iload_n 1, 72, 0, [1]), (75, .aload_n 0, 76, 0, [0]), (76, .areturn, 77, 0, [])]
def md_J5_append_3fe6f : MDT := (cl_J5_append_3fe6f, 2, 0, [])
abbrev k_J5_append_3fe6f : Nat := 282
def cl_J5_append_cf1ce : List Row := [(0, .aload_n 1, 1, 0, [1]), (1, .ifnonnull 8, 4, 0, [9]), (4, .aload_n 0, 5, 0, [0]), (8, .areturn, 9, 0, []), (9, .aload_n 1, 10, 0, [1]), (10, .invokevirtual 32, 13, 0, [6, 307, 1, 11]), (13, .istore_n 2, 14, 0, [2]), (14, .aload_n 0, 15, 0, [0]), (15, .aload_n 0, 16, 0, [0]), (16, .getfield 79, 19, 0, [10, 3, 0]), (19, .iload_n 2, 20, 0, [2]), (20, .iadd, 21, 0, []), (21, .invokevirtual 100, 24, 0, [6, 302, 2, 10]), (24, .aload_n 0, 25, 0, [0]), (25, .aload_n 0, 26, 0, [0]), (26, .getfield 79, 29, 0, [10, 3, 0]), (29, .aload_n 1, 30, 0, [1]), (30, .invokevirtual 208, 33, 0, [6, 308, 3, 10]), (33, .aload_n 0, 34, 0, [0]), (34, .dup, 35, 0, []), (35, .getfield 79, 38, 0, [10, 3, 0]), (38, .iload_n 2, 39, 0, [2]), (39, .iadd, 40, 0, []), (40, .putfield 79, 43, 0, [10, 3, 0]), (43, .aload_n 0, 44, 0, [0]), (44, .areturn, 45, 0, [])]
def md_J5_append_cf1ce : MDT := (cl_J5_append_cf1ce, 3, 0, [])
abbrev k_J5_append_cf1ce : Nat := 283
def cl_J5_length_8abf5 : List Row := [(0, .aload_n 0, 1, 0, [0]), (1, .getfield 79, 4, 0, [10, 3, 0]), (4, .ireturn, 5, 0, [])]
def md_J5_length_8abf5 : MDT := (cl_J5_length_8abf5, 1, 0, [])
abbrev k_J5_length_8abf5 : Nat := 284
def cl_J5_charAt_5068e : List Row := [(0, .aload_n 0, 1, 0, [0]), (1, .getfield 22, 4, 0, [10, 1, 4]), (4, .istore_n 2, 5, 0, [2]), (5, .aload_n 0, 6, 0, [0]), (6, .getfield 15, 9, 0, [10, 0, 2]), (9, .astore_n 3, 10, 0, [3]), (10, .aload_n 0, 11, 0, [0]), (11, .getfield 79, 14, 0, [10, 3, 0]), (14, .aload_n 3, 15, 0, [3]), (15, .arraylength, 16, 0, []), (16, .iload_n 2, 17, 0, [2]), (17, .ishr, 18, 0, []), (18, .invokestatic 138, 21, 0, [4]), (21, .istore 4, 23, 0, [4]), (23, .iload_n 1, 24, 0, [1]), (24, .iload 4, 26, 0, [4]), (26, .invokestatic 144, 29, 0, [0, 309, 2]), (29, .iload_n 2, 30, 0, [2]), (30, .ifCond .ne 12, 33, 0, [42]), (33, .aload_n 3, 34, 0, [3]), (34, .iload_n 1, 35, 0, [1]), (35, .baload, 36, 0, []), (36, .sipush 255, 39, 255, []), (39, .iand, 40, 0, []), (40, .i2c, 41, 0, []), (41, .ireturn, 42, 0, []), (42, .aload_n 3, 43, 0, [3]), (43, .iload_n 1, 44, 0, [1]), (47, .ireturn, 48, 0, [])]
def md_J5_charAt_5068e : MDT := (cl_J5_charAt_5068e, 5, 3, [])
abbrev k_J5_charAt_5068e : Nat := 285
def cl_X7_readCommand : List Row := [(0, .aload_n 0, 1, 0, [0]), (1, .aload_n 0, 2, 0, [0]), (2, .getfield 31, 5, 0, [7, 1, 0]), (5, .invokevirtual 50, 8, 0, [6, 310, 2, 7]), (8, .tableswitch 173 100 115 #[80, 173, 125, 173, 173, 173, 173, 173, 173, 173, 134, 173, 143, 173, 163, 153], 88, 0, [181, 100, 88, 101, 181, 102, 133, 103, 181, 104, 181, 105, 181, 106, 181, 107, 181, 108, 181, 109, 181, 110, 142, 111, 181, 112, 151, 113, 181, 114, 171, 115, 161]), (88, .aload_n 0, 89, 0, [0]), (89, .aload_n 0, 90, 0, [0]), (90, .getfield 31, 93, 0, [7, 1, 0]), (93, .iconst 1, 94, 1, []), (94, .iadd, 95, 0, []), (95, .invokevirtual 50, 98, 0, [6, 310, 2, 7]), (98, .bipush 114, 100, 114, []), (100, .if_icmp .ne 7, 103, 0, [107]), (103, .iconst 1, 104, 1, []), (104, .goto 4, 107, 0, [108]), (107, .iconst 0, 108, 0, []), (108, .istore_n 2, 109, 0, [2]), (109, .iload_n 2, 110, 0, [2]), (110, .ifCond .eq 14, 113, 0, [124]), (113, .aload_n 0, 114, 0, [0]), (114, .iload_n 1, 115, 0, [1]), (115, .iconst 5, 116, 5, []), (116, .ldc 54, 118, 0, [1]), (118, .invokevirtual 56, 121, 0, [6, 311, 4, 7]), (121, .goto 11, 124, 0, [132]), (124, .aload_n 0, 125, 0, [0]), (125, .iload_n 1, 126, 0, [1]), (126, .iconst 1, 127, 1, []), (127, .ldc 60, 129, 0, [2]), (129, .invokevirtual 56, 132, 0, [6, 311, 4, 7]), (132, .ireturn, 133, 0, []), (133, .aload_n 0, 134, 0, [0]), (134, .iload_n 1, 135, 0, [1]), (135, .iconst 2, 136, 2, []), (136, .ldc 62, 138, 0, [3]), (138, .invokevirtual 56, 141, 0, [6, 311, 4, 7]), (141, .ireturn, 142, 0, []), (142, .aload_n 0, 143, 0, [0]), (143, .iload_n 1, 144, 0, [1]), (144, .iconst 3, 145, 3, []), (145, .ldc 64, 147, 0, [4]), (147, .invokevirtual 56, 150, 0, [6, 311, 4, 7]), (150, .ireturn, 151, 0, []), (151, .aload_n 0, 152, 0, [0]), (152, .iload_n 1, 153, 0, [1]), (153, .bipush 6, 155, 6, []), (155, .ldc 66, 157, 0, [5]), (157, .invokevirtual 56, 160, 0, [6, 311, 4, 7]), (160, .ireturn, 161, 0, []), (161, .aload_n 0, 162, 0, [0]), (162, .iload_n 1, 163, 0, [1]), (163, .bipush 7, 165, 7, []), (165, .ldc 68, 167, 0, [6]), (167, .invokevirtual 56, 170, 0, [6, 311, 4, 7]), (170, .ireturn, 171, 0, []), (171, .aload_n 0, 172, 0, [0]), (172, .iload_n 1, 173, 0, [1]), (173, .bipush 8, 175, 8, []), (175, .ldc 70, 177, 0, [7]), (177, .invokevirtual 56, 180, 0, [6, 311, 4, 7]), (180, .ireturn, 181, 0, []), (181, .aload_n 0, 182, 0, [0]), (182, .iload_n 1, 183, 0, [1]), (183, .iconst 4, 184, 4, []), (184, .ldc 72, 186, 0, [8]), (186, .invokevirtual 56, 189, 0, [6, 311, 4, 7]), (189, .ireturn, 190, 0, [])]
def md_X7_readCommand : MDT := (cl_X7_readCommand, 3, 5, [])
abbrev k_X7_readCommand : Nat := 286
def cl_X7_readSign : List Row := [(0, .aload_n 0, 1, 0, [0]), (1, .aload_n 0, 2, 0, [0]), (2, .getfield 31, 5, 0, [7, 1, 0]), (5, .invokevirtual 50, 8, 0, [6, 310, 2, 7]), (8, .iload_n 1, 9, 0, [1]), (9, .if_icmp .eq 5, 12, 0, [14]), (12, .iconst 0, 13, 0, []), (13, .ireturn, 14, 0, []), (14, .aload_n 0, 15, 0, [0]), (15, .dup, 16, 0, []), (16, .getfield 31, 19, 0, [7, 1, 0]), (19, .iconst 1, 20, 1, []), (20, .iadd, 21, 0, []), (21, .putfield 31, 24, 0, [7, 1, 0]), (24, .iconst 1, 25, 1, []), (25, .ireturn, 26, 0, [])]
def md_X7_readSign : MDT := (cl_X7_readSign, 2, 5, [])
abbrev k_X7_readSign : Nat := 287
def cl_X9_binding : List Row := [(0, .aload_n 0, 1, 0, [0]), (1, .getfield 28, 4, 0, [9, 20, 2]), (4, .iload_n 1, 5, 0, [1]), (5, .iconst 1, 6, 1, []), (6, .iadd, 7, 0, []), (7, .aload_n 0, 8, 0, [0]), (8, .iconst 1, 9, 1, []), (9, .invokevirtual 279, 12, 0, [6, 312, 2, 9]), (12, .iastore, 13, 0, []), (13, .aload_n 0, 14, 0, [0]), (14, .invokevirtual 273, 17, 0, [6, 259, 1, 9]), (17, .istore_n 2, 18, 0, [2]), (18, .aload_n 0, 19, 0, [0]), (19, .getfield 270, 22, 0, [9, 18, 0]), (22, .ifCond .ge 18, 25, 0, [40]), (25, .iload_n 2, 26, 0, [2]), (26, .invokestatic 146, 29, 0, [0, 226, 1]), (29, .ifCond .ne 11, 32, 0, [40]), (32, .aload_n 0, 33, 0, [0]), (33, .aload_n 0, 34, 0, [0]), (34, .getfield 267, 37, 0, [9, 17, 0]), (37, .putfield 270, 40, 0, [9, 18, 0]), (40, .aload_n 0, 41, 0, [0]), (41, .getfield 270, 44, 0, [9, 18, 0]), (44, .ifCond .lt 4, 47, 0, [48]), (47, .return_, 48, 0, []), (48, .aload_n 0, 49, 0, [0]), (49, .dup, 50, 0, []), (50, .getfield 267, 53, 0, [9, 17, 0]), (53, .iconst 1, 54, 1, []), (54, .iadd, 55, 0, []), (55, .putfield 267, 58, 0, [9, 17, 0]), (58, .aload_n 0, 59, 0, [0]), (59, .getfield 28, 62, 0, [9, 20, 2]), (62, .iload_n 1, 63, 0, [1]), (63, .iload_n 2, 64, 0, [2]), (64, .iastore, 65, 0, []), (65, .aload_n 0, 66, 0, [0]), (66, .getfield 28, 69, 0, [9, 20, 2]), (69, .iload_n 1, 70, 0, [1]), (70, .iconst 2, 71, 2, []), (71, .iadd, 72, 0, []), (72, .aload_n 0, 73, 0, [0]), (73, .iconst 1, 74, 1, []), (74, .invokevirtual 279, 77, 0, [6, 312, 2, 9]), (77, .iastore, 78, 0, []), (78, .aload_n 0, 79, 0, [0]), (79, .getfield 28, 82, 0, [9, 20, 2]), (82, .iload_n 1, 83, 0, [1]), (83, .iconst 3, 84, 3, []), (84, .iadd, 85, 0, []), (85, .aload_n 0, 86, 0, [0]), (86, .bipush 43, 88, 43, []), (88, .iconst 2, 89, 2, []), (89, .invokevirtual 282, 92, 0, [6, 291, 3, 9]), (92, .iastore, 93, 0, []), (93, .return_, 94, 0, [])]
def md_X9_binding : MDT := (cl_X9_binding, 3, 0, [])
abbrev k_X9_binding : Nat := 288
def cl_X9_letters : List Row := [(0, .aload_n 0, 1, 0, [0]), (1, .iload_n 1, 2, 0, [1]), (2, .invokevirtual 276, 5, 0, [6, 290, 2, 9]), (5, .aload_n 0, 6, 0, [0]), (6, .iload_n 2, 7, 0, [2]), (7, .invokevirtual 276, 10, 0, [6, 290, 2, 9]), (10, .aload_n 0, 11, 0, [0]), (11, .iload_n 3, 12, 0, [3]), (12, .invokevirtual 276, 15, 0, [6, 290, 2, 9]), (15, .return_, 16, 0, [])]
def md_X9_letters : MDT := (cl_X9_letters, 4, 0, [])
abbrev k_X9_letters : Nat := 289
def cl_X9_needs : List Row := [(0, .aload_n 0, 1, 0, [0]), (1, .getfield 270, 4, 0, [9, 18, 0]), (4, .ifCond .lt 4, 7, 0, [8]), (7, .return_, 8, 0, []), (8, .aload_n 0, 9, 0, [0]), (9, .invokevirtual 273, 12, 0, [6, 259, 1, 9]), (12, .iload_n 1, 13, 0, [1]), (13, .if_icmp .eq 12, 16, 0, [25]), (16, .aload_n 0, 17, 0, [0]), (17, .aload_n 0, 18, 0, [0]), (18, .getfield 267, 21, 0, [9, 17, 0]), (21, .putfield 270, 24, 0, [9, 18, 0]), (24, .return_, 25, 0, []), (25, .aload_n 0, 26, 0, [0]), (26, .dup, 27, 0, []), (27, .getfield 267, 30, 0, [9, 17, 0]), (30, .iconst 1, 31, 1, []), (31, .iadd, 32, 0, []), (32, .putfield 267, 35, 0, [9, 17, 0]), (35, .return_, 36, 0, [])]
def md_X9_needs : MDT := (cl_X9_needs, 2, 0, [])
abbrev k_X9_needs : Nat := 290
def cl_X9_behind : List Row := [(0, .aload_n 0, 1, 0, [0]), (1, .iload_n 1, 2, 0, [1]), (2, .invokevirtual 276, 5, 0, [6, 290, 2, 9]), (5, .aload_n 0, 6, 0, [0]), (6, .iload_n 2, 7, 0, [2]), (7, .invokevirtual 279, 10, 0, [6, 312, 2, 9]), (10, .ireturn, 11, 0, [])]
def md_X9_behind : MDT := (cl_X9_behind, 3, 0, [])
abbrev k_X9_behind : Nat := 291
def cl_X9_range : List Row := [(0, .aload_n 0, 1, 0, [0]), (1, .getfield 28, 4, 0, [9, 20, 2]), (4, .iload_n 1, 5, 0, [1]), (5, .aload_n 0, 6, 0, [0]), (6, .bipush 32, 8, 32, []), (8, .iconst 2, 9, 2, []), (9, .invokevirtual 282, 12, 0, [6, 291, 3, 9]), (12, .iastore, 13, 0, []), (13, .aload_n 0, 14, 0, [0]), (14, .getfield 28, 17, 0, [9, 20, 2]), (17, .iload_n 1, 18, 0, [1]), (18, .iconst 1, 19, 1, []), (19, .iadd, 20, 0, []), (20, .aload_n 0, 21, 0, [0]), (21, .bipush 45, 23, 45, []), (23, .iconst 2, 24, 2, []), (24, .invokevirtual 282, 27, 0, [6, 291, 3, 9]), (27, .iastore, 28, 0, []), (28, .return_, 29, 0, [])]
def md_X9_range : MDT := (cl_X9_range, 2, 0, [])
abbrev k_X9_range : Nat := 292
def cl_X9_parts : List Row := [(0, .aload_n 0, 1, 0, [0]), (1, .iload_n 1, 2, 0, [1]), (2, .iconst 2, 3, 2, []), (3, .invokevirtual 68, 6, 0, [6, 171, 3, 9]), (6, .istore 4, 8, 0, [4]), (8, .aload_n 0, 9, 0, [0]), (9, .iload_n 2, 10, 0, [2]), (10, .iconst 2, 11, 2, []), (11, .invokevirtual 68, 14, 0, [6, 171, 3, 9]), (14, .istore 5, 16, 0, [5]), (16, .aload_n 0, 17, 0, [0]), (17, .iload_n 2, 18, 0, [2]), (18, .iconst 2, 19, 2, []), (19, .aload_n 0, 20, 0, [0]), (20, .iload_n 1, 21, 0, [1]), (21, .invokevirtual 82, 24, 0, [6, 313, 2, 9]), (24, .ifCond .eq 25, 27, 0, [49]), (27, .iload 5, 29, 0, [5]), (29, .iload 4, 31, 0, [4]), (31, .iload_n 3, 32, 0, [3]), (32, .isub, 33, 0, []), (33, .if_icmp .le 16, 36, 0, [49]), (36, .iload 5, 38, 0, [5]), (38, .iload 4, 40, 0, [4]), (40, .iload_n 3, 41, 0, [3]), (41, .iadd, 42, 0, []), (42, .if_icmp .ge 7, 45, 0, [49]), (45, .iconst 1, 46, 1, []), (46, .goto 4, 49, 0, [50]), (49, .iconst 0, 50, 0, []), (50, .iload 4, 52, 0, [4]), (52, .iload_n 3, 53, 0, [3]), (53, .iadd, 54, 0, []), (54, .invokevirtual 78, 57, 0, [6, 314, 5, 9]), (57, .aload_n 0, 58, 0, [0]), (58, .iload_n 2, 59, 0, [2]), (59, .iconst 3, 60, 3, []), (60, .invokevirtual 68, 63, 0, [6, 171, 3, 9]), (63, .istore 6, 65, 0, [6]), (65, .aload_n 0, 66, 0, [0]), (66, .iload_n 2, 67, 0, [2]), (67, .iconst 3, 68, 3, []), (68, .aload_n 0, 69, 0, [0]), (69, .iload_n 1, 70, 0, [1]), (70, .invokevirtual 82, 73, 0, [6, 313, 2, 9]), (73, .ifCond .eq 25, 76, 0, [98]), (76, .iload 6, 78, 0, [6]), (78, .iload 4, 80, 0, [4]), (80, .iload_n 3, 81, 0, [3]), (81, .isub, 82, 0, []), (82, .if_icmp .le 16, 85, 0, [98]), (85, .iload 6, 87, 0, [6]), (87, .iload 4, 89, 0, [4]), (89, .iload_n 3, 90, 0, [3]), (90, .iadd, 91, 0, []), (91, .if_icmp .ge 7, 94, 0, [98]), (94, .iconst 1, 95, 1, []), (95, .goto 4, 98, 0, [99]), (98, .iconst 0, 99, 0, []), (99, .iload 4, 101, 0, [4]), (101, .iload_n 3, 102, 0, [3]), (102, .isub, 103, 0, []), (103, .invokevirtual 78, 106, 0, [6, 314, 5, 9]), (106, .return_, 107, 0, [])]
def md_X9_parts : MDT := (cl_X9_parts, 7, 0, [])
abbrev k_X9_parts : Nat := 293
def cl_X9_raises : List Row := [(0, .aload_n 0, 1, 0, [0]), (1, .iload_n 1, 2, 0, [1]), (2, .iconst 2, 3, 2, []), (3, .aload_n 0, 4, 0, [0]), (4, .iload_n 1, 5, 0, [1]), (5, .iconst 2, 6, 2, []), (6, .invokevirtual 68, 9, 0, [6, 171, 3, 9]), (9, .iload_n 2, 10, 0, [2]), (10, .if_icmp .ge 7, 13, 0, [17]), (13, .iconst 1, 14, 1, []), (14, .goto 4, 17, 0, [18]), (17, .iconst 0, 18, 0, []), (18, .iload_n 2, 19, 0, [2]), (19, .invokevirtual 78, 22, 0, [6, 314, 5, 9]), (22, .return_, 23, 0, [])]
def md_X9_raises : MDT := (cl_X9_raises, 3, 0, [])
abbrev k_X9_raises : Nat := 294
def cl_X9_lowers : List Row := [(0, .aload_n 0, 1, 0, [0]), (1, .iload_n 1, 2, 0, [1]), (2, .iconst 3, 3, 3, []), (3, .aload_n 0, 4, 0, [0]), (4, .iload_n 1, 5, 0, [1]), (5, .iconst 3, 6, 3, []), (6, .invokevirtual 68, 9, 0, [6, 171, 3, 9]), (9, .iload_n 2, 10, 0, [2]), (10, .if_icmp .le 7, 13, 0, [17]), (13, .iconst 1, 14, 1, []), (14, .goto 4, 17, 0, [18]), (17, .iconst 0, 18, 0, []), (18, .iload_n 2, 19, 0, [2]), (19, .invokevirtual 78, 22, 0, [6, 314, 5, 9]), (22, .return_, 23, 0, [])]
def md_X9_lowers : MDT := (cl_X9_lowers, 3, 0, [])
abbrev k_X9_lowers : Nat := 295
def cl_X5_keepOff : List Row := [(0, .aload_n 1, 1, 0, [1]), (1, .getfield 61, 4, 0, [0, 0, 2]), (4, .iload_n 2, 5, 0, [2]), (5, .iaload, 6, 0, []), (6, .aload_n 1, 7, 0, [1]), (7, .getfield 68, 10, 0, [0, 1, 2]), (10, .iload_n 2, 11, 0, [2]), (11, .iaload, 12, 0, []), (12, .if_icmp .eq 4, 15, 0, [16]), (15, .return_, 16, 0, []), (16, .aload_n 1, 17, 0, [1]), (17, .getfield 61, 20, 0, [0, 0, 2]), (20, .iload_n 2, 21, 0, [2]), (21, .iaload, 22, 0, []), (22, .iload 4, 24, 0, [4]), (24, .isub, 25, 0, []), (25, .istore 5, 27, 0, [5]), (27, .aload_n 1, 28, 0, [1]), (28, .getfield 61, 31, 0, [0, 0, 2]), (31, .iload_n 2, 32, 0, [2]), (32, .iaload, 33, 0, []), (33, .iload 4, 35, 0, [4]), (35, .iadd, 36, 0, []), (36, .istore 6, 38, 0, [6]), (38, .aload_n 1, 39, 0, [1]), (39, .getfield 61, 42, 0, [0, 0, 2]), (42, .iload_n 3, 43, 0, [3]), (43, .iaload, 44, 0, []), (44, .iload 5, 46, 0, [5]), (46, .if_icmp .le 32, 49, 0, [78]), (49, .aload_n 1, 50, 0, [1]), (50, .getfield 61, 53, 0, [0, 0, 2]), (53, .iload_n 3, 54, 0, [3]), (54, .iaload, 55, 0, []), (55, .iload 6, 57, 0, [6]), (57, .if_icmp .ge 21, 60, 0, [78]), (60, .aload_n 1, 61, 0, [1]), (61, .getfield 61, 64, 0, [0, 0, 2]), (64, .iload_n 3, 65, 0, [3]), (65, .iload 6, 67, 0, [6]), (67, .iastore, 68, 0, []), (68, .aload_n 0, 69, 0, [0]), (69, .dup, 70, 0, []), (70, .getfield 15, 73, 0, [5, 1, 0]), (73, .iconst 1, 74, 1, []), (74, .iadd, 75, 0, []), (75, .putfield 15, 78, 0, [5, 1, 0]), (78, .aload_n 1, 79, 0, [1]), (79, .getfield 68, 82, 0, [0, 1, 2]), (82, .iload_n 3, 83, 0, [3]), (83, .iaload, 84, 0, []), (84, .iload 5, 86, 0, [5]), (86, .if_icmp .le 32, 89, 0, [118]), (89, .aload_n 1, 90, 0, [1]), (90, .getfield 68, 93, 0, [0, 1, 2]), (93, .iload_n 3, 94, 0, [3]), (94, .iaload, 95, 0, []), (95, .iload 6, 97, 0, [6]), (97, .if_icmp .ge 21, 100, 0, [118]), (100, .aload_n 1, 101, 0, [1]), (101, .getfield 68, 104, 0, [0, 1, 2]), (104, .iload_n 3, 105, 0, [3]), (105, .iload 5, 107, 0, [5]), (107, .iastore, 108, 0, []), (108, .aload_n 0, 109, 0, [0]), (109, .dup, 110, 0, []), (110, .getfield 15, 113, 0, [5, 1, 0]), (113, .iconst 1, 114, 1, []), (114, .iadd, 115, 0, []), (115, .putfield 15, 118, 0, [5, 1, 0]), (118, .return_, 119, 0, [])]
def md_X5_keepOff : MDT := (cl_X5_keepOff, 7, 0, [])
abbrev k_X5_keepOff : Nat := 296
def cl_X5_raiseLow : List Row := [(0, .aload_n 1, 1, 0, [1]), (1, .getfield 61, 4, 0, [0, 0, 2]), (4, .iload_n 2, 5, 0, [2]), (5, .iaload, 6, 0, []), (6, .iload_n 3, 7, 0, [3]), (7, .if_icmp .ge 20, 10, 0, [27]), (10, .aload_n 1, 11, 0, [1]), (11, .getfield 61, 14, 0, [0, 0, 2]), (14, .iload_n 2, 15, 0, [2]), (15, .iload_n 3, 16, 0, [3]), (16, .iastore, 17, 0, []), (17, .aload_n 0, 18, 0, [0]), (18, .dup, 19, 0, []), (19, .getfield 15, 22, 0, [5, 1, 0]), (22, .iconst 1, 23, 1, []), (23, .iadd, 24, 0, []), (24, .putfield 15, 27, 0, [5, 1, 0]), (27, .return_, 28, 0, [])]
def md_X5_raiseLow : MDT := (cl_X5_raiseLow, 4, 0, [])
abbrev k_X5_raiseLow : Nat := 297
def cl_X5_sinkHigh : List Row := [(0, .aload_n 1, 1, 0, [1]), (1, .getfield 68, 4, 0, [0, 1, 2]), (4, .iload_n 2, 5, 0, [2]), (5, .iaload, 6, 0, []), (6, .iload_n 3, 7, 0, [3]), (7, .if_icmp .le 20, 10, 0, [27]), (10, .aload_n 1, 11, 0, [1]), (11, .getfield 68, 14, 0, [0, 1, 2]), (14, .iload_n 2, 15, 0, [2]), (15, .iload_n 3, 16, 0, [3]), (16, .iastore, 17, 0, []), (17, .aload_n 0, 18, 0, [0]), (18, .dup, 19, 0, []), (19, .getfield 15, 22, 0, [5, 1, 0]), (22, .iconst 1, 23, 1, []), (23, .iadd, 24, 0, []), (24, .putfield 15, 27, 0, [5, 1, 0]), (27, .return_, 28, 0, [])]
def md_X5_sinkHigh : MDT := (cl_X5_sinkHigh, 4, 0, [])
abbrev k_X5_sinkHigh : Nat := 298
def cl_X9_goesWith : List Row := [(0, .lload_n 1, 1, 0, [1]), (1, .lconst 0, 2, 0, []), (2, .lcmp, 3, 0, []), (3, .ifCond .ne 5, 6, 0, [8]), (6, .lconst 0, 7, 0, []), (7, .lreturn, 8, 0, []), (8, .lload_n 1, 9, 0, [1]), (9, .invokestatic 205, 12, 0, [0, 178, 1]), (12, .istore 5, 14, 0, [5]), (14, .lload_n 1, 15, 0, [1]), (15, .invokestatic 209, 18, 0, [0, 315, 1]), (18, .istore 6, 20, 0, [6]), (20, .iload_n 0, 21, 0, [0]), (21, .bipush 35, 23, 35, []), (23, .if_icmp .ne 19, 26, 0, [42]), (26, .iload 5, 28, 0, [5]), (28, .iload_n 3, 29, 0, [3]), (29, .iadd, 30, 0, []), (30, .invokestatic 212, 33, 0, [0, 238, 1]), (33, .iload 6, 35, 0, [6]), (35, .iload_n 3, 36, 0, [3]), (36, .isub, 37, 0, []), (37, .invokestatic 216, 40, 0, [0, 239, 1]), (40, .lor, 41, 0, []), (41, .lreturn, 42, 0, []), (42, .iload_n 0, 43, 0, [0]), (43, .bipush 61, 45, 61, []), (45, .if_icmp .ne 22, 48, 0, [67]), (48, .iload 4, 50, 0, [4]), (50, .ifCond .eq 13, 53, 0, [63]), (53, .lload_n 1, 54, 0, [1]), (54, .iload_n 3, 55, 0, [3]), (55, .lshl, 56, 0, []), (56, .ldc2_w 201, 59, 0, [2199023255551]), (59, .land, 60, 0, []), (60, .goto 6, 63, 0, [66]), (63, .lload_n 1, 64, 0, [1]), (64, .iload_n 3, 65, 0, [3]), (65, .lshr, 66, 0, []), (66, .lreturn, 67, 0, []), (67, .iload 4, 69, 0, [4]), (69, .ifCond .eq 13, 72, 0, [82]), (72, .iload 5, 74, 0, [5]), (74, .iload_n 3, 75, 0, [3]), (75, .iadd, 76, 0, []), (76, .invokestatic 212, 79, 0, [0, 238, 1]), (79, .goto 10, 82, 0, [89]), (82, .iload 6, 84, 0, [6]), (84, .iload_n 3, 85, 0, [3]), (85, .isub, 86, 0, []), (86, .invokestatic 216, 89, 0, [0, 239, 1]), (89, .lreturn, 90, 0, [])]
def md_X9_goesWith : MDT := (cl_X9_goesWith, 7, 0, [])
abbrev k_X9_goesWith : Nat := 299
def cl_X2_isAhead : List Row := [(0, .aload_n 0, 1, 0, [0]), (1, .getfield 18, 4, 0, [2, 2, 2]), (4, .iload_n 1, 5, 0, [1]), (5, .invokevirtual 80, 8, 0, [6, 222, 2, 0]), (8, .aload_n 0, 9, 0, [0]), (9, .getfield 18, 12, 0, [2, 2, 2]), (12, .iload_n 2, 13, 0, [2]), (13, .invokevirtual 80, 16, 0, [6, 222, 2, 0]), (16, .isub, 17, 0, []), (17, .istore_n 3, 18, 0, [3]), (18, .iload_n 3, 19, 0, [3]), (19, .ifCond .eq 13, 22, 0, [32]), (22, .iload_n 3, 23, 0, [3]), (23, .ifCond .ge 7, 26, 0, [30]), (26, .iconst 1, 27, 1, []), (27, .goto 4, 30, 0, [31]), (30, .iconst 0, 31, 0, []), (31, .ireturn, 32, 0, []), (32, .aload_n 0, 33, 0, [0]), (33, .getfield 24, 36, 0, [2, 3, 2]), (36, .iload_n 1, 37, 0, [1]), (37, .invokevirtual 83, 40, 0, [6, 223, 2, 1]), (40, .aload_n 0, 41, 0, [0]), (41, .getfield 24, 44, 0, [2, 3, 2]), (44, .iload_n 2, 45, 0, [2]), (45, .invokevirtual 83, 48, 0, [6, 223, 2, 1]), (48, .isub, 49, 0, []), (49, .istore 4, 51, 0, [4]), (51, .iload 4, 53, 0, [4]), (53, .ifCond .gt 13, 56, 0, [66]), (56, .iload 4, 58, 0, [4]), (58, .ifCond .ne 12, 61, 0, [70]), (61, .iload_n 1, 62, 0, [1]), (62, .iload_n 2, 63, 0, [2]), (63, .if_icmp .ge 7, 66, 0, [70]), (66, .iconst 1, 67, 1, []), (67, .goto 4, 70, 0, [71]), (70, .iconst 0, 71, 0, []), (71, .ireturn, 72, 0, [])]
def md_X2_isAhead : MDT := (cl_X2_isAhead, 5, 5, [])
abbrev k_X2_isAhead : Nat := 300
def cl_X4_raise : List Row := [(0, .aload_n 0, 1, 0, [0]), (1, .getfield 9, 4, 0, [4, 0, 2]), (4, .iload_n 1, 5, 0, [1]), (5, .iaload, 6, 0, []), (6, .iload_n 2, 7, 0, [2]), (7, .if_icmp .lt 5, 10, 0, [12]), (10, .iconst 0, 11, 0, []), (11, .ireturn, 12, 0, []), (12, .aload_n 0, 13, 0, [0]), (13, .getfield 9, 16, 0, [4, 0, 2]), (16, .iload_n 1, 17, 0, [1]), (17, .iload_n 2, 18, 0, [2]), (18, .iastore, 19, 0, []), (19, .iconst 1, 20, 1, []), (20, .ireturn, 21, 0, [])]
def md_X4_raise : MDT := (cl_X4_raise, 3, 5, [])
abbrev k_X4_raise : Nat := 301
def cl_J5_ensureCapacityInternal_d00df : List Row := [(0, .aload_n 0, 1, 0, [0]), (1, .getfield 15, 4, 0, [10, 0, 2]), (4, .arraylength, 5, 0, []), (5, .aload_n 0, 6, 0, [0]), (6, .getfield 22, 9, 0, [10, 1, 4]), (9, .ishr, 10, 0, []), (10, .istore_n 2, 11, 0, [2]), (11, .iload_n 1, 12, 0, [1]), (12, .iload_n 2, 13, 0, [2]), (13, .isub, 14, 0, []), (14, .ifCond .le 24, 17, 0, [38]), (17, .aload_n 0, 18, 0, [0]), (18, .aload_n 0, 19, 0, [0]), (19, .getfield 15, 22, 0, [10, 0, 2]), (22, .aload_n 0, 23, 0, [0]), (23, .iload_n 1, 24, 0, [1]), (24, .invokevirtual 104, 27, 0, [6, 316, 2, 10]), (27, .aload_n 0, 28, 0, [0]), (28, .getfield 22, 31, 0, [10, 1, 4]), (31, .ishl, 32, 0, []), (32, .invokestatic 108, 35, 0, [0, 317, 2]), (35, .putfield 15, 38, 0, [10, 0, 2]), (38, .return_, 39, 0, [])]
def md_J5_ensureCapacityInternal_d00df : MDT := (cl_J5_ensureCapacityInternal_d00df, 3, 0, [])
abbrev k_J5_ensureCapacityInternal_d00df : Nat := 302
def cl_J5_isLatin1_aae02 : List Row := [(0, .getstatic 18, 3, 1, []), (3, .ifCond .eq 14, 6, 0, [17]), (6, .aload_n 0, 7, 0, [0]), (7, .getfield 22, 10, 0, [10, 1, 4]), (10, .ifCond .ne 7, 13, 0, [17]), (13, .iconst 1, 14, 1, []), (14, .goto 4, 17, 0, [18]), (17, .iconst 0, 18, 0, []), (18, .ireturn, 19, 0, [])]
def md_J5_isLatin1_aae02 : MDT := (cl_J5_isLatin1_aae02, 1, 5, [])
abbrev k_J5_isLatin1_aae02 : Nat := 303
def cl_J6_stringSize_0f7a4 : List Row := [(0, .iconst 1, 1, 1, []), (1, .istore_n 1, 2, 0, [1]), (2, .iload_n 0, 3, 0, [0]), (3, .ifCond .lt 8, 6, 0, [11]), (6, .iconst 0, 7, 0, []), (7, .istore_n 1, 8, 0, [1]), (8, .iload_n 0, 9, 0, [0]), (9, .ineg, 10, 0, []), (10, .istore_n 0, 11, 0, [0]), (11, .bipush (-10), 13, (-10), []), (13, .istore_n 2, 14, 0, [2]), (14, .iconst 1, 15, 1, []), (15, .istore_n 3, 16, 0, [3]), (16, .iload_n 3, 17, 0, [3]), (17, .bipush 10, 19, 10, []), (19, .if_icmp .ge 23, 22, 0, [42]), (22, .iload_n 0, 23, 0, [0]), (23, .iload_n 2, 24, 0, [2]), (24, .if_icmp .le 7, 27, 0, [31]), (27, .iload_n 3, 28, 0, [3]), (28, .iload_n 1, 29, 0, [1]), (29, .iadd, 30, 0, []), (30, .ireturn, 31, 0, []), (31, .bipush 10, 33, 10, []), (33, .iload_n 2, 34, 0, [2]), (34, .imul, 35, 0, []), (35, .istore_n 2, 36, 0, [2]), (36, .iinc 3 1, 39, 1, [3]), (39, .goto (-23), 42, 0, [16]), (42, .bipush 10, 44, 10, []), (44, .iload_n 1, 45, 0, [1]), (45, .iadd, 46, 0, []), (46, .ireturn, 47, 0, [])]
def md_J6_stringSize_0f7a4 : MDT := (cl_J6_stringSize_0f7a4, 4, 0, [])
abbrev k_J6_stringSize_0f7a4 : Nat := 304
def cl_J6_getChars_ba4f3 : List Row := [(0, .iload_n 1, 1, 0, [1]), (1, .istore 5, 3, 0, [5]), (3, .iload_n 0, 4, 0, [0]), (4, .ifCond .ge 7, 7, 0, [11]), (7, .iconst 1, 8, 1, []), (8, .goto 4, 11, 0, [12]), (11, .iconst 0, 12, 0, []), (12, .istore 6, 14, 0, [6]), (14, .iload 6, 16, 0, [6]), (16, .ifCond .ne 6, 19, 0, [22]), (19, .iload_n 0, 20, 0, [0]), (20, .ineg, 21, 0, []), (21, .istore_n 0, 22, 0, [0]), (22, .iload_n 0, 23, 0, [0]), (23, .bipush (-100), 25, (-100), []), (25, .if_icmp .gt 47, 28, 0, [72]), (28, .iload_n 0, 29, 0, [0]), (29, .bipush 100, 31, 100, []), (31, .idiv, 32, 0, []), (32, .istore_n 3, 33, 0, [3]), (33, .iload_n 3, 34, 0, [3]), (34, .bipush 100, 36, 100, []), (36, .imul, 37, 0, []), (37, .iload_n 0, 38, 0, [0]), (38, .isub, 39, 0, []), (39, .istore 4, 41, 0, [4]), (41, .iload_n 3, 42, 0, [3]), (42, .istore_n 0, 43, 0, [0]), (43, .aload_n 2, 44, 0, [2]), (44, .iinc 5 (-1), 47, (-1), [5]), (47, .iload 5, 49, 0, [5]), (49, .getstatic 83, 52, 0, [19]), (52, .iload 4, 54, 0, [4]), (54, .baload, 55, 0, []), (55, .bastore, 56, 0, []), (56, .aload_n 2, 57, 0, [2]), (57, .iinc 5 (-1), 60, (-1), [5]), (60, .iload 5, 62, 0, [5]), (62, .getstatic 87, 65, 0, [18]), (65, .iload 4, 67, 0, [4]), (67, .baload, 68, 0, []), (68, .bastore, 69, 0, []), (69, .goto (-47), 72, 0, [22]), (72, .aload_n 2, 73, 0, [2]), (73, .iinc 5 (-1), 76, (-1), [5]), (76, .iload 5, 78, 0, [5]), (78, .getstatic 83, 81, 0, [19]), (81, .iload_n 0, 82, 0, [0]), (82, .ineg, 83, 0, []), (83, .baload, 84, 0, []), (84, .bastore, 85, 0, []), (85, .iload_n 0, 86, 0, [0]), (86, .bipush (-9), 88, (-9), []), (88, .if_icmp .ge 16, 91, 0, [104]), (91, .aload_n 2, 92, 0, [2]), (92, .iinc 5 (-1), 95, (-1), [5]), (95, .iload 5, 97, 0, [5]), (97, .getstatic 87, 100, 0, [18]), (100, .iload_n 0, 101, 0, [0]), (101, .ineg, 102, 0, []), (102, .baload, 103, 0, []), (103, .bastore, 104, 0, []), (104, .iload 6, 106, 0, [6]), (106, .ifCond .eq 12, 109, 0, [118]), (109, .aload_n 2, 110, 0, [2]), (110, .iinc 5 (-1), 113, (-1), [5]), (113, .iload 5, 115, 0, [5]), (115, .bipush 45, 117, 45, []), (117, .bastore, 118, 0, []), (118, .iload 5, 120, 0, [5]), (120, .ireturn, 121, 0, [])]
def md_J6_getChars_ba4f3 : MDT := (cl_J6_getChars_ba4f3, 7, 0, [])
abbrev k_J6_getChars_ba4f3 : Nat := 305
def cl_J1_canEncode_fc78d : List Row := [(0, .iload_n 0, 1, 0, [0]), (1, .sipush 255, 4, 255, []), (4, .if_icmp .gt 7, 7, 0, [11]), (7, .iconst 1, 8, 1, []), (8, .goto 4, 11, 0, [12]), (11, .iconst 0, 12, 0, []), (12, .ireturn, 13, 0, [])]
def md_J1_canEncode_fc78d : MDT := (cl_J1_canEncode_fc78d, 1, 5, [])
abbrev k_J1_canEncode_fc78d : Nat := 306
def cl_J0_length_8abf5 : List Row := [(0, .aload_n 0, 1, 0, [0]), (1, .getfield 9, 4, 0, [11, 0, 2]), (4, .arraylength, 5, 0, []), (5, .aload_n 0, 6, 0, [0]), (6, .invokevirtual 335, 9, 0, [6, 318, 1, 11]), (9, .ishr, 10, 0, []), (10, .ireturn, 11, 0, [])]
def md_J0_length_8abf5 : MDT := (cl_J0_length_8abf5, 1, 0, [])
abbrev k_J0_length_8abf5 : Nat := 307
def cl_J5_putStringAt_47b60 : List Row := [(0, .aload_n 0, 1, 0, [0]), (1, .aload_n 2, 2, 0, [2]), (2, .invokevirtual 397, 5, 0, [6, 319, 2, 10]), (5, .aload_n 2, 6, 0, [2]), (6, .aload_n 0, 7, 0, [0]), (7, .getfield 15, 10, 0, [10, 0, 2]), (10, .iload_n 1, 11, 0, [1]), (11, .aload_n 0, 12, 0, [0]), (12, .getfield 22, 15, 0, [10, 1, 4]), (15, .invokevirtual 399, 18, 0, [6, 320, 4, 11]), (18, .return_, 19, 0, [])]
def md_J5_putStringAt_47b60 : MDT := (cl_J5_putStringAt_47b60, 3, 0, [])
abbrev k_J5_putStringAt_47b60 : Nat := 308
def cl_J0_checkIndex_df160 : List Row := [(0, .iload_n 0, 1, 0, [0]), (1, .iload_n 1, 2, 0, [1]), (5, .invokestatic 1059, 8, 0, [0, 321, 3]), (8, .pop, 9, 0, []), (9, .return_, 10, 0, [])]
def md_J0_checkIndex_df160 : MDT := (cl_J0_checkIndex_df160, 2, 0, [])
abbrev k_J0_checkIndex_df160 : Nat := 309
def cl_X7_signAt : List Row := [(0, .iload_n 1, 1, 0, [1]), (1, .aload_n 0, 2, 0, [0]), (2, .getfield 12, 5, 0, [7, 0, 2]), (5, .invokevirtual 39, 8, 0, [6, 252, 1, 10]), (8, .if_icmp .ge 14, 11, 0, [22]), (11, .aload_n 0, 12, 0, [0]), (12, .getfield 12, 15, 0, [7, 0, 2]), (15, .iload_n 1, 16, 0, [1]), (16, .invokevirtual 89, 19, 0, [6, 253, 2, 10]), (19, .goto 4, 22, 0, [23]), (22, .iconst 0, 23, 0, []), (23, .ireturn, 24, 0, [])]
def md_X7_signAt : MDT := (cl_X7_signAt, 2, 3, [])
abbrev k_X7_signAt : Nat := 310
def cl_X7_readForm : List Row := [(0, .aload_n 0, 1, 0, [0]), (1, .getfield 18, 4, 0, [7, 3, 2]), (4, .iload_n 1, 5, 0, [1]), (5, .iload_n 2, 6, 0, [2]), (6, .iastore, 7, 0, []), (7, .iconst 0, 8, 0, []), (8, .istore 4, 10, 0, [4]), (10, .iconst 0, 11, 0, []), (11, .istore 5, 13, 0, [5]), (13, .iload 5, 15, 0, [5]), (15, .aload_n 3, 16, 0, [3]), (16, .invokevirtual 74, 19, 0, [6, 307, 1, 11]), (19, .if_icmp .ge 117, 22, 0, [136]), (22, .aload_n 3, 23, 0, [3]), (23, .iload 5, 25, 0, [5]), (25, .invokevirtual 77, 28, 0, [6, 322, 2, 11]), (28, .istore 6, 30, 0, [6]), (30, .iload 6, 32, 0, [6]), (32, .bipush 68, 34, 68, []), (34, .if_icmp .eq 10, 37, 0, [44]), (37, .iload 6, 39, 0, [6]), (39, .bipush 78, 41, 78, []), (41, .if_icmp .ne 59, 44, 0, [100]), (44, .iload 4, 46, 0, [4]), (46, .iconst 3, 47, 3, []), (47, .if_icmp .ge 53, 50, 0, [100]), (50, .iload 6, 52, 0, [6]), (52, .bipush 68, 54, 68, []), (54, .if_icmp .ne 10, 57, 0, [64]), (57, .aload_n 0, 58, 0, [0]), (58, .invokevirtual 80, 61, 0, [6, 323, 1, 7]), (61, .goto 7, 64, 0, [68]), (64, .aload_n 0, 65, 0, [0]), (65, .invokevirtual 83, 68, 0, [6, 324, 1, 7]), (68, .istore 8, 70, 0, [8]), (70, .aload_n 0, 71, 0, [0]), (71, .getfield 28, 74, 0, [7, 5, 2]), (74, .iload_n 1, 75, 0, [1]), (75, .aaload, 76, 0, []), (76, .iload 4, 78, 0, [4]), (78, .iload 8, 80, 0, [8]), (80, .iastore, 81, 0, []), (81, .iinc 4 1, 84, 1, [4]), (84, .iload 8, 86, 0, [8]), (86, .iconst (-1), 87, (-1), []), (87, .if_icmp .eq 7, 90, 0, [94]), (90, .iconst 1, 91, 1, []), (91, .goto 4, 94, 0, [95]), (94, .iconst 0, 95, 0, []), (95, .istore 7, 97, 0, [7]), (97, .goto 26, 100, 0, [123]), (100, .iload 6, 102, 0, [6]), (102, .bipush 75, 104, 75, []), (104, .if_icmp .ne 11, 107, 0, [115]), (107, .aload_n 0, 108, 0, [0]), (108, .iload_n 1, 109, 0, [1]), (109, .invokevirtual 86, 112, 0, [6, 325, 2, 7]), (112, .goto 9, 115, 0, [121]), (115, .aload_n 0, 116, 0, [0]), (116, .iload 6, 118, 0, [6]), (118, .invokevirtual 46, 121, 0, [6, 287, 2, 7]), (121, .istore 7, 123, 0, [7]), (123, .iload 7, 125, 0, [7]), (125, .ifCond .ne 5, 128, 0, [130]), (128, .iconst 0, 129, 0, []), (129, .ireturn, 130, 0, []), (130, .iinc 5 1, 133, 1, [5]), (133, .goto (-120), 136, 0, [13]), (136, .iconst 1, 137, 1, []), (137, .ireturn, 138, 0, [])]
def md_X7_readForm : MDT := (cl_X7_readForm, 9, 5, [])
abbrev k_X7_readForm : Nat := 311
def cl_X9_number : List Row := [(0, .aload_n 0, 1, 0, [0]), (1, .getfield 270, 4, 0, [9, 18, 0]), (4, .ifCond .lt 5, 7, 0, [9]), (7, .iconst 0, 8, 0, []), (8, .ireturn, 9, 0, []), (9, .aload_n 0, 10, 0, [0]), (10, .invokevirtual 273, 13, 0, [6, 259, 1, 9]), (13, .bipush 48, 15, 48, []), (15, .bipush 57, 17, 57, []), (17, .invokestatic 60, 20, 0, [0, 150, 3]), (20, .ifCond .ne 13, 23, 0, [33]), (23, .aload_n 0, 24, 0, [0]), (24, .aload_n 0, 25, 0, [0]), (25, .getfield 267, 28, 0, [9, 17, 0]), (28, .putfield 270, 31, 0, [9, 18, 0]), (31, .iconst 0, 32, 0, []), (32, .ireturn, 33, 0, []), (33, .iconst 0, 34, 0, []), (34, .istore_n 2, 35, 0, [2]), (35, .iconst 0, 36, 0, []), (36, .istore_n 3, 37, 0, [3]), (37, .iload_n 3, 38, 0, [3]), (38, .iload_n 1, 39, 0, [1]), (39, .if_icmp .ge 46, 42, 0, [85]), (42, .aload_n 0, 43, 0, [0]), (43, .invokevirtual 273, 46, 0, [6, 259, 1, 9]), (46, .bipush 48, 48, 48, []), (48, .bipush 57, 50, 57, []), (50, .invokestatic 60, 53, 0, [0, 150, 3]), (53, .ifCond .eq 32, 56, 0, [85]), (56, .bipush 10, 58, 10, []), (58, .iload_n 2, 59, 0, [2]), (59, .imul, 60, 0, []), (60, .aload_n 0, 61, 0, [0]), (61, .invokevirtual 273, 64, 0, [6, 259, 1, 9]), (64, .iadd, 65, 0, []), (65, .bipush 48, 67, 48, []), (67, .isub, 68, 0, []), (68, .istore_n 2, 69, 0, [2]), (69, .aload_n 0, 70, 0, [0]), (70, .dup, 71, 0, []), (71, .getfield 267, 74, 0, [9, 17, 0]), (74, .iconst 1, 75, 1, []), (75, .iadd, 76, 0, []), (76, .putfield 267, 79, 0, [9, 17, 0]), (79, .iinc 3 1, 82, 1, [3]), (82, .goto (-45), 85, 0, [37]), (85, .iload_n 2, 86, 0, [2]), (86, .ireturn, 87, 0, [])]
def md_X9_number : MDT := (cl_X9_number, 4, 0, [])
abbrev k_X9_number : Nat := 312
def cl_X9_isFixedNow : List Row := [(0, .aload_n 0, 1, 0, [0]), (1, .iload_n 1, 2, 0, [1]), (2, .iconst 2, 3, 2, []), (3, .invokevirtual 68, 6, 0, [6, 171, 3, 9]), (6, .aload_n 0, 7, 0, [0]), (7, .iload_n 1, 8, 0, [1]), (8, .iconst 3, 9, 3, []), (9, .invokevirtual 68, 12, 0, [6, 171, 3, 9]), (12, .if_icmp .ne 7, 15, 0, [19]), (15, .iconst 1, 16, 1, []), (16, .goto 4, 19, 0, [20]), (19, .iconst 0, 20, 0, []), (20, .ireturn, 21, 0, [])]
def md_X9_isFixedNow : MDT := (cl_X9_isFixedNow, 2, 5, [])
abbrev k_X9_isFixedNow : Nat := 313
def cl_X9_becomes : List Row := [(0, .iload_n 3, 1, 0, [3]), (1, .ifCond .ne 4, 4, 0, [5]), (4, .return_, 5, 0, []), (5, .aload_n 0, 6, 0, [0]), (6, .iload_n 1, 7, 0, [1]), (7, .iload_n 2, 8, 0, [2]), (8, .iload 4, 10, 0, [4]), (10, .invokevirtual 71, 13, 0, [6, 214, 4, 9]), (13, .aload_n 0, 14, 0, [0]), (14, .dup, 15, 0, []), (15, .getfield 75, 18, 0, [9, 10, 0]), (18, .iconst 1, 19, 1, []), (19, .iadd, 20, 0, []), (20, .putfield 75, 23, 0, [9, 10, 0]), (23, .return_, 24, 0, [])]
def md_X9_becomes : MDT := (cl_X9_becomes, 5, 0, [])
abbrev k_X9_becomes : Nat := 314
def cl_X9_highest : List Row := [(0, .bipush 40, 2, 40, []), (2, .istore_n 2, 3, 0, [2]), (3, .lload_n 0, 4, 0, [0]), (4, .iload_n 2, 5, 0, [2]), (5, .lshr, 6, 0, []), (6, .lconst 1, 7, 0, []), (7, .land, 8, 0, []), (8, .lconst 0, 9, 0, []), (9, .lcmp, 10, 0, []), (10, .ifCond .ne 9, 13, 0, [19]), (13, .iinc 2 (-1), 16, (-1), [2]), (16, .goto (-13), 19, 0, [3]), (19, .iload_n 2, 20, 0, [2]), (20, .ireturn, 21, 0, [])]
def md_X9_highest : MDT := (cl_X9_highest, 3, 0, [])
abbrev k_X9_highest : Nat := 315
def cl_J5_newCapacity_0f7a4 : List Row := [(0, .aload_n 0, 1, 0, [0]), (1, .getfield 15, 4, 0, [10, 0, 2]), (4, .arraylength, 5, 0, []), (5, .istore_n 2, 6, 0, [2]), (6, .iload_n 1, 7, 0, [1]), (7, .aload_n 0, 8, 0, [0]), (8, .getfield 22, 11, 0, [10, 1, 4]), (11, .ishl, 12, 0, []), (12, .istore_n 3, 13, 0, [3]), (13, .iload_n 3, 14, 0, [3]), (14, .iload_n 2, 15, 0, [2]), (15, .isub, 16, 0, []), (16, .istore 4, 18, 0, [4]), (18, .iload_n 2, 19, 0, [2]), (19, .iload 4, 21, 0, [4]), (21, .iload_n 2, 22, 0, [2]), (22, .iconst 2, 23, 2, []), (23, .aload_n 0, 24, 0, [0]), (24, .getfield 22, 27, 0, [10, 1, 4]), (27, .ishl, 28, 0, []), (28, .iadd, 29, 0, []), (29, .invokestatic 114, 32, 0, [0, 326, 3]), (32, .istore 5, 34, 0, [5]), (34, .iload 5, 36, 0, [5]), (36, .ldc 39, 38, 2147483647, []), (38, .if_icmp .ne 13, 41, 0, [51]), (44, .dup, 45, 0, []), (50, .athrow, 51, 0, []), (51, .iload 5, 53, 0, [5]), (53, .aload_n 0, 54, 0, [0]), (54, .getfield 22, 57, 0, [10, 1, 4]), (57, .ishr, 58, 0, []), (58, .ireturn, 59, 0, [])]
def md_J5_newCapacity_0f7a4 : MDT := (cl_J5_newCapacity_0f7a4, 6, 0, [])
abbrev k_J5_newCapacity_0f7a4 : Nat := 316
def cl_J7_copyOf_9075b : List Row := [(0, .iload_n 1, 1, 0, [1]), (1, .aload_n 0, 2, 0, [0]), (2, .arraylength, 3, 0, []), (3, .if_icmp .ne 11, 6, 0, [14]), (6, .aload_n 0, 7, 0, [0]), (10, .checkcast 311, 13, 0, []), (13, .areturn, 14, 0, []), (14, .iload_n 1, 15, 0, [1]), (15, .newarray .byte, 17, 0, [4]), (17, .astore_n 2, 18, 0, [2]), (18, .aload_n 0, 19, 0, [0]), (19, .iconst 0, 20, 0, []), (20, .aload_n 2, 21, 0, [2]), (21, .iconst 0, 22, 0, []), (22, .aload_n 0, 23, 0, [0]), (23, .arraylength, 24, 0, []), (24, .iload_n 1, 25, 0, [1]), (25, .invokestatic 304, 28, 0, [4]), (28, .invokestatic 150, 31, 0, [2]), (31, .aload_n 2, 32, 0, [2]), (32, .areturn, 33, 0, [])]
def md_J7_copyOf_9075b : MDT := (cl_J7_copyOf_9075b, 3, 0, [])
abbrev k_J7_copyOf_9075b : Nat := 317
def cl_J0_coder_7d493 : List Row := [(0, .getstatic 38, 3, 1, []), (3, .ifCond .eq 10, 6, 0, [13]), (6, .aload_n 0, 7, 0, [0]), (7, .getfield 15, 10, 0, [11, 1, 4]), (10, .goto 4, 13, 0, [14]), (13, .iconst 1, 14, 1, []), (14, .ireturn, 15, 0, [])]
def md_J0_coder_7d493 : MDT := (cl_J0_coder_7d493, 1, 4, [])
abbrev k_J0_coder_7d493 : Nat := 318
def cl_J5_inflateIfNeededFor_a7421 : List Row := [(0, .getstatic 18, 3, 1, []), (3, .ifCond .eq 18, 6, 0, [21]), (6, .aload_n 0, 7, 0, [0]), (7, .getfield 22, 10, 0, [10, 1, 4]), (10, .aload_n 1, 11, 0, [1]), (11, .invokevirtual 40, 14, 0, [6, 318, 1, 11]), (14, .if_icmp .eq 7, 17, 0, [21]), (17, .aload_n 0, 18, 0, [0]), (21, .return_, 22, 0, [])]
def md_J5_inflateIfNeededFor_a7421 : MDT := (cl_J5_inflateIfNeededFor_a7421, 2, 0, [])
abbrev k_J5_inflateIfNeededFor_a7421 : Nat := 319
def cl_J0_getBytes_840e7 : List Row := [(0, .aload_n 0, 1, 0, [0]), (1, .invokevirtual 335, 4, 0, [6, 318, 1, 11]), (4, .iload_n 3, 5, 0, [3]), (5, .if_icmp .ne 23, 8, 0, [28]), (8, .aload_n 0, 9, 0, [0]), (9, .getfield 9, 12, 0, [11, 0, 2]), (12, .iconst 0, 13, 0, []), (13, .aload_n 1, 14, 0, [1]), (14, .iload_n 2, 15, 0, [2]), (15, .iload_n 3, 16, 0, [3]), (16, .ishl, 17, 0, []), (17, .aload_n 0, 18, 0, [0]), (18, .getfield 9, 21, 0, [11, 0, 2]), (21, .arraylength, 22, 0, []), (22, .invokestatic 212, 25, 0, [2]), (25, .goto 18, 28, 0, [43]), (28, .aload_n 0, 29, 0, [0]), (29, .getfield 9, 32, 0, [11, 0, 2]), (32, .iconst 0, 33, 0, []), (33, .aload_n 1, 34, 0, [1]), (34, .iload_n 2, 35, 0, [2]), (35, .aload_n 0, 36, 0, [0]), (36, .getfield 9, 39, 0, [11, 0, 2]), (39, .arraylength, 40, 0, []), (43, .return_, 44, 0, [])]
def md_J0_getBytes_840e7 : MDT := (cl_J0_getBytes_840e7, 4, 0, [])
abbrev k_J0_getBytes_840e7 : Nat := 320
def cl_J3_checkIndex_8e157 : List Row := [(0, .iload_n 0, 1, 0, [0]), (1, .ifCond .lt 8, 4, 0, [9]), (4, .iload_n 0, 5, 0, [0]), (5, .iload_n 1, 6, 0, [1]), (6, .if_icmp .lt 10, 9, 0, [16]), (9, .aload_n 2, 10, 0, [2]), (10, .iload_n 0, 11, 0, [0]), (11, .iload_n 1, 12, 0, [1]), (15, .athrow, 16, 0, []), (16, .iload_n 0, 17, 0, [0]), (17, .ireturn, 18, 0, [])]
def md_J3_checkIndex_8e157 : MDT := (cl_J3_checkIndex_8e157, 3, 0, [])
abbrev k_J3_checkIndex_8e157 : Nat := 321
def cl_J0_charAt_5068e : List Row := [(0, .aload_n 0, 1, 0, [0]), (1, .invokevirtual 492, 4, 0, [6, 327, 1, 11]), (4, .ifCond .eq 12, 7, 0, [16]), (7, .aload_n 0, 8, 0, [0]), (8, .getfield 9, 11, 0, [11, 0, 2]), (11, .iload_n 1, 12, 0, [1]), (12, .invokestatic 495, 15, 0, [0, 328, 2]), (15, .ireturn, 16, 0, []), (16, .aload_n 0, 17, 0, [0]), (17, .getfield 9, 20, 0, [11, 0, 2]), (20, .iload_n 1, 21, 0, [1]), (24, .ireturn, 25, 0, [])]
def md_J0_charAt_5068e : MDT := (cl_J0_charAt_5068e, 2, 3, [])
abbrev k_J0_charAt_5068e : Nat := 322
def cl_X7_readDigit : List Row := [(0, .aload_n 0, 1, 0, [0]), (1, .aload_n 0, 2, 0, [0]), (2, .getfield 31, 5, 0, [7, 1, 0]), (5, .invokevirtual 50, 8, 0, [6, 310, 2, 7]), (8, .istore_n 1, 9, 0, [1]), (9, .iload_n 1, 10, 0, [1]), (10, .bipush 48, 12, 48, []), (12, .if_icmp .lt 9, 15, 0, [21]), (15, .iload_n 1, 16, 0, [1]), (16, .bipush 57, 18, 57, []), (18, .if_icmp .le 5, 21, 0, [23]), (21, .iconst (-1), 22, (-1), []), (22, .ireturn, 23, 0, []), (23, .aload_n 0, 24, 0, [0]), (24, .dup, 25, 0, []), (25, .getfield 31, 28, 0, [7, 1, 0]), (28, .iconst 1, 29, 1, []), (29, .iadd, 30, 0, []), (30, .putfield 31, 33, 0, [7, 1, 0]), (33, .iload_n 1, 34, 0, [1]), (34, .bipush 48, 36, 48, []), (36, .isub, 37, 0, []), (37, .ireturn, 38, 0, [])]
def md_X7_readDigit : MDT := (cl_X7_readDigit, 2, 0, [])
abbrev k_X7_readDigit : Nat := 323
def cl_X7_readNumber : List Row := [(0, .aload_n 0, 1, 0, [0]), (1, .invokevirtual 80, 4, 0, [6, 323, 1, 7]), (4, .istore_n 1, 5, 0, [1]), (5, .iload_n 1, 6, 0, [1]), (6, .iconst (-1), 7, (-1), []), (7, .if_icmp .eq 10, 10, 0, [17]), (10, .aload_n 0, 11, 0, [0]), (11, .invokevirtual 80, 14, 0, [6, 323, 1, 7]), (14, .goto 4, 17, 0, [18]), (17, .iconst (-1), 18, (-1), []), (18, .istore_n 2, 19, 0, [2]), (19, .iload_n 2, 20, 0, [2]), (20, .iconst (-1), 21, (-1), []), (21, .if_icmp .eq 12, 24, 0, [33]), (24, .bipush 10, 26, 10, []), (26, .iload_n 1, 27, 0, [1]), (27, .imul, 28, 0, []), (28, .iload_n 2, 29, 0, [2]), (29, .iadd, 30, 0, []), (30, .goto 4, 33, 0, [34]), (33, .iload_n 1, 34, 0, [1]), (34, .ireturn, 35, 0, [])]
def md_X7_readNumber : MDT := (cl_X7_readNumber, 3, 0, [])
abbrev k_X7_readNumber : Nat := 324
def cl_X7_readKind : List Row := [(0, .aload_n 0, 1, 0, [0]), (1, .aload_n 0, 2, 0, [0]), (2, .getfield 31, 5, 0, [7, 1, 0]), (5, .invokevirtual 50, 8, 0, [6, 310, 2, 7]), (8, .istore_n 2, 9, 0, [2]), (9, .aload_n 0, 10, 0, [0]), (10, .getfield 22, 13, 0, [7, 4, 2]), (13, .iload_n 1, 14, 0, [1]), (14, .iload_n 2, 15, 0, [2]), (15, .castore, 16, 0, []), (16, .iload_n 2, 17, 0, [2]), (17, .bipush 60, 19, 60, []), (19, .if_icmp .eq 15, 22, 0, [34]), (22, .iload_n 2, 23, 0, [2]), (23, .bipush 61, 25, 61, []), (25, .if_icmp .eq 9, 28, 0, [34]), (28, .iload_n 2, 29, 0, [2]), (29, .bipush 35, 31, 35, []), (31, .if_icmp .ne 15, 34, 0, [46]), (34, .aload_n 0, 35, 0, [0]), (35, .iload_n 2, 36, 0, [2]), (36, .invokevirtual 46, 39, 0, [6, 287, 2, 7]), (39, .ifCond .eq 7, 42, 0, [46]), (42, .iconst 1, 43, 1, []), (43, .goto 4, 46, 0, [47]), (46, .iconst 0, 47, 0, []), (47, .ireturn, 48, 0, [])]
def md_X7_readKind : MDT := (cl_X7_readKind, 3, 5, [])
abbrev k_X7_readKind : Nat := 325
def cl_J8_newLength_cabcc : List Row := [(0, .iload_n 0, 1, 0, [0]), (1, .iload_n 1, 2, 0, [1]), (2, .iload_n 2, 3, 0, [2]), (3, .invokestatic 194, 6, 0, [3]), (6, .iadd, 7, 0, []), (7, .istore_n 3, 8, 0, [3]), (8, .iconst 0, 9, 0, []), (9, .iload_n 3, 10, 0, [3]), (10, .if_icmp .ge 11, 13, 0, [21]), (13, .iload_n 3, 14, 0, [3]), (14, .ldc 200, 16, 2147483639, []), (16, .if_icmp .gt 5, 19, 0, [21]), (19, .iload_n 3, 20, 0, [3]), (20, .ireturn, 21, 0, []), (21, .iload_n 0, 22, 0, [0]), (22, .iload_n 1, 23, 0, [1]), (26, .ireturn, 27, 0, [])]
def md_J8_newLength_cabcc : MDT := (cl_J8_newLength_cabcc, 4, 0, [])
abbrev k_J8_newLength_cabcc : Nat := 326
def cl_J0_isLatin1_aae02 : List Row := [(0, .getstatic 38, 3, 1, []), (3, .ifCond .eq 14, 6, 0, [17]), (6, .aload_n 0, 7, 0, [0]), (7, .getfield 15, 10, 0, [11, 1, 4]), (10, .ifCond .ne 7, 13, 0, [17]), (13, .iconst 1, 14, 1, []), (14, .goto 4, 17, 0, [18]), (17, .iconst 0, 18, 0, []), (18, .ireturn, 19, 0, [])]
def md_J0_isLatin1_aae02 : MDT := (cl_J0_isLatin1_aae02, 1, 5, [])
abbrev k_J0_isLatin1_aae02 : Nat := 327
def cl_J1_charAt_3b067 : List Row := [(0, .iload_n 1, 1, 0, [1]), (1, .aload_n 0, 2, 0, [0]), (2, .arraylength, 3, 0, []), (3, .invokestatic 9, 6, 0, [0, 309, 2]), (6, .aload_n 0, 7, 0, [0]), (7, .iload_n 1, 8, 0, [1]), (8, .baload, 9, 0, []), (9, .sipush 255, 12, 255, []), (12, .iand, 13, 0, []), (13, .i2c, 14, 0, []), (14, .ireturn, 15, 0, [])]
def md_J1_charAt_3b067 : MDT := (cl_J1_charAt_3b067, 2, 3, [])
abbrev k_J1_charAt_3b067 : Nat := 328
def md (k : Nat) : MDT := (cond (Nat.blt k 164) (cond (Nat.blt k 82) (cond (Nat.blt k 41) (cond (Nat.blt k 20) (cond (Nat.blt k 10) (cond (Nat.blt k 5) (cond (Nat.blt k 2) (cond (Nat.blt k 1) md_L_law md_X8_init) (cond (Nat.blt k 3) md_X9_init (cond (Nat.blt k 4) md_L_addDoor md_X9_addDoor))) (cond (Nat.blt k 7) (cond (Nat.blt k 6) md_X9_thrown md_L_setFrame) (cond (Nat.blt k 8) md_X9_setFrame (cond (Nat.blt k 9) md_L_narrow md_X9_narrow)))) (cond (Nat.blt k 15) (cond (Nat.blt k 12) (cond (Nat.blt k 11) md_X8_reset md_X9_reset) (cond (Nat.blt k 13) md_X8_doorCount (cond (Nat.blt k 14) md_X9_doorCount md_L_lowOf))) (cond (Nat.blt k 17) (cond (Nat.blt k 16) md_X9_lowOf md_L_highOf) (cond (Nat.blt k 18) md_X9_highOf (cond (Nat.blt k 19) md_L_frameLow md_X9_frameLow))))) (cond (Nat.blt k 30) (cond (Nat.blt k 25) (cond (Nat.blt k 22) (cond (Nat.blt k 21) md_L_frameHigh md_X9_frameHigh) (cond (Nat.blt k 23) md_L_widthOf (cond (Nat.blt k 24) md_X9_widthOf md_L_isFixed))) (cond (Nat.blt k 27) (cond (Nat.blt k 26) md_X9_isFixed md_L_constraintsOf) (cond (Nat.blt k 28) md_X9_constraintsOf (cond (Nat.blt k 29) md_L_addConstraint md_X9_addConstraint)))) (cond (Nat.blt k 35) (cond (Nat.blt k 32) (cond (Nat.blt k 31) md_L_removeConstraint md_X9_removeConstraint) (cond (Nat.blt k 33) md_X8_constraintCount (cond (Nat.blt k 34) md_X9_constraintCount md_L_constraintAt))) (cond (Nat.blt k 38) (cond (Nat.blt k 36) md_X9_constraintAt (cond (Nat.blt k 37) md_L_kindOf md_X9_kindOf)) (cond (Nat.blt k 39) md_L_firstOf (cond (Nat.blt k 40) md_X9_firstOf md_L_secondOf)))))) (cond (Nat.blt k 61) (cond (Nat.blt k 51) (cond (Nat.blt k 46) (cond (Nat.blt k 43) (cond (Nat.blt k 42) md_X9_secondOf md_L_gapOf) (cond (Nat.blt k 44) md_X9_gapOf (cond (Nat.blt k 45) md_L_isSafe md_X9_isSafe))) (cond (Nat.blt k 48) (cond (Nat.blt k 47) md_L_isBroken md_X9_isBroken) (cond (Nat.blt k 49) md_L_pass (cond (Nat.blt k 50) md_X9_pass md_L_settle)))) (cond (Nat.blt k 56) (cond (Nat.blt k 53) (cond (Nat.blt k 52) md_X9_settle md_X8_isSettled) (cond (Nat.blt k 54) md_X9_isSettled (cond (Nat.blt k 55) md_L_wouldChange md_X9_wouldChange))) (cond (Nat.blt k 58) (cond (Nat.blt k 57) md_L_lowestHeight md_X9_lowestHeight) (cond (Nat.blt k 59) md_L_lowestHeightByPaths (cond (Nat.blt k 60) md_X9_lowestHeightByPaths md_X8_passCount))))) (cond (Nat.blt k 71) (cond (Nat.blt k 66) (cond (Nat.blt k 63) (cond (Nat.blt k 62) md_X9_passCount md_X8_changeCount) (cond (Nat.blt k 64) md_X9_changeCount (cond (Nat.blt k 65) md_X8_hasPeace md_X9_hasPeace))) (cond (Nat.blt k 68) (cond (Nat.blt k 67) md_L_peaceHeight md_X9_peaceHeight) (cond (Nat.blt k 69) md_L_peaceSum (cond (Nat.blt k 70) md_X9_peaceSum md_L_arePossible)))) (cond (Nat.blt k 76) (cond (Nat.blt k 73) (cond (Nat.blt k 72) md_X9_arePossible md_L_doorByWidth) (cond (Nat.blt k 74) md_X9_doorByWidth (cond (Nat.blt k 75) md_L_constraintByGap md_X9_constraintByGap))) (cond (Nat.blt k 79) (cond (Nat.blt k 77) md_X8_fixedCount (cond (Nat.blt k 78) md_X9_fixedCount md_X8_totalWidth)) (cond (Nat.blt k 80) md_X9_totalWidth (cond (Nat.blt k 81) md_X8_totalFrameWidth md_X9_totalFrameWidth))))))) (cond (Nat.blt k 123) (cond (Nat.blt k 102) (cond (Nat.blt k 92) (cond (Nat.blt k 87) (cond (Nat.blt k 84) (cond (Nat.blt k 83) md_L_meanWidth md_X9_meanWidth) (cond (Nat.blt k 85) md_L_fixedShare (cond (Nat.blt k 86) md_X9_fixedShare md_X8_isConsistent))) (cond (Nat.blt k 89) (cond (Nat.blt k 88) md_X9_isConsistent md_L_writeDoor) (cond (Nat.blt k 90) md_X9_writeDoor (cond (Nat.blt k 91) md_L_writeConstraint md_X9_writeConstraint)))) (cond (Nat.blt k 97) (cond (Nat.blt k 94) (cond (Nat.blt k 93) md_L_outputAt md_X9_outputAt) (cond (Nat.blt k 95) md_L_appendInput (cond (Nat.blt k 96) md_X9_appendInput md_L_execute))) (cond (Nat.blt k 99) (cond (Nat.blt k 98) md_X9_execute md_L_syntaxErrorOffset) (cond (Nat.blt k 100) md_X9_syntaxErrorOffset (cond (Nat.blt k 101) md_L_rejectionReason md_X9_rejectionReason))))) (cond (Nat.blt k 112) (cond (Nat.blt k 107) (cond (Nat.blt k 104) (cond (Nat.blt k 103) md_L_rejectionDetail md_X9_rejectionDetail) (cond (Nat.blt k 105) md_L_causeReason (cond (Nat.blt k 106) md_X9_causeReason md_L_undo))) (cond (Nat.blt k 109) (cond (Nat.blt k 108) md_X9_undo md_X8_saveSnapshot) (cond (Nat.blt k 110) md_X9_saveSnapshot (cond (Nat.blt k 111) md_L_restoreSnapshot md_X9_restoreSnapshot)))) (cond (Nat.blt k 117) (cond (Nat.blt k 114) (cond (Nat.blt k 113) md_X2_init md_X3_init) (cond (Nat.blt k 115) md_X0_init (cond (Nat.blt k 116) md_X5_init md_X4_init))) (cond (Nat.blt k 120) (cond (Nat.blt k 118) md_X6_init (cond (Nat.blt k 119) md_J4_init_da8c8 md_X7_init)) (cond (Nat.blt k 121) md_X8_addDoor (cond (Nat.blt k 122) md_X9_begins md_X9_adds)))))) (cond (Nat.blt k 143) (cond (Nat.blt k 133) (cond (Nat.blt k 128) (cond (Nat.blt k 125) (cond (Nat.blt k 124) md_X9_ends md_X8_setFrame) (cond (Nat.blt k 126) md_X9_frames (cond (Nat.blt k 127) md_X8_narrow md_X9_narrowed))) (cond (Nat.blt k 130) (cond (Nat.blt k 129) md_X3_prepare md_X2_openAll) (cond (Nat.blt k 131) md_X3_keep (cond (Nat.blt k 132) md_X9_resetsAll md_X9_told)))) (cond (Nat.blt k 138) (cond (Nat.blt k 135) (cond (Nat.blt k 134) md_X8_lowOf md_X9_ofDoor) (cond (Nat.blt k 136) md_X8_highOf (cond (Nat.blt k 137) md_X8_frameLow md_X8_frameHigh))) (cond (Nat.blt k 140) (cond (Nat.blt k 139) md_X8_widthOf md_X9_isDoor) (cond (Nat.blt k 141) md_X9_isFine (cond (Nat.blt k 142) md_X9_width md_X8_isFixed))))) (cond (Nat.blt k 153) (cond (Nat.blt k 148) (cond (Nat.blt k 145) (cond (Nat.blt k 144) md_X8_constraintsOf md_X9_takesPart) (cond (Nat.blt k 146) md_X8_addConstraint (cond (Nat.blt k 147) md_X9_binds md_X8_removeConstraint))) (cond (Nat.blt k 150) (cond (Nat.blt k 149) md_X9_drops md_X8_constraintAt) (cond (Nat.blt k 151) md_X9_in (cond (Nat.blt k 152) md_X9_c md_X8_kindOf)))) (cond (Nat.blt k 158) (cond (Nat.blt k 155) (cond (Nat.blt k 154) md_X9_ofRule md_X8_firstOf) (cond (Nat.blt k 156) md_X8_secondOf (cond (Nat.blt k 157) md_X8_gapOf md_X8_isSafe))) (cond (Nat.blt k 161) (cond (Nat.blt k 159) md_X9_rule (cond (Nat.blt k 160) md_X9_pairs md_X8_isBroken)) (cond (Nat.blt k 162) md_X8_pass (cond (Nat.blt k 163) md_X9_passes md_X8_settle)))))))) (cond (Nat.blt k 246) (cond (Nat.blt k 205) (cond (Nat.blt k 184) (cond (Nat.blt k 174) (cond (Nat.blt k 169) (cond (Nat.blt k 166) (cond (Nat.blt k 165) md_X9_settlesAll md_X8_changesOfTrialPass) (cond (Nat.blt k 167) md_X9_would (cond (Nat.blt k 168) md_X8_wouldChange md_X8_lowestHeight))) (cond (Nat.blt k 171) (cond (Nat.blt k 170) md_X9_copies md_X9_settles) (cond (Nat.blt k 172) md_X9_d (cond (Nat.blt k 173) md_X8_lowestHeightByPaths md_X6_find)))) (cond (Nat.blt k 179) (cond (Nat.blt k 176) (cond (Nat.blt k 175) md_X9_opens md_X9_isSolvableWith) (cond (Nat.blt k 177) md_X8_peaceHeight (cond (Nat.blt k 178) md_X9_makesPeace md_X9_lowest))) (cond (Nat.blt k 181) (cond (Nat.blt k 180) md_X8_peaceSum md_X8_arePossible) (cond (Nat.blt k 182) md_X8_doorByWidth (cond (Nat.blt k 183) md_X9_isNarrower md_X8_constraintByGap))))) (cond (Nat.blt k 194) (cond (Nat.blt k 189) (cond (Nat.blt k 186) (cond (Nat.blt k 185) md_X0_isOneHeight md_X0_sumOfWidths) (cond (Nat.blt k 187) md_X8_meanWidth (cond (Nat.blt k 188) md_X8_fixedShare md_X8_settleTrialWithoutApart))) (cond (Nat.blt k 191) (cond (Nat.blt k 190) md_X4_climb md_X2_isInOrder) (cond (Nat.blt k 192) md_X8_writeDoor (cond (Nat.blt k 193) md_X9_writesNumber md_X9_writes)))) (cond (Nat.blt k 199) (cond (Nat.blt k 196) (cond (Nat.blt k 195) md_X8_writeConstraint md_X8_outputAt) (cond (Nat.blt k 197) md_X8_appendInput (cond (Nat.blt k 198) md_X8_execute md_X9_parse))) (cond (Nat.blt k 202) (cond (Nat.blt k 200) md_X9_does (cond (Nat.blt k 201) md_X9_kept md_X8_syntaxErrorOffset)) (cond (Nat.blt k 203) md_X8_rejectionReason (cond (Nat.blt k 204) md_X8_rejectionDetail md_X8_causeReason)))))) (cond (Nat.blt k 225) (cond (Nat.blt k 215) (cond (Nat.blt k 210) (cond (Nat.blt k 207) (cond (Nat.blt k 206) md_X8_undo md_X2_copyFrom) (cond (Nat.blt k 208) md_X8_restoreSnapshot (cond (Nat.blt k 209) md_X1_init md_J5_init_d00df))) (cond (Nat.blt k 212) (cond (Nat.blt k 211) md_X8_checkRange md_X8_enterDoor) (cond (Nat.blt k 213) md_X9_isRange (cond (Nat.blt k 214) md_X9_rejects md_X9_set)))) (cond (Nat.blt k 220) (cond (Nat.blt k 217) (cond (Nat.blt k 216) md_X8_checkDoor md_X8_changeFrame) (cond (Nat.blt k 218) md_X9_resets (cond (Nat.blt k 219) md_X9_unlike md_X8_narrowDoor))) (cond (Nat.blt k 222) (cond (Nat.blt k 221) md_X2_differencesToFrame md_X0_copyFrom) (cond (Nat.blt k 223) md_X0_width (cond (Nat.blt k 224) md_X1_countWith md_X8_isConstraint))))) (cond (Nat.blt k 235) (cond (Nat.blt k 230) (cond (Nat.blt k 227) (cond (Nat.blt k 226) md_X8_enterConstraint md_X9_isKind) (cond (Nat.blt k 228) md_X8_checkedPosition (cond (Nat.blt k 229) md_X8_takeConstraintAway md_X2_isAlwaysMet))) (cond (Nat.blt k 232) (cond (Nat.blt k 231) md_X9_holds md_X2_isNeverMet) (cond (Nat.blt k 233) md_X8_passOnce (cond (Nat.blt k 234) md_X9_goesThrough md_X8_passUntilSettled)))) (cond (Nat.blt k 240) (cond (Nat.blt k 237) (cond (Nat.blt k 236) md_X5_begin md_X5_makePass) (cond (Nat.blt k 238) md_X6_chooseSides (cond (Nat.blt k 239) md_X9_from md_X9_till))) (cond (Nat.blt k 243) (cond (Nat.blt k 241) md_X9_isSolvable (cond (Nat.blt k 242) md_X8_isHeight md_X0_fix)) (cond (Nat.blt k 244) md_X2_doorAtRank (cond (Nat.blt k 245) md_X1_positionAtRank md_X5_makePassesToTheEnd))))))) (cond (Nat.blt k 287) (cond (Nat.blt k 266) (cond (Nat.blt k 256) (cond (Nat.blt k 251) (cond (Nat.blt k 248) (cond (Nat.blt k 247) md_X4_climbOnce md_X0_isEmpty) (cond (Nat.blt k 249) md_J4_setLength_d00df (cond (Nat.blt k 250) md_J4_append_bf812 md_J4_append_cf468))) (cond (Nat.blt k 253) (cond (Nat.blt k 252) md_J4_append_15ec4 md_J4_length_8abf5) (cond (Nat.blt k 254) md_J4_charAt_5068e (cond (Nat.blt k 255) md_X7_read md_X8_runCommand)))) (cond (Nat.blt k 261) (cond (Nat.blt k 258) (cond (Nat.blt k 257) md_X3_bringBackPrepared md_X8_reject) (cond (Nat.blt k 259) md_X9_command (cond (Nat.blt k 260) md_X9_sign md_X3_bringBackLatest))) (cond (Nat.blt k 263) (cond (Nat.blt k 262) md_X1_copyFrom md_X8_isRange) (cond (Nat.blt k 264) md_X0_put (cond (Nat.blt k 265) md_X2_hasDoor md_X1_positionOfSame))))) (cond (Nat.blt k 276) (cond (Nat.blt k 271) (cond (Nat.blt k 268) (cond (Nat.blt k 267) md_X1_append md_X1_positionOf) (cond (Nat.blt k 269) md_X1_takeOut (cond (Nat.blt k 270) md_X8_takeOverTrial md_X9_narrows))) (cond (Nat.blt k 273) (cond (Nat.blt k 272) md_X9_isTorn md_X5_takeSteps) (cond (Nat.blt k 274) md_X6_isBetter (cond (Nat.blt k 275) md_X6_tooNear md_X9_isOpen)))) (cond (Nat.blt k 281) (cond (Nat.blt k 278) (cond (Nat.blt k 277) md_X9_size md_X2_rankOf) (cond (Nat.blt k 279) md_X1_rankOf (cond (Nat.blt k 280) md_X4_climbAlong md_J5_setLength_d00df))) (cond (Nat.blt k 284) (cond (Nat.blt k 282) md_J5_append_c97b9 (cond (Nat.blt k 283) md_J5_append_3fe6f md_J5_append_cf1ce)) (cond (Nat.blt k 285) md_J5_length_8abf5 (cond (Nat.blt k 286) md_J5_charAt_5068e md_X7_readCommand)))))) (cond (Nat.blt k 308) (cond (Nat.blt k 297) (cond (Nat.blt k 292) (cond (Nat.blt k 289) (cond (Nat.blt k 288) md_X7_readSign md_X9_binding) (cond (Nat.blt k 290) md_X9_letters (cond (Nat.blt k 291) md_X9_needs md_X9_behind))) (cond (Nat.blt k 294) (cond (Nat.blt k 293) md_X9_range md_X9_parts) (cond (Nat.blt k 295) md_X9_raises (cond (Nat.blt k 296) md_X9_lowers md_X5_keepOff)))) (cond (Nat.blt k 302) (cond (Nat.blt k 299) (cond (Nat.blt k 298) md_X5_raiseLow md_X5_sinkHigh) (cond (Nat.blt k 300) md_X9_goesWith (cond (Nat.blt k 301) md_X2_isAhead md_X4_raise))) (cond (Nat.blt k 305) (cond (Nat.blt k 303) md_J5_ensureCapacityInternal_d00df (cond (Nat.blt k 304) md_J5_isLatin1_aae02 md_J6_stringSize_0f7a4)) (cond (Nat.blt k 306) md_J6_getChars_ba4f3 (cond (Nat.blt k 307) md_J1_canEncode_fc78d md_J0_length_8abf5))))) (cond (Nat.blt k 318) (cond (Nat.blt k 313) (cond (Nat.blt k 310) (cond (Nat.blt k 309) md_J5_putStringAt_47b60 md_J0_checkIndex_df160) (cond (Nat.blt k 311) md_X7_signAt (cond (Nat.blt k 312) md_X7_readForm md_X9_number))) (cond (Nat.blt k 315) (cond (Nat.blt k 314) md_X9_isFixedNow md_X9_becomes) (cond (Nat.blt k 316) md_X9_highest (cond (Nat.blt k 317) md_J5_newCapacity_0f7a4 md_J7_copyOf_9075b)))) (cond (Nat.blt k 323) (cond (Nat.blt k 320) (cond (Nat.blt k 319) md_J0_coder_7d493 md_J5_inflateIfNeededFor_a7421) (cond (Nat.blt k 321) md_J0_getBytes_840e7 (cond (Nat.blt k 322) md_J3_checkIndex_8e157 md_J0_charAt_5068e))) (cond (Nat.blt k 326) (cond (Nat.blt k 324) md_X7_readDigit (cond (Nat.blt k 325) md_X7_readNumber md_X7_readKind)) (cond (Nat.blt k 327) md_J8_newLength_cabcc (cond (Nat.blt k 328) md_J0_isLatin1_aae02 md_J1_charAt_3b067)))))))))
abbrev Sp : Nat → SpecT := SpecF md
theorem Sp_intro {d k : Nat} {as : List Value} {A : HP} {Post : Out → HP → Prop} (M : MDT) (hM : md k = M) (h : ∀ G : Nat → LV → List Value → HP → Prop, (∀ pc L st A, stepP (Sp d) M Post pc L st A G → G pc L st A) → G 0 (entL M.2.1 as) [] A) : Sp (d + 1) k as A Post := by
  subst hM
  exact h
end
section
set_option maxHeartbeats 4000000 in
theorem t_X0_width (d : Nat) (h lo hi : Nat) (x : Int32) (A : HP) (Post : Out → HP → Prop) (h1 : hK A h = (10, 0)) (h2 : hR A h 0 = some lo) (h3 : hR A h 1 = some hi) (h4 : hK A lo = (1, 6)) (h5 : hK A hi = (1, 6)) (hx : vp_in x 6)
    (hp : Post (.inl (some (.int (hI A hi x.toNatClampNeg - hI A lo x.toNatClampNeg + 1)))) A) : Sp (d + 1) k_X0_width [.ref h, .int x] A Post := by
  refine Sp_intro md_X0_width rfl (fun G hG => ?_)
  refine hG _ _ _ _ ?_
  refine hG _ _ _ _ (And.intro h1 (Exists.intro hi (And.intro h3 ?_)))
  refine hG _ _ _ _ ?_
  refine hG _ _ _ _ (Exists.intro 6 (And.intro h5 (And.intro hx ?_)))
  refine hG _ _ _ _ ?_
  refine hG _ _ _ _ (And.intro h1 (Exists.intro lo (And.intro h2 ?_)))
  refine hG _ _ _ _ ?_
  refine hG _ _ _ _ (Exists.intro 6 (And.intro h4 (And.intro hx ?_)))
  refine hG _ _ _ _ ?_
  refine hG _ _ _ _ ?_
  refine hG _ _ _ _ ?_
  exact hG _ _ _ _ (And.intro trivial hp)
end
section
/-! the small machine's heap on the machine's: addresses, values, cells, a whole heap -/
def adr (B : Nat) (CS : Nat → Nat) (a : Nat) : Nat := if a < BIG then B + a else CS (a - BIG)
def lvA (B : Nat) (CS : Nat → Nat) : Value → Value
  | .ref a => .ref (adr B CS a)
  | v => v
def vR (B : Nat) (CS : Nat → Nat) (v mv : Value) : Prop := match v with
  | .retAddr _ => ∃ q, mv = .ref q
  | v => mv = lvA B CS v
def stR (B : Nat) (CS : Nat → Nat) : List Value → List Value → Prop
  | [], ms => ms = []
  | v :: l, ms => ∃ mv r, ms = mv :: r ∧ vR B CS v mv ∧ stR B CS l r
theorem vR.cat {B : Nat} {CS : Nat → Nat} {v mv : Value} (h : vR B CS v mv) : mv.category = v.category := by
  cases v with
  | retAddr p => obtain ⟨q, rfl⟩ := h; rfl
  | ref a => rw [show mv = .ref (adr B CS a) from h]; rfl
  | int x => rw [show mv = .int x from h]
  | long x => rw [show mv = .long x from h]
  | float x => rw [show mv = .float x from h]
  | double x => rw [show mv = .double x from h]
  | null => rw [show mv = .null from h]
theorem vR.of {B : Nat} {CS : Nat → Nat} (v : Value) (h : ∀ p, v ≠ .retAddr p) : vR B CS v (lvA B CS v) := by
  cases v with
  | retAddr p => exact absurd rfl (h p)
  | _ => rfl
theorem stR.cats {B : Nat} {CS : Nat → Nat} : ∀ {st ms : List Value}, stR B CS st ms → ms.map (fun v => v.category) = st.map (fun v => v.category)
  | [], ms, h => by rw [show ms = [] from h]
  | v :: l, ms, h => by
    obtain ⟨mv, r, rfl, h1, h2⟩ := h
    simp only [List.map_cons, h1.cat, stR.cats h2]
theorem stR.cons {B : Nat} {CS : Nat → Nat} {v mv : Value} {st ms : List Value} (h1 : vR B CS v mv) (h2 : stR B CS st ms) : stR B CS (v :: st) (mv :: ms) := ⟨mv, ms, rfl, h1, h2⟩
-- fields: classes whose objects the small machine knows
def F_0 : u_T := fun k => match k with
  | 0 => ("LintelBrothers$Bounds", "low", "[I", true)
  | _ => ("LintelBrothers$Bounds", "high", "[I", true)
def Fy_0 : Nat → FieldType := fun k => match k with
  | 0 => .array .int
  | _ => .array .int
def F_1 : u_T := fun k => match k with
  | 0 => ("LintelBrothers$Constraints", "count", "I", false)
  | 1 => ("LintelBrothers$Constraints", "nextId", "I", false)
  | 2 => ("LintelBrothers$Constraints", "id", "[I", true)
  | 3 => ("LintelBrothers$Constraints", "kind", "[C", true)
  | 4 => ("LintelBrothers$Constraints", "first", "[I", true)
  | 5 => ("LintelBrothers$Constraints", "second", "[I", true)
  | _ => ("LintelBrothers$Constraints", "gap", "[I", true)
def Fy_1 : Nat → FieldType := fun k => match k with
  | 0 => .int
  | 1 => .int
  | 2 => .array .int
  | 3 => .array .char
  | 4 => .array .int
  | 5 => .array .int
  | _ => .array .int
def F_2 : u_T := fun k => match k with
  | 0 => ("LintelBrothers$Data", "doors", "I", false)
  | 1 => ("LintelBrothers$Data", "frame", "LLintelBrothers$Bounds;", true)
  | 2 => ("LintelBrothers$Data", "bounds", "LLintelBrothers$Bounds;", true)
  | 3 => ("LintelBrothers$Data", "constraints", "LLintelBrothers$Constraints;", true)
  | 4 => ("LintelBrothers$Data", "passes", "I", false)
  | _ => ("LintelBrothers$Data", "changes", "I", false)
def Fy_2 : Nat → FieldType := fun k => match k with
  | 0 => .int
  | 1 => .object "LintelBrothers$Bounds"
  | 2 => .object "LintelBrothers$Bounds"
  | 3 => .object "LintelBrothers$Constraints"
  | 4 => .int
  | _ => .int
def F_3 : u_T := fun k => match k with
  | 0 => ("LintelBrothers$History", "count", "I", false)
  | 1 => ("LintelBrothers$History", "next", "I", false)
  | _ => ("LintelBrothers$History", "ring", "[LLintelBrothers$Data;", true)
def Fy_3 : Nat → FieldType := fun k => match k with
  | 0 => .int
  | 1 => .int
  | _ => .array (.object "LintelBrothers$Data")
def F_4 : u_T := fun k => match k with
  | 0 => ("LintelBrothers$LongestPaths", "height", "[I", true)
  | _ => ("LintelBrothers$LongestPaths", "side", "[I", true)
def Fy_4 : Nat → FieldType := fun k => match k with
  | 0 => .array .int
  | _ => .array .int
def F_5 : u_T := fun k => match k with
  | 0 => ("LintelBrothers$Narrowing", "passes", "I", false)
  | 1 => ("LintelBrothers$Narrowing", "changes", "I", false)
  | _ => ("LintelBrothers$Narrowing", "conflict", "I", false)
def Fy_5 : Nat → FieldType := fun k => match k with
  | 0 => .int
  | 1 => .int
  | _ => .int
def F_6 : u_T := fun k => match k with
  | 0 => ("LintelBrothers$PeaceSearch", "best", "[I", true)
  | 1 => ("LintelBrothers$PeaceSearch", "isFound", "Z", false)
  | _ => ("LintelBrothers$PeaceSearch", "paths", "LLintelBrothers$LongestPaths;", true)
def Fy_6 : Nat → FieldType := fun k => match k with
  | 0 => .array .int
  | 1 => .boolean
  | _ => .object "LintelBrothers$LongestPaths"
def F_7 : u_T := fun k => match k with
  | 0 => ("LintelBrothers$Script", "text", "Ljava/lang/StringBuilder;", true)
  | 1 => ("LintelBrothers$Script", "position", "I", false)
  | 2 => ("LintelBrothers$Script", "count", "I", false)
  | 3 => ("LintelBrothers$Script", "verb", "[I", true)
  | 4 => ("LintelBrothers$Script", "kind", "[C", true)
  | _ => ("LintelBrothers$Script", "number", "[[I", true)
def Fy_7 : Nat → FieldType := fun k => match k with
  | 0 => .object "java/lang/StringBuilder"
  | 1 => .int
  | 2 => .int
  | 3 => .array .int
  | 4 => .array .char
  | _ => .array (.array .int)
def F_8 : u_T := fun k => match k with
  | 0 => ("LintelBrothers", "data", "LLintelBrothers$Data;", true)
  | 1 => ("LintelBrothers", "history", "LLintelBrothers$History;", true)
  | 2 => ("LintelBrothers", "snapshot", "LLintelBrothers$Data;", true)
  | 3 => ("LintelBrothers", "hasSnapshot", "Z", false)
  | 4 => ("LintelBrothers", "trial", "LLintelBrothers$Bounds;", true)
  | 5 => ("LintelBrothers", "narrowing", "LLintelBrothers$Narrowing;", true)
  | 6 => ("LintelBrothers", "paths", "LLintelBrothers$LongestPaths;", true)
  | 7 => ("LintelBrothers", "peace", "LLintelBrothers$PeaceSearch;", true)
  | 8 => ("LintelBrothers", "output", "Ljava/lang/StringBuilder;", true)
  | 9 => ("LintelBrothers", "script", "LLintelBrothers$Script;", true)
  | 10 => ("LintelBrothers", "syntaxOffset", "I", false)
  | 11 => ("LintelBrothers", "reason", "I", false)
  | 12 => ("LintelBrothers", "detail", "I", false)
  | _ => ("LintelBrothers", "cause", "I", false)
def Fy_8 : Nat → FieldType := fun k => match k with
  | 0 => .object "LintelBrothers$Data"
  | 1 => .object "LintelBrothers$History"
  | 2 => .object "LintelBrothers$Data"
  | 3 => .boolean
  | 4 => .object "LintelBrothers$Bounds"
  | 5 => .object "LintelBrothers$Narrowing"
  | 6 => .object "LintelBrothers$LongestPaths"
  | 7 => .object "LintelBrothers$PeaceSearch"
  | 8 => .object "java/lang/StringBuilder"
  | 9 => .object "LintelBrothers$Script"
  | 10 => .int
  | 11 => .int
  | 12 => .int
  | _ => .int
def F_9 : u_T := fun k => match k with
  | 0 => ("LintelBrothersModel", "thrown", "I", false)
  | 1 => ("LintelBrothersModel", "all", "[I", true)
  | 2 => ("LintelBrothersModel", "changes", "I", false)
  | 3 => ("LintelBrothersModel", "isSaved", "Z", false)
  | 4 => ("LintelBrothersModel", "result", "I", false)
  | 5 => ("LintelBrothersModel", "why", "I", false)
  | 6 => ("LintelBrothersModel", "detail", "I", false)
  | 7 => ("LintelBrothersModel", "cause", "I", false)
  | 8 => ("LintelBrothersModel", "reason", "I", false)
  | 9 => ("LintelBrothersModel", "with", "I", false)
  | 10 => ("LintelBrothersModel", "stepsMade", "I", false)
  | 11 => ("LintelBrothersModel", "conflict", "I", false)
  | 12 => ("LintelBrothersModel", "left", "[J", true)
  | 13 => ("LintelBrothersModel", "output", "[C", true)
  | 14 => ("LintelBrothersModel", "outputSize", "I", false)
  | 15 => ("LintelBrothersModel", "input", "[C", true)
  | 16 => ("LintelBrothersModel", "typed", "I", false)
  | 17 => ("LintelBrothersModel", "here", "I", false)
  | 18 => ("LintelBrothersModel", "error", "I", false)
  | 19 => ("LintelBrothersModel", "errorAt", "I", false)
  | 20 => ("LintelBrothersModel", "commands", "[I", true)
  | _ => ("LintelBrothersModel", "commandMany", "I", false)
def Fy_9 : Nat → FieldType := fun k => match k with
  | 0 => .int
  | 1 => .array .int
  | 2 => .int
  | 3 => .boolean
  | 4 => .int
  | 5 => .int
  | 6 => .int
  | 7 => .int
  | 8 => .int
  | 9 => .int
  | 10 => .int
  | 11 => .int
  | 12 => .array .long
  | 13 => .array .char
  | 14 => .int
  | 15 => .array .char
  | 16 => .int
  | 17 => .int
  | 18 => .int
  | 19 => .int
  | 20 => .array .int
  | _ => .int
def F_10 : u_T := fun k => match k with
  | 0 => ("java/lang/AbstractStringBuilder", "value", "[B", false)
  | 1 => ("java/lang/AbstractStringBuilder", "coder", "B", false)
  | 2 => ("java/lang/AbstractStringBuilder", "maybeLatin1", "Z", false)
  | _ => ("java/lang/AbstractStringBuilder", "count", "I", false)
def Fy_10 : Nat → FieldType := fun k => match k with
  | 0 => .array .byte
  | 1 => .byte
  | 2 => .boolean
  | _ => .int
def F_11 : u_T := fun k => match k with
  | 0 => ("java/lang/String", "value", "[B", true)
  | 1 => ("java/lang/String", "coder", "B", true)
  | 2 => ("java/lang/String", "hash", "I", false)
  | _ => ("java/lang/String", "hashIsZero", "Z", false)
def Fy_11 : Nat → FieldType := fun k => match k with
  | 0 => .array .byte
  | 1 => .byte
  | 2 => .int
  | _ => .boolean
/-- the classes: name, fields, how many -/
def wcl : List vw_C := [("LintelBrothers$Bounds", F_0, 2), ("LintelBrothers$Constraints", F_1, 7), ("LintelBrothers$Data", F_2, 6), ("LintelBrothers$History", F_3, 3), ("LintelBrothers$LongestPaths", F_4, 2), ("LintelBrothers$Narrowing", F_5, 3), ("LintelBrothers$PeaceSearch", F_6, 3), ("LintelBrothers$Script", F_7, 6), ("LintelBrothers", F_8, 14), ("LintelBrothersModel", F_9, 22), ("java/lang/StringBuilder", F_10, 4), ("java/lang/String", F_11, 4)]
/-- the sorts of the fields: 0 int, 1 long, 2 reference, 3 char, 4 byte, 5 boolean -/
def ftag (ci : Nat) : List Nat := match ci with
  | 0 => [2, 2]
  | 1 => [0, 0, 2, 2, 2, 2, 2]
  | 2 => [0, 2, 2, 2, 0, 0]
  | 3 => [0, 0, 2]
  | 4 => [2, 2]
  | 5 => [0, 0, 0]
  | 6 => [2, 5, 2]
  | 7 => [2, 0, 0, 2, 2, 2]
  | 8 => [2, 2, 2, 5, 2, 2, 2, 2, 2, 2, 0, 0, 0, 0]
  | 9 => [0, 2, 0, 5, 0, 0, 0, 0, 0, 0, 0, 0, 2, 2, 0, 2, 0, 0, 0, 0, 2, 0]
  | 10 => [2, 4, 5, 0]
  | 11 => [2, 4, 0, 5]
  | _ => []
def ffty (ci : Nat) : Nat → FieldType := match ci with
  | 0 => Fy_0
  | 1 => Fy_1
  | 2 => Fy_2
  | 3 => Fy_3
  | 4 => Fy_4
  | 5 => Fy_5
  | 6 => Fy_6
  | 7 => Fy_7
  | 8 => Fy_8
  | 9 => Fy_9
  | 10 => Fy_10
  | _ => Fy_11
/-- class names by number -/
def cnm (n : Nat) : String := match n with
  | 0 => "LintelBrothers$Bounds"
  | 1 => "LintelBrothers$Constraints"
  | 2 => "LintelBrothers$Data"
  | 3 => "LintelBrothers$History"
  | 4 => "LintelBrothers$LongestPaths"
  | 5 => "LintelBrothers$Narrowing"
  | 6 => "LintelBrothers$PeaceSearch"
  | 7 => "LintelBrothers$Script"
  | 8 => "LintelBrothers"
  | 9 => "LintelBrothersModel"
  | 10 => "java/lang/StringBuilder"
  | 11 => "java/lang/String"
  | 12 => "LintelBrothersLaw"
  | 13 => "java/lang/AbstractStringBuilder"
  | 14 => "java/lang/Integer"
  | 15 => "java/lang/StringLatin1"
  | 16 => "java/lang/StringUTF16"
  | 17 => "java/util/Arrays"
  | 18 => "jdk/internal/util/ArraysSupport"
  | _ => "jdk/internal/util/Preconditions"
end
section
/-! a whole heap of the small machine on the machine's -/
def fvl (B : Nat) (CS : Nat → Nat) (A : HP) (a k t : Nat) : Value := match t with
  | 1 => .long (hJ A a k)
  | 2 => va_rf ((hR A a k).map (adr B CS))
  | _ => .int (hI A a k)
def objL (B : Nat) (CS : Nat → Nat) (A : HP) (a : Nat) (ts : List Nat) : List Value := (List.range ts.length).map (fun k => fvl B CS A a k (ts.getD k 0))
def celA (B : Nat) (CS : Nat → Nat) (dA : Nat → ClassId) (A : HP) (a : Nat) : Option va_E := match hK A a with
  | (1, n) => some (.inl (dA 1, n, .inl (hI A a)))
  | (2, n) => some (.inl (dA 2, n, .inr (.inl (hJ A a))))
  | (3, n) => some (.inl (dA 3, n, .inl (hI A a)))
  | (4, n) => some (.inl (dA 4, n, .inl (hI A a)))
  | (5, n) => some (.inl (dA 5, n, .inr (.inr (.inr (.inl (hU A a))))))
  | (6, n) => some (.inl (dA 6, n, .inr (.inr (.inr (.inr (fun j => (hR A a j).map (adr B CS)))))))
  | (7, n) => some (.inl (dA 7, n, .inr (.inr (.inr (.inr (fun j => (hR A a j).map (adr B CS)))))))
  | (8, n) => some (.inl (dA 4, n, .inl (hI A a)))
  | (k + 10, 0) => some (.inr (k, objL B CS A a (ftag k)))
  | _ => none
theorem celA_congr {B : Nat} {CS : Nat → Nat} {dA : Nat → ClassId} {A A' : HP} {b : Nat} (h1 : hK A' b = hK A b) (h2 : hI A' b = hI A b) (h3 : hJ A' b = hJ A b) (h4 : hR A' b = hR A b) (h5 : hU A' b = hU A b) : celA B CS dA A' b = celA B CS dA A b := by
  have e : ∀ ts, objL B CS A' b ts = objL B CS A b ts := by
    intro ts
    unfold objL
    refine List.map_congr_left (fun k _ => ?_)
    unfold fvl
    rw [h2, h3, h4]
  unfold celA
  rw [h1, h2, h3, h4, h5]
  split <;> first | rfl | (rw [e])
theorem celA_ne {B : Nat} {CS : Nat → Nat} {dA : Nat → ClassId} {A : HP} {a : Nat} {e : va_E} (h : celA B CS dA A a = some e) : (hK A a).1 ≠ 0 := by
  intro h0
  unfold celA at h
  split at h <;> first | (rename_i q; rw [q] at h0; revert h0; simp; done) | (cases h)
/-- the machine's heap H holds the small heap A: from B on; constants where CS says; below B nothing has changed since Hb -/
def Rel (B : Nat) (Hb : Heap) (CS : Nat → Nat) (dC : Nat → ClassId) (dI : Nat → Nat → Nat) (dA : Nat → ClassId) (A : HP) (H : Heap) : Prop :=
  Hb.size = B ∧ H.size = B + hn A ∧ hn A < BIG ∧ (∀ q : Nat, q < B → H[q]? = Hb[q]?) ∧ (∀ a, (hK A a).1 ≠ 0 → a < hn A ∨ (BIG ≤ a ∧ CS (a - BIG) < B ∧ ((hK A a).1 = 8 ∨ (hK A a).1 = 21))) ∧ (∀ a e, celA B CS dA A a = some e → va_at (dC, dI) wcl (adr B CS a, e) H)
section R
variable {B : Nat} {Hb : Heap} {CS : Nat → Nat} {dC : Nat → ClassId} {dI : Nat → Nat → Nat} {dA : Nat → ClassId}
theorem Rel.size {A : HP} {H : Heap} (h : Rel B Hb CS dC dI dA A H) : H.size = B + hn A := h.2.1
theorem Rel.at {A : HP} {H : Heap} (h : Rel B Hb CS dC dI dA A H) {a : Nat} {e : va_E} (he : celA B CS dA A a = some e) : va_at (dC, dI) wcl (adr B CS a, e) H := h.2.2.2.2.2 a e he
theorem Rel.own {A : HP} {H : Heap} (h : Rel B Hb CS dC dI dA A H) {a : Nat} {k : Nat × Nat} (hk : hK A a = k) (h0 : k.1 ≠ 0) (h8 : k.1 ≠ 8) (h21 : k.1 ≠ 21) : a < hn A ∧ a < BIG ∧ adr B CS a = B + a := by
  have h1 : a < hn A := by
    rcases h.2.2.2.2.1 a (by rw [hk]; exact h0) with h1 | ⟨-, -, h1⟩
    · exact h1
    · rw [hk] at h1
      rcases h1 with h1 | h1
      · exact absurd h1 h8
      · exact absurd h1 h21
  have h2 : a < BIG := Nat.lt_trans h1 h.2.2.1
  exact ⟨h1, h2, if_pos h2⟩
/-- one own cell has changed -/
theorem Rel.put {A A' : HP} {H H' : Heap} (h : Rel B Hb CS dC dI dA A H) {a : Nat} (ha : a < hn A) (hsz : H'.size = H.size) (ho : ∀ q : Nat, q ≠ B + a → H'[q]? = H[q]?)
    (hK' : hK A' = hK A) (hn' : hn A' = hn A) (hoth : ∀ b, b ≠ a → celA B CS dA A' b = celA B CS dA A b) (hnew : ∀ e, celA B CS dA A' a = some e → va_at (dC, dI) wcl (B + a, e) H') : Rel B Hb CS dC dI dA A' H' := by
  obtain ⟨h1, h2, h3, h4, h5, h6⟩ := h
  refine ⟨h1, by rw [hsz, hn']; exact h2, by rw [hn']; exact h3, fun q hq => ?_, by rw [hK', hn']; exact h5, fun b e he => ?_⟩
  · rw [ho q (by omega)]
    exact h4 q hq
  · by_cases hb : b = a
    · subst hb
      have : adr B CS b = B + b := if_pos (Nat.lt_trans ha h3)
      rw [this]
      exact hnew e he
    · have hne := celA_ne he
      rw [hoth b hb] at he
      refine (h6 b e he).kept (ho _ ?_)
      show adr B CS b ≠ B + a
      unfold adr
      split
      · omega
      · rename_i hB
        rw [hK'] at hne
        rcases h5 b hne with h7 | ⟨-, h7, -⟩
        · omega
        · omega
/-- a new cell at the end -/
theorem Rel.push {A A' : HP} {H H' : Heap} (h : Rel B Hb CS dC dI dA A H) (hsz : H'.size = H.size + 1) (ho : ∀ q : Nat, q < H.size → H'[q]? = H[q]?) (hB : hn A + 1 < BIG)
    (hn' : hn A' = hn A + 1) (hKo : ∀ b, b ≠ hn A → hK A' b = hK A b) (hoth : ∀ b, b ≠ hn A → celA B CS dA A' b = celA B CS dA A b) (hnew : ∀ e, celA B CS dA A' (hn A) = some e → va_at (dC, dI) wcl (B + hn A, e) H') : Rel B Hb CS dC dI dA A' H' := by
  obtain ⟨h1, h2, h3, h4, h5, h6⟩ := h
  refine ⟨h1, by rw [hsz, h2, hn']; omega, by rw [hn']; exact hB, fun q hq => ?_, fun a ha => ?_, fun b e he => ?_⟩
  · rw [ho q (by omega)]
    exact h4 q hq
  · by_cases hb : a = hn A
    · left; rw [hn', hb]; omega
    · rw [hKo a hb] at ha ⊢
      rcases h5 a ha with h7 | h7
      · left; rw [hn']; omega
      · exact Or.inr h7
  · by_cases hb : b = hn A
    · subst hb
      have : adr B CS (hn A) = B + hn A := if_pos h3
      rw [this]
      exact hnew e he
    · rw [hoth b hb] at he
      have h8 := h6 b e he
      exact h8.kept (ho _ h8.lt)
/-- an exception's cell -/
theorem Rel.junked {A : HP} {H H' : Heap} {w : Nat} (h : Rel B Hb CS dC dI dA A H) (hsz : H'.size = H.size + 1) (ho : ∀ q : Nat, q < H.size → H'[q]? = H[q]?) (hB : hn A + 1 < BIG) : Rel B Hb CS dC dI dA (junk A w) H' := by
  obtain ⟨h1, h2, h3, h4, h5, h6⟩ := h
  have e1 : hn (junk A w) = hn A + 1 := rfl
  refine ⟨h1, by rw [hsz, h2, e1]; omega, by rw [e1]; exact hB, fun q hq => ?_, fun a ha => ?_, fun b e he => ?_⟩
  · rw [ho q (by omega)]
    exact h4 q hq
  · rcases h5 a ha with h7 | h7
    · left; rw [e1]; omega
    · exact Or.inr h7
  · have h8 := h6 b e he
    exact h8.kept (ho _ h8.lt)
end R
end
section
/-- the private methods of StringBuilder's superclass, as its objects select them -/
def sbM : List MethodName := [⟨"java/lang/AbstractStringBuilder", "ensureCapacityInternal", "(I)V"⟩, ⟨"java/lang/AbstractStringBuilder", "newCapacity", "(I)I"⟩, ⟨"java/lang/AbstractStringBuilder", "putStringAt", "(ILjava/lang/String;)V"⟩, ⟨"java/lang/AbstractStringBuilder", "inflateIfNeededFor", "(Ljava/lang/String;)V"⟩]
def lw_tb : List Jvm.Cond := sbM.map (fun y => Jvm.Cond.selects "java/lang/StringBuilder" y y) ++ lw_tbl
theorem sb_selects {y : MethodName} {s : State} {args : Array Value} {n : Nat} (hyc : y.cls = "java/lang/AbstractStringBuilder")
    (hins : (Jvm.Cond.instantiable "java/lang/StringBuilder" n).before args s = true) (hpriv : (Jvm.Cond.privateMethod y).before args s = true) (hinst : (Jvm.Cond.instanceMethod y).before args s = true)
    (hsel : (Jvm.Cond.selects "java/lang/StringBuilder" ⟨"java/lang/AbstractStringBuilder", "isLatin1", "()Z"⟩ ⟨"java/lang/AbstractStringBuilder", "isLatin1", "()Z"⟩).before args s = true) :
    (Jvm.Cond.selects "java/lang/StringBuilder" y y).before args s = true := by
  obtain ⟨c, k, hc, hk, -, hniab, -, -⟩ := Cond.instantiable_spec hins
  obtain ⟨mk, methM, hnamed, hmethM, -, -⟩ := Cond.instanceMethod_spec hinst
  have hy : y.cls ≠ "java/lang/invoke/MethodHandle" ∧ y.cls ≠ "java/lang/invoke/VarHandle" := by rw [hyc]; decide
  have hfound : s.methodFound? y.cls y.name y.desc = some mk := State.methodFound?_of_named hnamed hy
  obtain ⟨c2, r2, m2, q1, q2, q3, q4, kP, hkP, hkPi⟩ := Cond.selects_spec hsel
  have hnm2 : s.methodNamed? ⟨"java/lang/AbstractStringBuilder", "isLatin1", "()Z"⟩ = some r2 ∨ True := Or.inr trivial
  have hr2 : s.methodFound? "java/lang/AbstractStringBuilder" "isLatin1" "()Z" = some m2 := State.methodFound?_of_named q3 (by decide)
  have hm : r2 = m2 := Option.some.inj (q2.symm.trans hr2)
  subst hm
  have hcl : mk.cls = r2.cls := by
    have h1 := findClass_of_methodNamed hnamed
    have h2 := findClass_of_methodNamed q3
    rw [hyc] at h1
    exact Option.some.inj (h1.symm.trans h2)
  have hsl : selectMethod {} s.vm c mk = .method mk := selectMethod_private hmethM (Cond.privateMethod_at hpriv mk methM hnamed hmethM)
  simp only [Jvm.Cond.before, Jvm.Cond.holds, Cond.value, hc, hfound, hnamed, hsl, hcl, hkP]
  simp
  exact hkPi
theorem lw_tb_ok {args : Array Value} {s : State} (h : ∀ w ∈ lw_tbl, w.before args s = true) : ∀ w ∈ lw_tb, w.before args s = true := by
  have hi : Jvm.Cond.instantiable "java/lang/StringBuilder" 4 ∈ lw_tbl := by decide +kernel
  have hs : Jvm.Cond.selects "java/lang/StringBuilder" ⟨"java/lang/AbstractStringBuilder", "isLatin1", "()Z"⟩ ⟨"java/lang/AbstractStringBuilder", "isLatin1", "()Z"⟩ ∈ lw_tbl := by decide +kernel
  have hp : sbM.all (fun y => decide (y.cls = "java/lang/AbstractStringBuilder") && decide (Jvm.Cond.privateMethod y ∈ lw_tbl) && decide (Jvm.Cond.instanceMethod y ∈ lw_tbl)) = true := by decide +kernel
  intro w hw
  rcases List.mem_append.mp hw with hw | hw
  · obtain ⟨y, hy, rfl⟩ := List.mem_map.mp hw
    have h1 := List.all_eq_true.mp hp y hy
    simp only [Bool.and_eq_true, decide_eq_true_eq] at h1
    exact sb_selects h1.1.1 (h _ hi) (h _ h1.1.2) (h _ h1.2) (h _ hs)
  · exact h w hw
end
section
/-! what holds at a method's start, and the steps that move numbers on the stack alone -/
def pW (w : Jvm.Cond) : Bool := goodWord w || (match w with
  | .methodLinkNest _ _ _ _ => true
  | .castable _ _ => true
  | .declares _ => true
  | _ => false)
def WD (s : State) : Prop := ∀ w ∈ lw_tb, pW w = true → ∀ args : Array Value, w.before args s = true
theorem WD.warm {s U : State} (hW : s.WarmedH U.vm) (h : WD s) : WD U := by
  intro w hw hp args
  have h0 := h w hw hp
  simp only [pW, Bool.or_eq_true] at hp
  rcases hp with hp | hp
  · exact word_at hW (good_of_word hp) (h0 args)
  · revert h0 hp
    cases w with
    | methodLinkNest a i x n => intro h0 _; exact va_Nw.use rfl (va_Nw.warmM hW (va_Nw.of rfl (h0 #[])))
    | castable C T => intro h0 _; exact va_Nw.use rfl (va_Nw.warmC hW (va_Nw.of rfl (h0 #[])))
    | declares y => intro h0 _; exact va_Nw.use rfl (va_Nw.warmD hW (va_Nw.of rfl (h0 #[])))
    | _ => intro _ hp; exact absurd hp (by simp)
def skF (own : String) (B : Nat) (Hb : Heap) (CS : Nat → Nat) (s : State) (i : Instr) (cst : Int32) (x : List Nat) : Prop := match i with
  | .iconst v => Int32.ofInt v = cst
  | .bipush v => (Int8.ofInt v).toInt32 = cst
  | .sipush v => (Int16.ofInt v).toInt32 = cst
  | .ldc ix => match x with
    | [] => ∀ args, (Jvm.Cond.constant own ix cst).before args s = true
    | k :: _ => ∃ tx, vk_R own ix tx (CS k) s
  | .ldc_w ix => match x with
    | [] => ∀ args, (Jvm.Cond.constant own ix cst).before args s = true
    | _ => False
  | .ldc2_w ix => match x with
    | [n] => ∀ args, (Jvm.Cond.constantLong own ix (Int64.ofNat n)).before args s = true
    | _ => ∀ args, (Jvm.Cond.constantLong own ix (Int64.ofInt cst.toInt)).before args s = true
  | .getstatic ix => match x with
    | [] => ∃ C n d, va_Z C n d (.int cst) (fun q => B ≤ q) s Hb ∧ ∀ args, (Jvm.Cond.fieldLink own ix C n d).before args s = true
    | k :: _ => ∃ C n d, va_Z C n d (.ref (CS k)) (fun q => B ≤ q) s Hb ∧ ∀ args, (Jvm.Cond.fieldLink own ix C n d).before args s = true
  | _ => True
/-- how long a plain instruction is -/
def lenI : Instr → Nat
  | .bipush _ | .ldc _ | .iload _ | .aload _ | .lload _ | .dload _ | .fload _ | .istore _ | .astore _ | .lstore _ | .dstore _ | .fstore _ | .newarray _ => 2
  | .sipush _ | .ldc_w _ | .ldc2_w _ | .getstatic _ | .getfield _ | .putfield _ | .iinc _ _ | .goto _ | .ifCond _ _ | .if_icmp _ _ | .ifnonnull _ | .new _ | .anewarray _ | .invokevirtual _ | .invokestatic _ | .invokespecial _ => 3
  | .multianewarray _ _ => 4
  | _ => 1
theorem adr_big {B : Nat} {CS : Nat → Nat} (k : Nat) : adr B CS (BIG + k) = CS k := by
  unfold adr
  rw [if_neg (by omega), show BIG + k - BIG = k by omega]
section SK
variable {p : Program} {l : Launch} {e : Env} {R : Room} {s : State} {m : MethodId} {args : Array Value} {below : List Frame} {meth : Method} {c : Code} {H : Heap} {locs : List Loc} {cells slots : Nat} {Q : State → Prop}
variable {cc : ByteArray} {own : String} {B : Nat} {Hb : Heap} {CS : Nat → Nat} {pc : Nat} {ls : Array Slot}
set_option maxHeartbeats 4000000 in
theorem sk_ok (hx : p.tables.exec = Jvm.exec) (hb : c.code = cc) (hown : s.vm.findClass own = some m.cls) (hHb : Hb.size = B) (hlow : ∀ q : Nat, q < B → H[q]? = Hb[q]?) {i : Instr} {cst : Int32} {x : List Nat} {st st' ms : List Value}
    (hd : decode cc pc = .ok (i, lenI i)) (hf : skF own B Hb CS s i cst x) (h : stkI i cst x st = some st') (hm : stR B CS st ms) :
    ∃ ms', stR B CS st' ms' ∧ (W p l e R s m args below meth c H locs cells slots Q (F0 m (pc + lenI i) ls ms') → W p l e R s m args below meth c H locs cells slots Q (F0 m pc ls ms)) := by
  cases i with
  | iconst v =>
    cases (Option.some.inj h)
    exact ⟨.int cst :: ms, ⟨_, _, rfl, rfl, hm⟩, fun k => lv_iconst hx hb hd hf k⟩
  | bipush v =>
    cases (Option.some.inj h)
    exact ⟨.int cst :: ms, ⟨_, _, rfl, rfl, hm⟩, fun k => lv_bipush hx hb hd hf k⟩
  | sipush v =>
    cases (Option.some.inj h)
    exact ⟨.int cst :: ms, ⟨_, _, rfl, rfl, hm⟩, fun k => lv_sipush hx hb hd hf k⟩
  | aconst_null =>
    cases (Option.some.inj h)
    exact ⟨.null :: ms, ⟨_, _, rfl, rfl, hm⟩, fun k => lv_null hx hb hd k⟩
  | lconst v =>
    match v, hd, h with
    | 0, hd, h =>
      cases (Option.some.inj h)
      exact ⟨.long 0 :: ms, ⟨_, _, rfl, rfl, hm⟩, fun k => lv_lconst hx hb hd rfl k⟩
    | 1, hd, h =>
      cases (Option.some.inj h)
      exact ⟨.long 1 :: ms, ⟨_, _, rfl, rfl, hm⟩, fun k => lv_lconst hx hb hd rfl k⟩
  | dconst v =>
    match v, hd, h with
    | 0, hd, h =>
      cases (Option.some.inj h)
      exact ⟨.double FP.dconst0 :: ms, ⟨_, _, rfl, rfl, hm⟩, fun k => lv_dconst0 hx hb hd k⟩
  | fconst v =>
    match v, hd, h with
    | 0, hd, h =>
      cases (Option.some.inj h)
      exact ⟨.float FP.fconst0 :: ms, ⟨_, _, rfl, rfl, hm⟩, fun k => lv_fconst0 hx hb hd k⟩
  | ldc ix =>
    match x, hf, h with
    | [], hf, h =>
      cases (Option.some.inj h)
      exact ⟨.int cst :: ms, ⟨_, _, rfl, rfl, hm⟩, fun k => lv_ldc hx hb hown (hf args) hd k⟩
    | k0 :: _, ⟨tx, hf⟩, h =>
      cases (Option.some.inj h)
      exact ⟨.ref (CS k0) :: ms, ⟨_, _, rfl, (by show _ = Value.ref (adr B CS (BIG + k0)); rw [adr_big]), hm⟩, fun k => va_ldcS hx hb hown hf hd k⟩
  | ldc_w ix =>
    match x, hf, h with
    | [], hf, h =>
      cases (Option.some.inj h)
      exact ⟨.int cst :: ms, ⟨_, _, rfl, rfl, hm⟩, fun k => lv_ldcw hx hb hown (hf args) hd k⟩
  | ldc2_w ix =>
    match x, hf, h with
    | [], hf, h =>
      cases (Option.some.inj h)
      exact ⟨_ :: ms, ⟨_, _, rfl, rfl, hm⟩, fun k => lv_ldc2 hx hb hown (hf args) hd k⟩
    | [n], hf, h =>
      cases (Option.some.inj h)
      exact ⟨_ :: ms, ⟨_, _, rfl, rfl, hm⟩, fun k => lv_ldc2 hx hb hown (hf args) hd k⟩
    | _ :: _ :: _, hf, h =>
      cases (Option.some.inj h)
      exact ⟨_ :: ms, ⟨_, _, rfl, rfl, hm⟩, fun k => lv_ldc2 hx hb hown (hf args) hd k⟩
  | getstatic ix =>
    match x, hf, h with
    | [], ⟨C, n, d, ⟨cf, kf, fi, f, a, ce0, h1, h2, h3, h4, h5, h6, h7, h8⟩, hl⟩, h =>
      cases (Option.some.inj h)
      have ha := (Array.getElem?_eq_some_iff.mp h5).1
      exact ⟨.int cst :: ms, ⟨_, _, rfl, rfl, hm⟩, fun k => W.gets hx hb hown (hl args) h1 h2 h3 h4 (by rw [hlow a (by omega)]; exact h5) (fun e => by rw [e] at h6; cases h6) h7 rfl hd k⟩
    | k0 :: _, ⟨C, n, d, ⟨cf, kf, fi, f, a, ce0, h1, h2, h3, h4, h5, h6, h7, h8⟩, hl⟩, h =>
      cases (Option.some.inj h)
      have ha := (Array.getElem?_eq_some_iff.mp h5).1
      exact ⟨.ref (CS k0) :: ms, ⟨_, _, rfl, (by show _ = Value.ref (adr B CS (BIG + k0)); rw [adr_big]), hm⟩, fun k => W.gets hx hb hown (hl args) h1 h2 h3 h4 (by rw [hlow a (by omega)]; exact h5) (fun e => by rw [e] at h6; cases h6) h7 rfl hd k⟩
  | dup =>
    match st, h, hm with
    | v :: r, h, ⟨mv, r1, e1, h1, hr⟩ =>
      subst e1
      have hc := h1.cat
      revert h
      show (match v.category with | 1 => some (v :: v :: r) | _ => none) = some st' → _
      split
      · rename_i q
        intro h
        cases (Option.some.inj h)
        exact ⟨mv :: mv :: r1, ⟨_, _, rfl, h1, _, _, rfl, h1, hr⟩, fun k => lv_dup hx hb hd (hc.trans q) k⟩
      · intro h; cases h
  | pop =>
    match st, h, hm with
    | v :: r, h, ⟨mv, r1, e1, h1, hr⟩ =>
      subst e1
      have hc := h1.cat
      revert h
      show (match v.category with | 1 => some r | _ => none) = some st' → _
      split
      · rename_i q
        intro h
        cases (Option.some.inj h)
        exact ⟨r1, hr, fun k => lv_pop hx hb hd (hc.trans q) k⟩
      · intro h; cases h
  | dup_x1 =>
    match st, h, hm with
    | a :: b :: r, h, ⟨ma, r1, e1, h1, mb, r2, e2, h2, hr⟩ =>
      subst e1
      subst e2
      have hc := h1.cat
      have hc2 := h2.cat
      revert h
      show (match a.category, b.category with | 1, 1 => some (a :: b :: a :: r) | _, _ => none) = some st' → _
      split
      · rename_i q q2
        intro h
        cases (Option.some.inj h)
        exact ⟨ma :: mb :: ma :: r2, ⟨_, _, rfl, h1, _, _, rfl, h2, _, _, rfl, h1, hr⟩, fun k => lv_dup_x1 hx hb hd (hc.trans q) (hc2.trans q2) k⟩
      · intro h; cases h
  | dup2 =>
    match st, h, hm with
    | a :: b :: r, h, ⟨ma, r1, e1, h1, mb, r2, e2, h2, hr⟩ =>
      subst e1
      subst e2
      have hc := h1.cat
      have hc2 := h2.cat
      revert h
      show (match a.category, b.category with | 1, 1 => some (a :: b :: a :: b :: r) | _, _ => none) = some st' → _
      split
      · rename_i q q2
        intro h
        cases (Option.some.inj h)
        exact ⟨ma :: mb :: ma :: mb :: r2, ⟨_, _, rfl, h1, _, _, rfl, h2, _, _, rfl, h1, _, _, rfl, h2, hr⟩, fun k => lv_dup2_11 hx hb hd (hc.trans q) (hc2.trans q2) k⟩
      · intro h; cases h
  | iadd =>
    match st, h, hm with
    | .int y :: .int x :: r, h, ⟨my, r1, e1, h1, mx, r2, e2, h2, hr⟩ =>
      subst e1
      subst e2
      cases (show my = Value.int y from h1)
      cases (show mx = Value.int x from h2)
      cases (Option.some.inj h)
      exact ⟨_ :: r2, ⟨_, _, rfl, rfl, hr⟩, fun k => lv_iadd hx hb hd k⟩
  | isub =>
    match st, h, hm with
    | .int y :: .int x :: r, h, ⟨my, r1, e1, h1, mx, r2, e2, h2, hr⟩ =>
      subst e1
      subst e2
      cases (show my = Value.int y from h1)
      cases (show mx = Value.int x from h2)
      cases (Option.some.inj h)
      exact ⟨_ :: r2, ⟨_, _, rfl, rfl, hr⟩, fun k => lv_isub hx hb hd k⟩
  | imul =>
    match st, h, hm with
    | .int y :: .int x :: r, h, ⟨my, r1, e1, h1, mx, r2, e2, h2, hr⟩ =>
      subst e1
      subst e2
      cases (show my = Value.int y from h1)
      cases (show mx = Value.int x from h2)
      cases (Option.some.inj h)
      exact ⟨_ :: r2, ⟨_, _, rfl, rfl, hr⟩, fun k => lv_imul hx hb hd k⟩
  | iand =>
    match st, h, hm with
    | .int y :: .int x :: r, h, ⟨my, r1, e1, h1, mx, r2, e2, h2, hr⟩ =>
      subst e1
      subst e2
      cases (show my = Value.int y from h1)
      cases (show mx = Value.int x from h2)
      cases (Option.some.inj h)
      exact ⟨_ :: r2, ⟨_, _, rfl, rfl, hr⟩, fun k => lv_iand hx hb hd k⟩
  | ior =>
    match st, h, hm with
    | .int y :: .int x :: r, h, ⟨my, r1, e1, h1, mx, r2, e2, h2, hr⟩ =>
      subst e1
      subst e2
      cases (show my = Value.int y from h1)
      cases (show mx = Value.int x from h2)
      cases (Option.some.inj h)
      exact ⟨_ :: r2, ⟨_, _, rfl, rfl, hr⟩, fun k => lv_ior hx hb hd k⟩
  | ishl =>
    match st, h, hm with
    | .int y :: .int x :: r, h, ⟨my, r1, e1, h1, mx, r2, e2, h2, hr⟩ =>
      subst e1
      subst e2
      cases (show my = Value.int y from h1)
      cases (show mx = Value.int x from h2)
      cases (Option.some.inj h)
      exact ⟨_ :: r2, ⟨_, _, rfl, rfl, hr⟩, fun k => lv_ishl hx hb hd k⟩
  | ishr =>
    match st, h, hm with
    | .int y :: .int x :: r, h, ⟨my, r1, e1, h1, mx, r2, e2, h2, hr⟩ =>
      subst e1
      subst e2
      cases (show my = Value.int y from h1)
      cases (show mx = Value.int x from h2)
      cases (Option.some.inj h)
      exact ⟨_ :: r2, ⟨_, _, rfl, rfl, hr⟩, fun k => lv_ishr hx hb hd k⟩
  | iushr =>
    match st, h, hm with
    | .int y :: .int x :: r, h, ⟨my, r1, e1, h1, mx, r2, e2, h2, hr⟩ =>
      subst e1
      subst e2
      cases (show my = Value.int y from h1)
      cases (show mx = Value.int x from h2)
      cases (Option.some.inj h)
      exact ⟨_ :: r2, ⟨_, _, rfl, rfl, hr⟩, fun k => lv_iushr hx hb hd rfl k⟩
  | lshl =>
    match st, h, hm with
    | .int y :: .long x :: r, h, ⟨my, r1, e1, h1, mx, r2, e2, h2, hr⟩ =>
      subst e1
      subst e2
      cases (show my = Value.int y from h1)
      cases (show mx = Value.long x from h2)
      cases (Option.some.inj h)
      exact ⟨_ :: r2, ⟨_, _, rfl, rfl, hr⟩, fun k => lv_lshl hx hb hd rfl k⟩
  | lshr =>
    match st, h, hm with
    | .int y :: .long x :: r, h, ⟨my, r1, e1, h1, mx, r2, e2, h2, hr⟩ =>
      subst e1
      subst e2
      cases (show my = Value.int y from h1)
      cases (show mx = Value.long x from h2)
      cases (Option.some.inj h)
      exact ⟨_ :: r2, ⟨_, _, rfl, rfl, hr⟩, fun k => lv_lshr hx hb hd rfl k⟩
  | land =>
    match st, h, hm with
    | .long y :: .long x :: r, h, ⟨my, r1, e1, h1, mx, r2, e2, h2, hr⟩ =>
      subst e1
      subst e2
      cases (show my = Value.long y from h1)
      cases (show mx = Value.long x from h2)
      cases (Option.some.inj h)
      exact ⟨_ :: r2, ⟨_, _, rfl, rfl, hr⟩, fun k => lv_land hx hb hd k⟩
  | lor =>
    match st, h, hm with
    | .long y :: .long x :: r, h, ⟨my, r1, e1, h1, mx, r2, e2, h2, hr⟩ =>
      subst e1
      subst e2
      cases (show my = Value.long y from h1)
      cases (show mx = Value.long x from h2)
      cases (Option.some.inj h)
      exact ⟨_ :: r2, ⟨_, _, rfl, rfl, hr⟩, fun k => lv_lor hx hb hd k⟩
  | lsub =>
    match st, h, hm with
    | .long y :: .long x :: r, h, ⟨my, r1, e1, h1, mx, r2, e2, h2, hr⟩ =>
      subst e1
      subst e2
      cases (show my = Value.long y from h1)
      cases (show mx = Value.long x from h2)
      cases (Option.some.inj h)
      exact ⟨_ :: r2, ⟨_, _, rfl, rfl, hr⟩, fun k => lv_lsub hx hb hd k⟩
  | lcmp =>
    match st, h, hm with
    | .long y :: .long x :: r, h, ⟨my, r1, e1, h1, mx, r2, e2, h2, hr⟩ =>
      subst e1
      subst e2
      cases (show my = Value.long y from h1)
      cases (show mx = Value.long x from h2)
      cases (Option.some.inj h)
      exact ⟨_ :: r2, ⟨_, _, rfl, rfl, hr⟩, fun k => W.lcmp hx hb hd k⟩
  | ineg =>
    match st, h, hm with
    | .int x :: r, h, ⟨mx, r1, e1, h1, hr⟩ =>
      subst e1
      cases (show mx = Value.int x from h1)
      cases (Option.some.inj h)
      exact ⟨_ :: r1, ⟨_, _, rfl, rfl, hr⟩, fun k => lv_ineg hx hb hd k⟩
  | i2l =>
    match st, h, hm with
    | .int x :: r, h, ⟨mx, r1, e1, h1, hr⟩ =>
      subst e1
      cases (show mx = Value.int x from h1)
      cases (Option.some.inj h)
      exact ⟨_ :: r1, ⟨_, _, rfl, rfl, hr⟩, fun k => lv_i2l hx hb hd rfl k⟩
  | i2c =>
    match st, h, hm with
    | .int x :: r, h, ⟨mx, r1, e1, h1, hr⟩ =>
      subst e1
      cases (show mx = Value.int x from h1)
      cases (Option.some.inj h)
      exact ⟨_ :: r1, ⟨_, _, rfl, rfl, hr⟩, fun k => lv_i2c hx hb hd rfl k⟩
  | i2b =>
    match st, h, hm with
    | .int x :: r, h, ⟨mx, r1, e1, h1, hr⟩ =>
      subst e1
      cases (show mx = Value.int x from h1)
      cases (Option.some.inj h)
      exact ⟨_ :: r1, ⟨_, _, rfl, rfl, hr⟩, fun k => lv_i2b hx hb hd rfl k⟩
  | i2d =>
    match st, h, hm with
    | .int x :: r, h, ⟨mx, r1, e1, h1, hr⟩ =>
      subst e1
      cases (show mx = Value.int x from h1)
      cases (Option.some.inj h)
      exact ⟨_ :: r1, ⟨_, _, rfl, rfl, hr⟩, fun k => lv_i2d hx hb hd k⟩
  | i2f =>
    match st, h, hm with
    | .int x :: r, h, ⟨mx, r1, e1, h1, hr⟩ =>
      subst e1
      cases (show mx = Value.int x from h1)
      cases (Option.some.inj h)
      exact ⟨_ :: r1, ⟨_, _, rfl, rfl, hr⟩, fun k => lv_i2f hx hb hd k⟩
  | dcmp op =>
    match st, h, hm with
    | .double y :: .double x :: r, h, ⟨my, r1, e1, h1, mx, r2, e2, h2, hr⟩ =>
      subst e1
      subst e2
      cases (show my = Value.double y from h1)
      cases (show mx = Value.double x from h2)
      cases (Option.some.inj h)
      exact ⟨_ :: r2, ⟨_, _, rfl, rfl, hr⟩, fun k => lv_dcmp hx hb hd k⟩
  | fcmp op =>
    match st, h, hm with
    | .float y :: .float x :: r, h, ⟨my, r1, e1, h1, mx, r2, e2, h2, hr⟩ =>
      subst e1
      subst e2
      cases (show my = Value.float y from h1)
      cases (show mx = Value.float x from h2)
      cases (Option.some.inj h)
      exact ⟨_ :: r2, ⟨_, _, rfl, rfl, hr⟩, fun k => lv_fcmp hx hb hd k⟩
  | _ => cases (show (none : Option (List Value)) = some st' from h)
end SK
end
section
/-! a method's run at one place; the steps on locals, branches and ends -/
def lR (B : Nat) (CS : Nat → Nat) (L : LV) (nL : Nat) (ls : Array Slot) : Prop := ∃ l : List (Nat × Value), lv_has ls nL l ∧ ∀ i v, nth L i = some (some v) → ∃ mv, (i, mv) ∈ l ∧ vR B CS v mv
theorem nth_self {α : Type} : ∀ (L : List α) (k : Nat) (x y : α), nth (L.set k x) k = some y → y = x
  | [], k, x, y, h => by cases h
  | a :: L, 0, x, y, h => (Option.some.inj h).symm
  | a :: L, k + 1, x, y, h => nth_self L k x y h
theorem nth_ne {α : Type} : ∀ (L : List α) (k i : Nat) (x : α), i ≠ k → nth (L.set k x) i = nth L i
  | [], k, i, x, h => rfl
  | a :: L, 0, 0, x, h => absurd rfl h
  | a :: L, 0, i + 1, x, h => rfl
  | a :: L, k + 1, 0, x, h => rfl
  | a :: L, k + 1, i + 1, x, h => nth_ne L k i x (fun e => h (by rw [e]))
theorem okS_prev {L : LV} {k i : Nat} {w : Value} (h : okS L k = true) (hi : i + 1 = k) (hw : nth L i = some (some w)) : ¬ w.category = 2 := by
  subst hi
  intro hc
  dsimp only [okS] at h
  rw [hw] at h
  simp [hc] at h
section LR
variable {B : Nat} {CS : Nat → Nat} {L : LV} {nL : Nat} {ls : Array Slot}
theorem lR.get (h : lR B CS L nL ls) {k : Nat} {v : Value} (hv : nth L k = some (some v)) : ∃ mv, ls[k]? = some (.val mv) ∧ vR B CS v mv := by
  obtain ⟨l, h1, h2⟩ := h
  obtain ⟨mv, h3, h4⟩ := h2 k v hv
  exact ⟨mv, h1.2.2 _ h3, h4⟩
theorem lR.set1 {l : List (Nat × Value)} {ls' : Array Slot} {k : Nat} {v mv : Value} (hl : ∀ i v, nth L i = some (some v) → ∃ mv, (i, mv) ∈ l ∧ vR B CS v mv) (hok : okS L k = true) (hv : vR B CS v mv)
    (h : lv_has ls' nL ((k, mv) :: l.filter (fun q => !(q.1 == k) && !(q.1 + 1 == k && q.2.category == 2)))) : lR B CS (L.set k (some v)) nL ls' := by
  refine ⟨_, h, fun i w hw => ?_⟩
  by_cases hi : i = k
  · subst hi
    cases nth_self _ _ _ _ hw
    exact ⟨mv, List.mem_cons_self, hv⟩
  · rw [nth_ne _ _ _ _ hi] at hw
    obtain ⟨mw, h3, h4⟩ := hl i w hw
    refine ⟨mw, List.mem_cons_of_mem _ (List.mem_filter.mpr ⟨h3, ?_⟩), h4⟩
    have hc := h4.cat
    by_cases hj : i + 1 = k
    · have h5 := okS_prev hok hj hw
      simp [hi, hc, h5]
    · simp [hi, hj]
theorem lR.none1 {l : List (Nat × Value)} {ls' : Array Slot} {k : Nat} {mv : Value} (hl : ∀ i v, nth L i = some (some v) → ∃ mv, (i, mv) ∈ l ∧ vR B CS v mv) (hok : okS L k = true)
    (h : lv_has ls' nL ((k, mv) :: l.filter (fun q => !(q.1 == k) && !(q.1 + 1 == k && q.2.category == 2)))) : lR B CS (L.set k none) nL ls' := by
  refine ⟨_, h, fun i w hw => ?_⟩
  by_cases hi : i = k
  · subst hi
    cases nth_self _ _ _ _ hw
  · rw [nth_ne _ _ _ _ hi] at hw
    obtain ⟨mw, h3, h4⟩ := hl i w hw
    refine ⟨mw, List.mem_cons_of_mem _ (List.mem_filter.mpr ⟨h3, ?_⟩), h4⟩
    have hc := h4.cat
    by_cases hj : i + 1 = k
    · have h5 := okS_prev hok hj hw
      simp [hi, hc, h5]
    · simp [hi, hj]
theorem lR.set2 {l : List (Nat × Value)} {ls' : Array Slot} {k : Nat} {v mv : Value} (hl : ∀ i v, nth L i = some (some v) → ∃ mv, (i, mv) ∈ l ∧ vR B CS v mv) (hok : okS L k = true) (hv : vR B CS v mv)
    (h : lv_has ls' nL ((k, mv) :: l.filter (fun q => !(q.1 == k) && (!(q.1 == k + 1) && !(q.1 + 1 == k && q.2.category == 2))))) : lR B CS ((L.set k (some v)).set (k + 1) none) nL ls' := by
  refine ⟨_, h, fun i w hw => ?_⟩
  by_cases h1 : i = k + 1
  · subst h1
    cases nth_self _ _ _ _ hw
  rw [nth_ne _ _ _ _ h1] at hw
  by_cases hi : i = k
  · subst hi
    cases nth_self _ _ _ _ hw
    exact ⟨mv, List.mem_cons_self, hv⟩
  · rw [nth_ne _ _ _ _ hi] at hw
    obtain ⟨mw, h3, h4⟩ := hl i w hw
    refine ⟨mw, List.mem_cons_of_mem _ (List.mem_filter.mpr ⟨h3, ?_⟩), h4⟩
    have hc := h4.cat
    by_cases hj : i + 1 = k
    · have h5 := okS_prev hok hj hw
      simp [hi, h1, hc, h5]
    · simp [hi, h1, hj]
end LR
def tyA (dA : Nat → ClassId) : List (ClassId × FieldType) := [(dA 1, .int), (dA 2, .long), (dA 3, .char), (dA 4, .byte), (dA 5, .double), (dA 6, .array .int), (dA 7, .object "LintelBrothers$Data")]
/-- texts of exceptions: class, place in its pool, text -/
def msgT : List (String × Nat × String) := [("LintelBrothers", 86, "there is no room for a further door"), ("LintelBrothers", 105, "no height is left"), ("LintelBrothers", 150, "no such kind, a gap out of range, or the same door twice"), ("LintelBrothers", 157, "there is no room for this constraint, or it is there"), ("LintelBrothers", 170, "no such position"), ("LintelBrothers", 198, "there is a conflict in the pass"), ("LintelBrothers", 203, "there is a conflict in a pass"), ("LintelBrothers", 208, "a pass would be rejected"), ("LintelBrothers", 214, "settle would be rejected"), ("LintelBrothers", 220, "a path leads above a high bound"), ("LintelBrothers", 234, "there is no peace"), ("LintelBrothers", 242, "a height is out of range"), ("LintelBrothers", 263, "there are no doors"), ("LintelBrothers", 298, "no character at this index"), ("LintelBrothers", 305, "the code of the character is out of range"), ("LintelBrothers", 312, "the input is full"), ("LintelBrothers", 321, "the input has a syntax error"), ("LintelBrothers", 330, "a command fails"), ("LintelBrothers", 341, "a command is rejected"), ("LintelBrothers", 343, "there was no syntax error"), ("LintelBrothers", 345, "no call was rejected"), ("LintelBrothers", 350, "the latest rejection is not one of a command"), ("LintelBrothers", 353, "there is no change to undo"), ("LintelBrothers", 364, "there is no snapshot"), ("LintelBrothers", 372, "no such door"), ("LintelBrothers", 377, "no constraint with this id")]
/-- texts that are used as texts: class, place, text, which constant -/
def strT : List (String × Nat × String × Nat) := [("LintelBrothers", 285, "..", 0), ("LintelBrothers$Script", 54, "drop N", 1), ("LintelBrothers$Script", 60, "door N-N", 2), ("LintelBrothers$Script", 62, "frame D N-N", 3), ("LintelBrothers$Script", 64, "narrow D N-N", 4), ("LintelBrothers$Script", 66, "pass", 5), ("LintelBrothers$Script", 68, "settle", 6), ("LintelBrothers$Script", 70, "reset", 7), ("LintelBrothers$Script", 72, "DKD+N", 8)]
def exN (n : Nat) : String := match n with
  | 0 => "java/lang/IllegalArgumentException"
  | 1 => "java/lang/UnsupportedOperationException"
  | 2 => "java/lang/IndexOutOfBoundsException"
  | 3 => "java/util/NoSuchElementException"
  | 4 => "java/lang/IllegalStateException"
  | _ => "java/lang/ArithmeticException"
/-- statics: class, name, descriptor, which constant -/
def SF (B : Nat) (Hb : Heap) (CS : Nat → Nat) (s : State) : Prop :=
  (∀ q ∈ msgT, ∃ sa, vk_R q.1 q.2.1 q.2.2 sa s) ∧ (∀ q ∈ strT, vk_R q.1 q.2.1 q.2.2.1 (CS q.2.2.2) s) ∧
  vx_Zq Bundle.tN "UNASSIGNED_STACK" Bundle.steD (fun q => B ≤ q) s Hb ∧ vx_Zq Bundle.tN "SUPPRESSED_SENTINEL" Bundle.listD (fun q => B ≤ q) s Hb ∧
  va_Z "java/lang/String" "COMPACT_STRINGS" "Z" (.int 1) (fun q => B ≤ q) s Hb ∧ va_Z "java/lang/Integer" "DigitTens" "[B" (.ref (CS 18)) (fun q => B ≤ q) s Hb ∧ va_Z "java/lang/Integer" "DigitOnes" "[B" (.ref (CS 19)) (fun q => B ≤ q) s Hb ∧ (∀ a b, a < 6 → b < 6 → a ≠ b → va_Nc (exN a) (exN b) s)
theorem SF.warm {B : Nat} {Hb : Heap} {CS : Nat → Nat} {s U : State} (hW : s.WarmedH U.vm) (h : SF B Hb CS s) : SF B Hb CS U := by
  obtain ⟨h1, h2, h3, h4, h5, h6, h7, h8⟩ := h
  exact ⟨fun q hq => by obtain ⟨sa, h⟩ := h1 q hq; exact ⟨sa, vk_R.warm hW h⟩, fun q hq => vk_R.warm hW (h2 q hq), vx_Zq.moved hW.alike h3, vx_Zq.moved hW.alike h4, va_Z.moved hW.alike h5, va_Z.moved hW.alike h6, va_Z.moved hW.alike h7, fun a b ha hb hab => (h8 a b ha hb hab).moved hW.alike⟩
/-- what a state's tables give -/
def Cx (l : Launch) (B : Nat) (Hb : Heap) (CS : Nat → Nat) (dC : Nat → ClassId) (dI : Nat → Nat → Nat) (dA : Nat → ClassId) (s : State) : Prop :=
  l.stackTraces = false ∧ WD s ∧ va_K (dC, dI) wcl (tyA dA) s ∧ SF B Hb CS s
theorem Cx.warm {l : Launch} {B : Nat} {Hb : Heap} {CS : Nat → Nat} {dC : Nat → ClassId} {dI : Nat → Nat → Nat} {dA : Nat → ClassId} {s U : State} (hW : s.WarmedH U.vm) (h : Cx l B Hb CS dC dI dA s) : Cx l B Hb CS dC dI dA U :=
  ⟨h.1, h.2.1.warm hW, va_K.moved hW.alike h.2.2.1, h.2.2.2.warm hW⟩
/-- a method's frame -/
def Fr (p : Program) (l : Launch) (s : State) (m : MethodId) (meth : Method) (c : Code) (own : String) (cc : ByteArray) (nL : Nat) (rt : Option FieldType) (ini : Bool) (hh : List (Nat × Nat × Nat × Nat)) (n0 : Nat) (B : Nat) (Hb : Heap) (CS : Nat → Nat) (dC : Nat → ClassId) (dI : Nat → Nat → Nat) (dA : Nat → ClassId) : Prop :=
  p.tables.exec = Jvm.exec ∧ c.code = cc ∧ c.maxLocals = nL ∧ meth.locks = false ∧ s.vm.findClass own = some m.cls ∧ meth.sig.returnType = rt ∧ (ini = true → meth.name = "<init>") ∧ c.exceptionTable.toList.map (fun x => (x.startPc, x.endPc, x.handlerPc, x.catchType)) = hh ∧ s.heap.size = B + n0 ∧ (∀ q : Nat, q < B → s.heap[q]? = Hb[q]?) ∧ Cx l B Hb CS dC dI dA s
def FRd (d : Nat) : Nat := d + 30
def LRd (d : Nat) : Nat := 64 * d + 800
def Bd (d : Nat) (R : Room) (mc ms : Nat) : Prop := FRd d ≤ R.frames ∧ LRd d ≤ R.locals ∧ mc ≤ R.cells ∧ ms ≤ R.slots
/-- how a method ends -/
def QO (B : Nat) (Hb : Heap) (CS : Nat → Nat) (dC : Nat → ClassId) (dI : Nat → Nat → Nat) (dA : Nat → ClassId) (o : Out) (A' : HP) : Array Value → State → Outcome → State → Prop := fun _ _ oc t => ∃ r : Option Value, o = .inl r ∧ oc = .returned (r.map (lvA B CS)) ∧ Rel B Hb CS dC dI dA A' t.heap
def XO (B : Nat) (Hb : Heap) (CS : Nat → Nat) (dC : Nat → ClassId) (dI : Nat → Nat → Nat) (dA : Nat → ClassId) (o : Out) (A' : HP) : String → State → State → Prop := fun E _ t => ∃ n : Nat, o = .inr n ∧ E = exN n ∧ Rel B Hb CS dC dI dA A' t.heap
def Cfg (p : Program) (l : Launch) (e : Env) (R : Room) (s : State) (m : MethodId) (args : Array Value) (below : List Frame) (meth : Method) (c : Code) (B : Nat) (Hb : Heap) (CS : Nat → Nat) (dC : Nat → ClassId) (dI : Nat → Nat → Nat) (dA : Nat → ClassId) (nL n0 w0 : Nat) (Q : State → Prop) (pc : Nat) (L : LV) (st : List Value) (A : HP) : Prop :=
  ∀ (H : Heap) (locs : List Loc) (ls : Array Slot) (ms : List Value), Rel B Hb CS dC dI dA A H → (∀ z ∈ locs, B ≤ z.base) → lR B CS L nL ls → stR B CS st ms → W p l e R s m args below meth c H locs (hn A - n0) (hw A - w0) Q (F0 m pc ls ms)
/-- a run from a place to the end o, A' -/
def Inn (own : String) (cc : ByteArray) (nL : Nat) (rt : Option FieldType) (ini : Bool) (hh : List (Nat × Nat × Nat × Nat)) (d n0 w0 : Nat) (o : Out) (A' : HP) (pc : Nat) (L : LV) (st : List Value) (A : HP) : Prop :=
  ∀ (p : Program) (l : Launch) (e : Env) (R : Room) (s : State) (m : MethodId) (args : Array Value) (below : List Frame) (meth : Method) (c : Code) (B : Nat) (Hb : Heap) (CS : Nat → Nat) (dC : Nat → ClassId) (dI : Nat → Nat → Nat) (dA : Nat → ClassId),
    Fr p l s m meth c own cc nL rt ini hh n0 B Hb CS dC dI dA → Bd d R (hn A' - n0) (hw A' - w0) → hn A' < BIG →
    Cfg p l e R s m args below meth c B Hb CS dC dI dA nL n0 w0 (vx_MQ below (QO B Hb CS dC dI dA o A') (XO B Hb CS dC dI dA o A') args s (hn A' - n0) (hw A' - w0) (fun q => B ≤ q)) pc L st A
section IN
variable {own : String} {cc : ByteArray} {nL : Nat} {rt : Option FieldType} {ini : Bool} {hh : List (Nat × Nat × Nat × Nat)} {d n0 w0 : Nat} {o : Out} {A A' : HP} {pc : Nat} {L : LV} {st : List Value}
theorem in_stk {i : Instr} {cst : Int32} {x : List Nat} {st' : List Value} (hd : decode cc pc = .ok (i, lenI i)) (hf : ∀ (B : Nat) (Hb : Heap) (CS : Nat → Nat) (s : State), WD s → SF B Hb CS s → skF own B Hb CS s i cst x) (h : stkI i cst x st = some st') (K : Inn own cc nL rt ini hh d n0 w0 o A' (pc + lenI i) L st' A) : Inn own cc nL rt ini hh d n0 w0 o A' pc L st A := by
  intro p l e R s m args below meth c B Hb CS dC dI dA F hR hB H locs ls ms hr hlo hL hst
  obtain ⟨hx, hb, hml, hlk, hown, hrt, hini, hT, hs0, hlw, hC⟩ := id F
  obtain ⟨ms', h1, h2⟩ := sk_ok (p := p) (l := l) (e := e) (R := R) (s := s) (m := m) (args := args) (below := below) (meth := meth) (c := c) (H := H) (locs := locs) (cells := hn A - n0) (slots := hw A - w0) (Q := vx_MQ below (QO B Hb CS dC dI dA o A') (XO B Hb CS dC dI dA o A') args s (hn A' - n0) (hw A' - w0) (fun q => B ≤ q)) (ls := ls) hx hb hown hr.1 hr.2.2.2.1 hd (hf B Hb CS s hC.2.1 hC.2.2.2) h hst
  exact h2 (K p l e R s m args below meth c B Hb CS dC dI dA F hR hB H locs ls ms' hr hlo hL h1)
theorem in_iload {k : Nat} {v : Int32} (hd : decode cc pc = .ok (.iload k, 2)) (h : nth L k = some (some (.int v))) (K : Inn own cc nL rt ini hh d n0 w0 o A' (pc + 2) L (.int v :: st) A) : Inn own cc nL rt ini hh d n0 w0 o A' pc L st A := by
  intro p l e R s m args below meth c B Hb CS dC dI dA F hR hB H locs ls ms hr hlo hL hst
  obtain ⟨hx, hb, hml, hlk, hown, hrt, hini, hT, hs0, hlw, hC⟩ := id F
  obtain ⟨mv, h1, h2⟩ := hL.get h
  exact lv_iload hx hb hd (by rw [h1, show mv = _ from h2]; rfl) (K p l e R s m args below meth c B Hb CS dC dI dA F hR hB H locs ls (_ :: ms) hr hlo hL (stR.cons rfl hst))
theorem in_iload_n {k : Fin 4} {v : Int32} (hd : decode cc pc = .ok (.iload_n k, 1)) (h : nth L (k : Nat) = some (some (.int v))) (K : Inn own cc nL rt ini hh d n0 w0 o A' (pc + 1) L (.int v :: st) A) : Inn own cc nL rt ini hh d n0 w0 o A' pc L st A := by
  intro p l e R s m args below meth c B Hb CS dC dI dA F hR hB H locs ls ms hr hlo hL hst
  obtain ⟨hx, hb, hml, hlk, hown, hrt, hini, hT, hs0, hlw, hC⟩ := id F
  obtain ⟨mv, h1, h2⟩ := hL.get h
  exact lv_iload_n hx hb hd rfl (by rw [h1, show mv = _ from h2]; rfl) (K p l e R s m args below meth c B Hb CS dC dI dA F hR hB H locs ls (_ :: ms) hr hlo hL (stR.cons rfl hst))
theorem in_lload {k : Nat} {v : Int64} (hd : decode cc pc = .ok (.lload k, 2)) (h : nth L k = some (some (.long v))) (K : Inn own cc nL rt ini hh d n0 w0 o A' (pc + 2) L (.long v :: st) A) : Inn own cc nL rt ini hh d n0 w0 o A' pc L st A := by
  intro p l e R s m args below meth c B Hb CS dC dI dA F hR hB H locs ls ms hr hlo hL hst
  obtain ⟨hx, hb, hml, hlk, hown, hrt, hini, hT, hs0, hlw, hC⟩ := id F
  obtain ⟨mv, h1, h2⟩ := hL.get h
  exact lv_lload hx hb hd (by rw [h1, show mv = _ from h2]; rfl) (K p l e R s m args below meth c B Hb CS dC dI dA F hR hB H locs ls (_ :: ms) hr hlo hL (stR.cons rfl hst))
theorem in_lload_n {k : Fin 4} {v : Int64} (hd : decode cc pc = .ok (.lload_n k, 1)) (h : nth L (k : Nat) = some (some (.long v))) (K : Inn own cc nL rt ini hh d n0 w0 o A' (pc + 1) L (.long v :: st) A) : Inn own cc nL rt ini hh d n0 w0 o A' pc L st A := by
  intro p l e R s m args below meth c B Hb CS dC dI dA F hR hB H locs ls ms hr hlo hL hst
  obtain ⟨hx, hb, hml, hlk, hown, hrt, hini, hT, hs0, hlw, hC⟩ := id F
  obtain ⟨mv, h1, h2⟩ := hL.get h
  exact lv_lload_n hx hb hd rfl (by rw [h1, show mv = _ from h2]; rfl) (K p l e R s m args below meth c B Hb CS dC dI dA F hR hB H locs ls (_ :: ms) hr hlo hL (stR.cons rfl hst))
theorem in_aload {k : Nat} {v : Nat} (hd : decode cc pc = .ok (.aload k, 2)) (h : nth L k = some (some (.ref v))) (K : Inn own cc nL rt ini hh d n0 w0 o A' (pc + 2) L (.ref v :: st) A) : Inn own cc nL rt ini hh d n0 w0 o A' pc L st A := by
  intro p l e R s m args below meth c B Hb CS dC dI dA F hR hB H locs ls ms hr hlo hL hst
  obtain ⟨hx, hb, hml, hlk, hown, hrt, hini, hT, hs0, hlw, hC⟩ := id F
  obtain ⟨mv, h1, h2⟩ := hL.get h
  exact lv_aload hx hb hd (by rw [h1, show mv = _ from h2]; rfl) (K p l e R s m args below meth c B Hb CS dC dI dA F hR hB H locs ls (_ :: ms) hr hlo hL (stR.cons rfl hst))
theorem in_aloadN {k : Nat} (hd : decode cc pc = .ok (.aload k, 2)) (h : nth L k = some (some .null)) (K : Inn own cc nL rt ini hh d n0 w0 o A' (pc + 2) L (.null :: st) A) : Inn own cc nL rt ini hh d n0 w0 o A' pc L st A := by
  intro p l e R s m args below meth c B Hb CS dC dI dA F hR hB H locs ls ms hr hlo hL hst
  obtain ⟨hx, hb, hml, hlk, hown, hrt, hini, hT, hs0, hlw, hC⟩ := id F
  obtain ⟨mv, h1, h2⟩ := hL.get h
  exact lv_aloadN hx hb hd (by rw [h1, show mv = _ from h2]; rfl) (K p l e R s m args below meth c B Hb CS dC dI dA F hR hB H locs ls (_ :: ms) hr hlo hL (stR.cons rfl hst))
theorem in_aload_n {k : Fin 4} {v : Nat} (hd : decode cc pc = .ok (.aload_n k, 1)) (h : nth L (k : Nat) = some (some (.ref v))) (K : Inn own cc nL rt ini hh d n0 w0 o A' (pc + 1) L (.ref v :: st) A) : Inn own cc nL rt ini hh d n0 w0 o A' pc L st A := by
  intro p l e R s m args below meth c B Hb CS dC dI dA F hR hB H locs ls ms hr hlo hL hst
  obtain ⟨hx, hb, hml, hlk, hown, hrt, hini, hT, hs0, hlw, hC⟩ := id F
  obtain ⟨mv, h1, h2⟩ := hL.get h
  exact lv_aload_n hx hb hd rfl (by rw [h1, show mv = _ from h2]; rfl) (K p l e R s m args below meth c B Hb CS dC dI dA F hR hB H locs ls (_ :: ms) hr hlo hL (stR.cons rfl hst))
theorem in_aload_nN {k : Fin 4} (hd : decode cc pc = .ok (.aload_n k, 1)) (h : nth L (k : Nat) = some (some .null)) (K : Inn own cc nL rt ini hh d n0 w0 o A' (pc + 1) L (.null :: st) A) : Inn own cc nL rt ini hh d n0 w0 o A' pc L st A := by
  intro p l e R s m args below meth c B Hb CS dC dI dA F hR hB H locs ls ms hr hlo hL hst
  obtain ⟨hx, hb, hml, hlk, hown, hrt, hini, hT, hs0, hlw, hC⟩ := id F
  obtain ⟨mv, h1, h2⟩ := hL.get h
  exact lv_aload_nN hx hb hd rfl (by rw [h1, show mv = _ from h2]; rfl) (K p l e R s m args below meth c B Hb CS dC dI dA F hR hB H locs ls (_ :: ms) hr hlo hL (stR.cons rfl hst))
theorem in_dload {k : Nat} {v : UInt64} (hd : decode cc pc = .ok (.dload k, 2)) (h : nth L k = some (some (.double v))) (K : Inn own cc nL rt ini hh d n0 w0 o A' (pc + 2) L (.double v :: st) A) : Inn own cc nL rt ini hh d n0 w0 o A' pc L st A := by
  intro p l e R s m args below meth c B Hb CS dC dI dA F hR hB H locs ls ms hr hlo hL hst
  obtain ⟨hx, hb, hml, hlk, hown, hrt, hini, hT, hs0, hlw, hC⟩ := id F
  obtain ⟨mv, h1, h2⟩ := hL.get h
  exact lv_dload hx hb hd (by rw [h1, show mv = _ from h2]; rfl) (K p l e R s m args below meth c B Hb CS dC dI dA F hR hB H locs ls (_ :: ms) hr hlo hL (stR.cons rfl hst))
theorem in_fload {k : Nat} {v : UInt32} (hd : decode cc pc = .ok (.fload k, 2)) (h : nth L k = some (some (.float v))) (K : Inn own cc nL rt ini hh d n0 w0 o A' (pc + 2) L (.float v :: st) A) : Inn own cc nL rt ini hh d n0 w0 o A' pc L st A := by
  intro p l e R s m args below meth c B Hb CS dC dI dA F hR hB H locs ls ms hr hlo hL hst
  obtain ⟨hx, hb, hml, hlk, hown, hrt, hini, hT, hs0, hlw, hC⟩ := id F
  obtain ⟨mv, h1, h2⟩ := hL.get h
  exact lv_fload hx hb hd (by rw [h1, show mv = _ from h2]; rfl) (K p l e R s m args below meth c B Hb CS dC dI dA F hR hB H locs ls (_ :: ms) hr hlo hL (stR.cons rfl hst))
theorem in_istore {k : Nat} {v : Int32} (hd : decode cc pc = .ok (.istore k, 2)) (hk : k < nL) (hok : okS L k = true) (K : Inn own cc nL rt ini hh d n0 w0 o A' (pc + 2) (L.set k (some (.int v))) st A) : Inn own cc nL rt ini hh d n0 w0 o A' pc L (.int v :: st) A := by
  intro p l e R s m args below meth c B Hb CS dC dI dA F hR hB H locs ls ms hr hlo hL hst
  obtain ⟨hx, hb, hml, hlk, hown, hrt, hini, hT, hs0, hlw, hC⟩ := id F
  obtain ⟨mv, r, rfl, h1, hst⟩ := hst
  cases (show mv = _ from h1)
  obtain ⟨lv, hl1, hl2⟩ := hL
  exact lv_istore hx hb hd hl1 hk rfl (fun ls' hl' => (K p l e R s m args below meth c B Hb CS dC dI dA F hR hB H locs ls' r hr hlo (lR.set1 hl2 hok rfl hl') hst))
theorem in_istore_n {k : Fin 4} {v : Int32} (hd : decode cc pc = .ok (.istore_n k, 1)) (hk : (k : Nat) < nL) (hok : okS L (k : Nat) = true) (K : Inn own cc nL rt ini hh d n0 w0 o A' (pc + 1) (L.set (k : Nat) (some (.int v))) st A) : Inn own cc nL rt ini hh d n0 w0 o A' pc L (.int v :: st) A := by
  intro p l e R s m args below meth c B Hb CS dC dI dA F hR hB H locs ls ms hr hlo hL hst
  obtain ⟨hx, hb, hml, hlk, hown, hrt, hini, hT, hs0, hlw, hC⟩ := id F
  obtain ⟨mv, r, rfl, h1, hst⟩ := hst
  cases (show mv = _ from h1)
  obtain ⟨lv, hl1, hl2⟩ := hL
  exact lv_istore_n hx hb hd rfl hl1 hk rfl (fun ls' hl' => (K p l e R s m args below meth c B Hb CS dC dI dA F hR hB H locs ls' r hr hlo (lR.set1 hl2 hok rfl hl') hst))
theorem in_astore {k : Nat} {v : Nat} (hd : decode cc pc = .ok (.astore k, 2)) (hk : k < nL) (hok : okS L k = true) (K : Inn own cc nL rt ini hh d n0 w0 o A' (pc + 2) (L.set k (some (.ref v))) st A) : Inn own cc nL rt ini hh d n0 w0 o A' pc L (.ref v :: st) A := by
  intro p l e R s m args below meth c B Hb CS dC dI dA F hR hB H locs ls ms hr hlo hL hst
  obtain ⟨hx, hb, hml, hlk, hown, hrt, hini, hT, hs0, hlw, hC⟩ := id F
  obtain ⟨mv, r, rfl, h1, hst⟩ := hst
  cases (show mv = _ from h1)
  obtain ⟨lv, hl1, hl2⟩ := hL
  exact lv_astore hx hb hd hl1 hk rfl (fun ls' hl' => (K p l e R s m args below meth c B Hb CS dC dI dA F hR hB H locs ls' r hr hlo (lR.set1 hl2 hok rfl hl') hst))
theorem in_astoreJ {k : Nat} {v : Nat} (hd : decode cc pc = .ok (.astore k, 2)) (hk : k < nL) (hok : okS L k = true) (K : Inn own cc nL rt ini hh d n0 w0 o A' (pc + 2) (L.set k none) st A) : Inn own cc nL rt ini hh d n0 w0 o A' pc L (.retAddr v :: st) A := by
  intro p l e R s m args below meth c B Hb CS dC dI dA F hR hB H locs ls ms hr hlo hL hst
  obtain ⟨hx, hb, hml, hlk, hown, hrt, hini, hT, hs0, hlw, hC⟩ := id F
  obtain ⟨mv, r, rfl, ⟨q, rfl⟩, hst⟩ := hst
  obtain ⟨lv, hl1, hl2⟩ := hL
  exact lv_astore hx hb hd hl1 hk rfl (fun ls' hl' => (K p l e R s m args below meth c B Hb CS dC dI dA F hR hB H locs ls' r hr hlo (lR.none1 hl2 hok hl') hst))
theorem in_astore_n {k : Fin 4} {v : Nat} (hd : decode cc pc = .ok (.astore_n k, 1)) (hk : (k : Nat) < nL) (hok : okS L (k : Nat) = true) (K : Inn own cc nL rt ini hh d n0 w0 o A' (pc + 1) (L.set (k : Nat) (some (.ref v))) st A) : Inn own cc nL rt ini hh d n0 w0 o A' pc L (.ref v :: st) A := by
  intro p l e R s m args below meth c B Hb CS dC dI dA F hR hB H locs ls ms hr hlo hL hst
  obtain ⟨hx, hb, hml, hlk, hown, hrt, hini, hT, hs0, hlw, hC⟩ := id F
  obtain ⟨mv, r, rfl, h1, hst⟩ := hst
  cases (show mv = _ from h1)
  obtain ⟨lv, hl1, hl2⟩ := hL
  exact lv_astore_n hx hb hd rfl hl1 hk rfl (fun ls' hl' => (K p l e R s m args below meth c B Hb CS dC dI dA F hR hB H locs ls' r hr hlo (lR.set1 hl2 hok rfl hl') hst))
theorem in_astore_nJ {k : Fin 4} {v : Nat} (hd : decode cc pc = .ok (.astore_n k, 1)) (hk : (k : Nat) < nL) (hok : okS L (k : Nat) = true) (K : Inn own cc nL rt ini hh d n0 w0 o A' (pc + 1) (L.set (k : Nat) none) st A) : Inn own cc nL rt ini hh d n0 w0 o A' pc L (.retAddr v :: st) A := by
  intro p l e R s m args below meth c B Hb CS dC dI dA F hR hB H locs ls ms hr hlo hL hst
  obtain ⟨hx, hb, hml, hlk, hown, hrt, hini, hT, hs0, hlw, hC⟩ := id F
  obtain ⟨mv, r, rfl, ⟨q, rfl⟩, hst⟩ := hst
  obtain ⟨lv, hl1, hl2⟩ := hL
  exact lv_astore_n hx hb hd rfl hl1 hk rfl (fun ls' hl' => (K p l e R s m args below meth c B Hb CS dC dI dA F hR hB H locs ls' r hr hlo (lR.none1 hl2 hok hl') hst))
theorem in_lstore {k : Nat} {v : Int64} (hd : decode cc pc = .ok (.lstore k, 2)) (hk : k + 1 < nL) (hok : okS L k = true) (K : Inn own cc nL rt ini hh d n0 w0 o A' (pc + 2) ((L.set k (some (.long v))).set (k + 1) none) st A) : Inn own cc nL rt ini hh d n0 w0 o A' pc L (.long v :: st) A := by
  intro p l e R s m args below meth c B Hb CS dC dI dA F hR hB H locs ls ms hr hlo hL hst
  obtain ⟨hx, hb, hml, hlk, hown, hrt, hini, hT, hs0, hlw, hC⟩ := id F
  obtain ⟨mv, r, rfl, h1, hst⟩ := hst
  cases (show mv = _ from h1)
  obtain ⟨lv, hl1, hl2⟩ := hL
  exact lv_lstore hx hb hd hl1 hk rfl (fun ls' hl' => (K p l e R s m args below meth c B Hb CS dC dI dA F hR hB H locs ls' r hr hlo (lR.set2 hl2 hok rfl hl') hst))
theorem in_lstore_n {k : Fin 4} {v : Int64} (hd : decode cc pc = .ok (.lstore_n k, 1)) (hk : (k : Nat) + 1 < nL) (hok : okS L (k : Nat) = true) (K : Inn own cc nL rt ini hh d n0 w0 o A' (pc + 1) ((L.set (k : Nat) (some (.long v))).set ((k : Nat) + 1) none) st A) : Inn own cc nL rt ini hh d n0 w0 o A' pc L (.long v :: st) A := by
  intro p l e R s m args below meth c B Hb CS dC dI dA F hR hB H locs ls ms hr hlo hL hst
  obtain ⟨hx, hb, hml, hlk, hown, hrt, hini, hT, hs0, hlw, hC⟩ := id F
  obtain ⟨mv, r, rfl, h1, hst⟩ := hst
  cases (show mv = _ from h1)
  obtain ⟨lv, hl1, hl2⟩ := hL
  exact lv_lstore_n hx hb hd rfl hl1 hk rfl (fun ls' hl' => (K p l e R s m args below meth c B Hb CS dC dI dA F hR hB H locs ls' r hr hlo (lR.set2 hl2 hok rfl hl') hst))
theorem in_fstore {k : Nat} {v : UInt32} (hd : decode cc pc = .ok (.fstore k, 2)) (hk : k < nL) (hok : okS L k = true) (K : Inn own cc nL rt ini hh d n0 w0 o A' (pc + 2) (L.set k (some (.float v))) st A) : Inn own cc nL rt ini hh d n0 w0 o A' pc L (.float v :: st) A := by
  intro p l e R s m args below meth c B Hb CS dC dI dA F hR hB H locs ls ms hr hlo hL hst
  obtain ⟨hx, hb, hml, hlk, hown, hrt, hini, hT, hs0, hlw, hC⟩ := id F
  obtain ⟨mv, r, rfl, h1, hst⟩ := hst
  cases (show mv = _ from h1)
  obtain ⟨lv, hl1, hl2⟩ := hL
  exact lv_fstore hx hb hd hl1 hk rfl (fun ls' hl' => (K p l e R s m args below meth c B Hb CS dC dI dA F hR hB H locs ls' r hr hlo (lR.set1 hl2 hok rfl hl') hst))
theorem in_dstore {k : Nat} {v : UInt64} (hd : decode cc pc = .ok (.dstore k, 2)) (hk : k + 1 < nL) (hok : okS L k = true) (K : Inn own cc nL rt ini hh d n0 w0 o A' (pc + 2) ((L.set k (some (.double v))).set (k + 1) none) st A) : Inn own cc nL rt ini hh d n0 w0 o A' pc L (.double v :: st) A := by
  intro p l e R s m args below meth c B Hb CS dC dI dA F hR hB H locs ls ms hr hlo hL hst
  obtain ⟨hx, hb, hml, hlk, hown, hrt, hini, hT, hs0, hlw, hC⟩ := id F
  obtain ⟨mv, r, rfl, h1, hst⟩ := hst
  cases (show mv = _ from h1)
  obtain ⟨lv, hl1, hl2⟩ := hL
  exact lv_dstore hx hb hd hl1 hk rfl (fun ls' hl' => (K p l e R s m args below meth c B Hb CS dC dI dA F hR hB H locs ls' r hr hlo (lR.set2 hl2 hok rfl hl') hst))
theorem in_iinc {k : Nat} {n : Int} {v cst : Int32} (hd : decode cc pc = .ok (.iinc k n, 3)) (hc : Int32.ofInt n = cst) (hk : k < nL) (hok : okS L k = true) (h : nth L k = some (some (.int v))) (K : Inn own cc nL rt ini hh d n0 w0 o A' (pc + 3) (L.set k (some (.int (v + cst)))) st A) : Inn own cc nL rt ini hh d n0 w0 o A' pc L st A := by
  intro p l e R s m args below meth c B Hb CS dC dI dA F hR hB H locs ls ms hr hlo hL hst
  obtain ⟨hx, hb, hml, hlk, hown, hrt, hini, hT, hs0, hlw, hC⟩ := id F
  obtain ⟨lv, hl1, hl2⟩ := hL
  obtain ⟨mv, h1, h2⟩ := hl2 k _ h
  cases (show mv = _ from h2)
  obtain ⟨j, hj⟩ := List.getElem?_of_mem h1
  exact lv_iinc hx hb hd hl1 hj (by rw [hc]) hk rfl (fun ls' hl' => (K p l e R s m args below meth c B Hb CS dC dI dA F hR hB H locs ls' ms hr hlo (lR.set1 hl2 hok rfl hl') hst))
theorem in_goto {off : Int} {t : Nat} (hd : decode cc pc = .ok (.goto off, 3)) (ht : (pc : Int) + off = (t : Int)) (K : Inn own cc nL rt ini hh d n0 w0 o A' t L st A) : Inn own cc nL rt ini hh d n0 w0 o A' pc L st A := by
  intro p l e R s m args below meth c B Hb CS dC dI dA F hR hB H locs ls ms hr hlo hL hst
  obtain ⟨hx, hb, hml, hlk, hown, hrt, hini, hT, hs0, hlw, hC⟩ := id F
  exact lv_goto hx hb hd ht (K p l e R s m args below meth c B Hb CS dC dI dA F hR hB H locs ls ms hr hlo hL hst)
theorem in_if {cd : ClassFile.Cond} {off : Int} {t : Nat} {v : Int32} (hd : decode cc pc = .ok (.ifCond cd off, 3)) (ht : (pc : Int) + off = (t : Int)) (K1 : cmpP cd v 0 → Inn own cc nL rt ini hh d n0 w0 o A' t L st A) (K2 : ¬ cmpP cd v 0 → Inn own cc nL rt ini hh d n0 w0 o A' (pc + 3) L st A) : Inn own cc nL rt ini hh d n0 w0 o A' pc L (.int v :: st) A := by
  intro p l e R s m args below meth c B Hb CS dC dI dA F hR hB H locs ls ms hr hlo hL hst
  obtain ⟨hx, hb, hml, hlk, hown, hrt, hini, hT, hs0, hlw, hC⟩ := id F
  obtain ⟨mv, r, rfl, h1, hst⟩ := hst
  cases (show mv = _ from h1)
  cases cd with
  | eq => exact lv_if_eq hx hb hd ht (fun q => (K1 q p l e R s m args below meth c B Hb CS dC dI dA F hR hB H locs ls r hr hlo hL hst)) (fun q => (K2 q p l e R s m args below meth c B Hb CS dC dI dA F hR hB H locs ls r hr hlo hL hst))
  | ne => exact lv_if_ne hx hb hd ht (fun q => (K1 q p l e R s m args below meth c B Hb CS dC dI dA F hR hB H locs ls r hr hlo hL hst)) (fun q => (K2 (fun z => z q) p l e R s m args below meth c B Hb CS dC dI dA F hR hB H locs ls r hr hlo hL hst))
  | lt => exact lv_if_lt hx hb hd ht (fun q => (K1 q p l e R s m args below meth c B Hb CS dC dI dA F hR hB H locs ls r hr hlo hL hst)) (fun q => (K2 q p l e R s m args below meth c B Hb CS dC dI dA F hR hB H locs ls r hr hlo hL hst))
  | ge => exact lv_if_ge hx hb hd ht (fun q => (K1 q p l e R s m args below meth c B Hb CS dC dI dA F hR hB H locs ls r hr hlo hL hst)) (fun q => (K2 q p l e R s m args below meth c B Hb CS dC dI dA F hR hB H locs ls r hr hlo hL hst))
  | gt => exact lv_if_gt hx hb hd ht (fun q => (K1 q p l e R s m args below meth c B Hb CS dC dI dA F hR hB H locs ls r hr hlo hL hst)) (fun q => (K2 q p l e R s m args below meth c B Hb CS dC dI dA F hR hB H locs ls r hr hlo hL hst))
  | le => exact lv_if_le hx hb hd ht (fun q => (K1 q p l e R s m args below meth c B Hb CS dC dI dA F hR hB H locs ls r hr hlo hL hst)) (fun q => (K2 q p l e R s m args below meth c B Hb CS dC dI dA F hR hB H locs ls r hr hlo hL hst))
theorem in_icmp {cd : ClassFile.Cond} {off : Int} {t : Nat} {v w : Int32} (hd : decode cc pc = .ok (.if_icmp cd off, 3)) (ht : (pc : Int) + off = (t : Int)) (K1 : cmpP cd v w → Inn own cc nL rt ini hh d n0 w0 o A' t L st A) (K2 : ¬ cmpP cd v w → Inn own cc nL rt ini hh d n0 w0 o A' (pc + 3) L st A) : Inn own cc nL rt ini hh d n0 w0 o A' pc L (.int w :: .int v :: st) A := by
  intro p l e R s m args below meth c B Hb CS dC dI dA F hR hB H locs ls ms hr hlo hL hst
  obtain ⟨hx, hb, hml, hlk, hown, hrt, hini, hT, hs0, hlw, hC⟩ := id F
  obtain ⟨mv, r, rfl, h1, mw, r2, rfl, h2, hst⟩ := hst
  cases (show mv = _ from h1)
  cases (show mw = _ from h2)
  cases cd with
  | eq => exact lv_icmp_eq hx hb hd ht (fun q => (K1 q p l e R s m args below meth c B Hb CS dC dI dA F hR hB H locs ls r2 hr hlo hL hst)) (fun q => (K2 q p l e R s m args below meth c B Hb CS dC dI dA F hR hB H locs ls r2 hr hlo hL hst))
  | ne => exact lv_icmp_ne hx hb hd ht (fun q => (K1 q p l e R s m args below meth c B Hb CS dC dI dA F hR hB H locs ls r2 hr hlo hL hst)) (fun q => (K2 (fun z => z q) p l e R s m args below meth c B Hb CS dC dI dA F hR hB H locs ls r2 hr hlo hL hst))
  | lt => exact lv_icmp_lt hx hb hd ht (fun q => (K1 q p l e R s m args below meth c B Hb CS dC dI dA F hR hB H locs ls r2 hr hlo hL hst)) (fun q => (K2 q p l e R s m args below meth c B Hb CS dC dI dA F hR hB H locs ls r2 hr hlo hL hst))
  | ge => exact lv_icmp_ge hx hb hd ht (fun q => (K1 q p l e R s m args below meth c B Hb CS dC dI dA F hR hB H locs ls r2 hr hlo hL hst)) (fun q => (K2 q p l e R s m args below meth c B Hb CS dC dI dA F hR hB H locs ls r2 hr hlo hL hst))
  | gt => exact lv_icmp_gt hx hb hd ht (fun q => (K1 q p l e R s m args below meth c B Hb CS dC dI dA F hR hB H locs ls r2 hr hlo hL hst)) (fun q => (K2 q p l e R s m args below meth c B Hb CS dC dI dA F hR hB H locs ls r2 hr hlo hL hst))
  | le => exact lv_icmp_le hx hb hd ht (fun q => (K1 q p l e R s m args below meth c B Hb CS dC dI dA F hR hB H locs ls r2 hr hlo hL hst)) (fun q => (K2 q p l e R s m args below meth c B Hb CS dC dI dA F hR hB H locs ls r2 hr hlo hL hst))
theorem in_nonnull {off : Int} {t a : Nat} (hd : decode cc pc = .ok (.ifnonnull off, 3)) (ht : (pc : Int) + off = (t : Int)) (K : Inn own cc nL rt ini hh d n0 w0 o A' t L st A) : Inn own cc nL rt ini hh d n0 w0 o A' pc L (.ref a :: st) A := by
  intro p l e R s m args below meth c B Hb CS dC dI dA F hR hB H locs ls ms hr hlo hL hst
  obtain ⟨hx, hb, hml, hlk, hown, hrt, hini, hT, hs0, hlw, hC⟩ := id F
  obtain ⟨mv, r, rfl, h1, hst⟩ := hst
  cases (show mv = _ from h1)
  exact lv_ifnonnull hx hb hd ht (K p l e R s m args below meth c B Hb CS dC dI dA F hR hB H locs ls r hr hlo hL hst)
theorem in_null {off : Int} (hd : decode cc pc = .ok (.ifnonnull off, 3)) (K : Inn own cc nL rt ini hh d n0 w0 o A' (pc + 3) L st A) : Inn own cc nL rt ini hh d n0 w0 o A' pc L (.null :: st) A := by
  intro p l e R s m args below meth c B Hb CS dC dI dA F hR hB H locs ls ms hr hlo hL hst
  obtain ⟨hx, hb, hml, hlk, hown, hrt, hini, hT, hs0, hlw, hC⟩ := id F
  obtain ⟨mv, r, rfl, h1, hst⟩ := hst
  cases (show mv = _ from h1)
  exact lv_ifnonnullN hx hb hd (K p l e R s m args below meth c B Hb CS dC dI dA F hR hB H locs ls r hr hlo hL hst)
theorem in_idiv {v w : Int32} (hd : decode cc pc = .ok (.idiv, 1)) (hne : ¬ w = 0) (K : Inn own cc nL rt ini hh d n0 w0 o A' (pc + 1) L (.int (v / w) :: st) A) : Inn own cc nL rt ini hh d n0 w0 o A' pc L (.int w :: .int v :: st) A := by
  intro p l e R s m args below meth c B Hb CS dC dI dA F hR hB H locs ls ms hr hlo hL hst
  obtain ⟨hx, hb, hml, hlk, hown, hrt, hini, hT, hs0, hlw, hC⟩ := id F
  obtain ⟨mv, r, rfl, h1, mw, r2, rfl, h2, hst⟩ := hst
  cases (show mv = _ from h1)
  cases (show mw = _ from h2)
  exact lv_idiv hx hb hd hne (K p l e R s m args below meth c B Hb CS dC dI dA F hR hB H locs ls (_ :: r2) hr hlo hL (stR.cons rfl hst))
theorem in_irem {v w : Int32} (hd : decode cc pc = .ok (.irem, 1)) (hne : ¬ w = 0) (K : Inn own cc nL rt ini hh d n0 w0 o A' (pc + 1) L (.int (v - v / w * w) :: st) A) : Inn own cc nL rt ini hh d n0 w0 o A' pc L (.int w :: .int v :: st) A := by
  intro p l e R s m args below meth c B Hb CS dC dI dA F hR hB H locs ls ms hr hlo hL hst
  obtain ⟨hx, hb, hml, hlk, hown, hrt, hini, hT, hs0, hlw, hC⟩ := id F
  obtain ⟨mv, r, rfl, h1, mw, r2, rfl, h2, hst⟩ := hst
  cases (show mv = _ from h1)
  cases (show mw = _ from h2)
  exact lv_irem hx hb hd hne (K p l e R s m args below meth c B Hb CS dC dI dA F hR hB H locs ls (_ :: r2) hr hlo hL (stR.cons rfl hst))
theorem in_ddiv {v w : UInt64} (hd : decode cc pc = .ok (.ddiv, 1)) (hne : vf_n64 (FP.ddiv v w)) (K : Inn own cc nL rt ini hh d n0 w0 o A' (pc + 1) L (.double (FP.ddiv v w) :: st) A) : Inn own cc nL rt ini hh d n0 w0 o A' pc L (.double w :: .double v :: st) A := by
  intro p l e R s m args below meth c B Hb CS dC dI dA F hR hB H locs ls ms hr hlo hL hst
  obtain ⟨hx, hb, hml, hlk, hown, hrt, hini, hT, hs0, hlw, hC⟩ := id F
  obtain ⟨mv, r, rfl, h1, mw, r2, rfl, h2, hst⟩ := hst
  cases (show mv = _ from h1)
  cases (show mw = _ from h2)
  exact lv_ddiv hx hb hd hne (K p l e R s m args below meth c B Hb CS dC dI dA F hR hB H locs ls (_ :: r2) hr hlo hL (stR.cons rfl hst))
theorem in_fdiv {v w : UInt32} (hd : decode cc pc = .ok (.fdiv, 1)) (hne : vf_n32 (FP.fdiv v w)) (K : Inn own cc nL rt ini hh d n0 w0 o A' (pc + 1) L (.float (FP.fdiv v w) :: st) A) : Inn own cc nL rt ini hh d n0 w0 o A' pc L (.float w :: .float v :: st) A := by
  intro p l e R s m args below meth c B Hb CS dC dI dA F hR hB H locs ls ms hr hlo hL hst
  obtain ⟨hx, hb, hml, hlk, hown, hrt, hini, hT, hs0, hlw, hC⟩ := id F
  obtain ⟨mv, r, rfl, h1, mw, r2, rfl, h2, hst⟩ := hst
  cases (show mv = _ from h1)
  cases (show mw = _ from h2)
  exact lv_fdiv hx hb hd hne (K p l e R s m args below meth c B Hb CS dC dI dA F hR hB H locs ls (_ :: r2) hr hlo hL (stR.cons rfl hst))
theorem in_f2d {v : UInt32} (hd : decode cc pc = .ok (.f2d, 1)) (hne : vf_n64 (FP.f2d v)) (K : Inn own cc nL rt ini hh d n0 w0 o A' (pc + 1) L (.double (FP.f2d v) :: st) A) : Inn own cc nL rt ini hh d n0 w0 o A' pc L (.float v :: st) A := by
  intro p l e R s m args below meth c B Hb CS dC dI dA F hR hB H locs ls ms hr hlo hL hst
  obtain ⟨hx, hb, hml, hlk, hown, hrt, hini, hT, hs0, hlw, hC⟩ := id F
  obtain ⟨mv, r, rfl, h1, hst⟩ := hst
  cases (show mv = _ from h1)
  exact lv_f2d hx hb hd hne (K p l e R s m args below meth c B Hb CS dC dI dA F hR hB H locs ls (_ :: r) hr hlo hL (stR.cons rfl hst))
end IN
end
section
/-- the words of a class's fields -/
theorem wcl_ws : ∀ q ∈ wcl, ∀ w ∈ u_ws q.1 q.2.1 q.2.2, w ∈ lw_tb ∧ pW w = true := by
  have h : wcl.all (fun q => (u_ws q.1 q.2.1 q.2.2).all (fun w => decide (w ∈ lw_tb) && pW w)) = true := by decide +kernel
  intro q hq w hw
  have h1 := List.all_eq_true.mp (List.all_eq_true.mp h q hq) w hw
  simpa using h1
theorem wcl_ty : ∀ ci, ci < 12 → ∀ q, wcl[ci]? = some q → (ftag ci).length = q.2.2 ∧ (∀ k, k < q.2.2 → parseFieldDescriptor (q.2.1 k).2.2.1 = some (ffty ci k)) ∧ (∀ a, a < q.2.2 → ∀ b, b < q.2.2 → a ≠ b → (q.2.1 a).2.1 ≠ (q.2.1 b).2.1) := by
  have h : (List.range 12).all (fun ci => match wcl[ci]? with
    | some q => decide ((ftag ci).length = q.2.2) && (List.range q.2.2).all (fun k => decide (parseFieldDescriptor (q.2.1 k).2.2.1 = some (ffty ci k))) && (List.range q.2.2).all (fun a => (List.range q.2.2).all (fun b => decide (a = b) || decide ((q.2.1 a).2.1 ≠ (q.2.1 b).2.1)))
    | none => true) = true := by decide +kernel
  intro ci hci q hq
  have h1 := List.all_eq_true.mp h ci (List.mem_range.mpr hci)
  rw [hq] at h1
  simp only [Bool.and_eq_true, decide_eq_true_eq, List.all_eq_true, List.mem_range, Bool.or_eq_true] at h1
  exact ⟨h1.1.1, fun k hk => h1.1.2 k hk, fun a ha b hb hab => (h1.2 a ha b hb).resolve_left hab⟩
end
section
/-! reading and writing cells -/
theorem celA_1 {B : Nat} {CS : Nat → Nat} {dA : Nat → ClassId} {A : HP} {a n : Nat} (h : hK A a = (1, n)) : celA B CS dA A a = some (.inl (dA 1, n, .inl (hI A a))) := by unfold celA; rw [h]
theorem celA_2 {B : Nat} {CS : Nat → Nat} {dA : Nat → ClassId} {A : HP} {a n : Nat} (h : hK A a = (2, n)) : celA B CS dA A a = some (.inl (dA 2, n, .inr (.inl (hJ A a)))) := by unfold celA; rw [h]
theorem celA_3 {B : Nat} {CS : Nat → Nat} {dA : Nat → ClassId} {A : HP} {a n : Nat} (h : hK A a = (3, n)) : celA B CS dA A a = some (.inl (dA 3, n, .inl (hI A a))) := by unfold celA; rw [h]
theorem celA_4 {B : Nat} {CS : Nat → Nat} {dA : Nat → ClassId} {A : HP} {a n : Nat} (h : hK A a = (4, n)) : celA B CS dA A a = some (.inl (dA 4, n, .inl (hI A a))) := by unfold celA; rw [h]
theorem celA_5 {B : Nat} {CS : Nat → Nat} {dA : Nat → ClassId} {A : HP} {a n : Nat} (h : hK A a = (5, n)) : celA B CS dA A a = some (.inl (dA 5, n, .inr (.inr (.inr (.inl (hU A a)))))) := by unfold celA; rw [h]
theorem celA_6 {B : Nat} {CS : Nat → Nat} {dA : Nat → ClassId} {A : HP} {a n : Nat} (h : hK A a = (6, n)) : celA B CS dA A a = some (.inl (dA 6, n, .inr (.inr (.inr (.inr (fun j => (hR A a j).map (adr B CS))))))) := by unfold celA; rw [h]
theorem celA_7 {B : Nat} {CS : Nat → Nat} {dA : Nat → ClassId} {A : HP} {a n : Nat} (h : hK A a = (7, n)) : celA B CS dA A a = some (.inl (dA 7, n, .inr (.inr (.inr (.inr (fun j => (hR A a j).map (adr B CS))))))) := by unfold celA; rw [h]
theorem celA_8 {B : Nat} {CS : Nat → Nat} {dA : Nat → ClassId} {A : HP} {a n : Nat} (h : hK A a = (8, n)) : celA B CS dA A a = some (.inl (dA 4, n, .inl (hI A a))) := by unfold celA; rw [h]
theorem celA_o {B : Nat} {CS : Nat → Nat} {dA : Nat → ClassId} {A : HP} {a ci : Nat} (h : hK A a = (10 + ci, 0)) : celA B CS dA A a = some (.inr (ci, objL B CS A a (ftag ci))) := by
  unfold celA
  rw [h, Nat.add_comm 10 ci]
  rfl
theorem P1 {D : va_G} {cl : List vw_C} {q : Nat × va_E} {H : Heap} (h : va_at D cl q H) : va_P D cl [q] H := by
  intro k x hk
  match k, hk with
  | 0, hk => cases hk; exact h
theorem objL_get {B : Nat} {CS : Nat → Nat} {A : HP} {a k : Nat} {ts : List Nat} (hk : k < ts.length) : (objL B CS A a ts)[k]? = some (fvl B CS A a k (ts.getD k 0)) := by
  unfold objL
  rw [List.getElem?_map, List.getElem?_range hk]
  rfl
theorem objL_len {B : Nat} {CS : Nat → Nat} {A : HP} {a : Nat} {ts : List Nat} : (objL B CS A a ts).length = ts.length := by
  unfold objL
  rw [List.length_map, List.length_range]
theorem objL_set {B : Nat} {CS : Nat → Nat} {A A' : HP} {a k : Nat} {ts : List Nat} {v : Value} (hv : k < ts.length → fvl B CS A' a k (ts.getD k 0) = v) (ho : ∀ j t, j ≠ k → fvl B CS A' a j t = fvl B CS A a j t) : objL B CS A' a ts = (objL B CS A a ts).set k v := by
  apply List.ext_getElem?
  intro j
  by_cases hj : j < ts.length
  · rw [objL_get hj]
    by_cases e : j = k
    · subst e
      rw [List.getElem?_set_self (by rw [objL_len]; exact hj), hv hj]
    · rw [List.getElem?_set_ne (Ne.symm e), objL_get hj, ho j _ e]
  · rw [List.getElem?_eq_none (by rw [objL_len]; omega), List.getElem?_eq_none (by rw [List.length_set, objL_len]; omega)]
/-- what the tables must say for field k of class ci, by a row of the pool of own -/
def fOK (own : String) (ix ci k : Nat) : Prop := ∃ q : vw_C, wcl[ci]? = some q ∧ k < q.2.2 ∧ Jvm.Cond.fieldLink own ix (q.2.1 k).1 (q.2.1 k).2.1 (q.2.1 k).2.2.1 ∈ lw_tb
/-- and for writing it -/
def pOK (own : String) (ini : Bool) (ix ci k t : Nat) : Prop := ∃ q : vw_C, wcl[ci]? = some q ∧ k < q.2.2 ∧ Jvm.Cond.fieldLink own ix (q.2.1 k).1 (q.2.1 k).2.1 (q.2.1 k).2.2.1 ∈ lw_tb ∧ ((q.2.1 k).2.2.2 = false ∨ (ini = true ∧ (q.2.1 k).1 = own)) ∧ (ftag ci).getD k 0 = t ∧
  (match t with
    | 0 => ffty ci k = .int
    | 1 => ffty ci k = .long
    | 2 => (∃ n, ffty ci k = .object n) ∨ ∃ u, ffty ci k = .array u
    | 3 => ffty ci k = .char
    | 4 => ffty ci k = .byte
    | _ => ffty ci k = .boolean)
section FW
variable {p : Program} {l : Launch} {e : Env} {R : Room} {s : State} {m : MethodId} {args : Array Value} {below : List Frame} {meth : Method} {c : Code} {H : Heap} {locs : List Loc} {cells slots : Nat} {Q : State → Prop}
variable {cc : ByteArray} {pc : Nat} {ls : Array Slot} {rest : List Value} {D : va_G} {cl : List vw_C} {a : Nat} {tys : List (ClassId × FieldType)}
/-- putfield, and what it leaves -/
theorem w_put (hexec : p.tables.exec = Jvm.exec) (hb : c.code = cc) {own ref C : String} {T : u_T} {N ci index : Nat} {Ts : List Jvm.Cond} (hts : ∀ w ∈ Ts, w.before args s = true) (hin : ∀ w ∈ u_ws C T N, w ∈ Ts) (ty0 : Nat → FieldType) (hty : ∀ k, k < N → parseFieldDescriptor (T k).2.2.1 = some (ty0 k)) (hnm : ∀ a, a < N → ∀ b, b < N → a ≠ b → (T a).2.1 ≠ (T b).2.1) (hown : s.vm.findClass own = some m.cls) (hK : va_K D cl tys s) {fs : List Value} (hP : va_at D cl (a, .inr (ci, fs)) H) (hc : cl[ci]? = some (C, T, N)) (k : Nat) (hk : k < N) (hlink : (Jvm.Cond.fieldLink own index ref (T k).2.1 (T k).2.2.1).before args s = true) (hsame : ∀ x, s.fieldFound? (T k).1 (T k).2.1 (T k).2.2.1 = some x → s.fieldFound? ref (T k).2.1 (T k).2.2.1 = some x) (hfin : (T k).2.2.2 = false ∨ (meth.name = "<init>" ∧ (T k).1 = own)) {ty : FieldType} {v : Value} (hd : parseFieldDescriptor (T k).2.2.1 = some ty) (hn : narrow ty v = v) (hfit : fits ty v = true) (hl : k < fs.length)
    (hdg : decode cc pc = .ok (.putfield index, 3)) (kk : ∀ (H1 : Heap) (z : Loc), z.base = a → H1.size = H.size → (∀ q : Nat, q ≠ a → H1[q]? = H[q]?) → va_at D cl (a, .inr (ci, fs.set k v)) H1 → W p l e R s m args below meth c H1 (locs ++ [z]) cells slots Q (F0 m (pc + 3) ls rest)) : W p l e R s m args below meth c H locs cells slots Q (F0 m pc ls (v :: .ref a :: rest)) := by
  have hap := va_apart (own := own) hts hin ty0 hty hnm hK hc
  obtain ⟨r, h1, ce, q1, q2, q3, q4⟩ := hP
  have hr : r = (C, T, N) := Option.some.inj (h1.symm.trans hc)
  subst hr
  obtain ⟨hS, hfc, kC, hkC, hkind⟩ := hK.1 ci _ hc
  obtain ⟨cf, kf, fi, f, hi, hsl⟩ := hS k hk
  have hlay := hts _ (hin _ (u_in_lay hk))
  unfold u_lay at hlay
  have hst := (u_facts hfc hkC (u_lays hts hin hk) hi).1
  cases hq : (T k).2.2.2 with
  | false =>
    rw [if_neg (by rw [hq]; decide)] at hlay
    have h6 := u_store hfc hkC hkind hlay hi hd hn hfit
    refine W.putK hexec hb (f := f) ⟨hown, hlink, ⟨_, _, _, hsame _ hi⟩, hst⟩ (by rw [q2]; exact h6) q1 q3 (by rw [hsl]; exact k2_hasslot (q4 k hk)) rfl rfl hdg fun H' e1 e2 e3 => ?_
    rw [hsl] at e1 ⊢
    exact kk H' _ rfl e2 e3 ⟨_, hc, t_OB.to (V := updV (vp_V fs) k v) ⟨_, e1, q2, q3, t_set q4 hap hk v⟩ (fun j _ => vp_updV_set hl v j)⟩
  | true =>
    rw [if_pos hq] at hlay
    obtain ⟨hin2, hdecl⟩ := hfin.resolve_left (by rw [hq]; decide)
    have hcf : m.cls = cf := by
      obtain ⟨_, _, c', _, _, _, -, -, hf', -, -, -, hown2, -⟩ := Cond.laysFinal_spec hlay
      have e1 : c' = cf := by have := hi.symm.trans hf'; simp at this; exact this.1.symm
      rw [hdecl] at hown2
      rw [← e1]; exact Option.some.inj (hown.symm.trans hown2)
    have h6 := u_fits hfc hkC hkind (Or.inr hlay) hi hd hn hfit
    refine W.putFinK hexec hb hown hlink (hsame _ hi) hst hcf hin2 (by rw [q2]; exact h6) q1 q3 (by rw [hsl]; exact k2_hasslot (q4 k hk)) rfl rfl hdg fun H' e1 e2 e3 => ?_
    rw [hsl] at e1 ⊢
    exact kk H' _ rfl e2 e3 ⟨_, hc, t_OB.to (V := updV (vp_V fs) k v) ⟨_, e1, q2, q3, t_set q4 hap hk v⟩ (fun j _ => vp_updV_set hl v j)⟩
theorem w_iast (hexec : p.tables.exec = Jvm.exec) (hb : c.code = cc) (hK : va_K D cl tys s) (t0 : Nat) {cA : ClassId} {n : Nat} {f g : Nat → Int32} (hP : va_at D cl (a, .inl (cA, n, .inl f)) H) (ht : tys[t0]? = some (cA, .int)) {i : Int32} {x : Int32} (hin : vp_in i n) (hdg : decode cc pc = .ok (.iastore, 1)) (hg : ∀ q, g q = if q = i.toNatClampNeg then x else f q)
    (kk : ∀ (H1 : Heap) (z : Loc), z.base = a → H1.size = H.size → (∀ q : Nat, q ≠ a → H1[q]? = H[q]?) → va_at D cl (a, .inl (cA, n, .inl g)) H1 → W p l e R s m args below meth c H1 (locs ++ [z]) cells slots Q (F0 m (pc + 1) ls rest)) : W p l e R s m args below meth c H locs cells slots Q (F0 m pc ls (.int x :: .int i :: .ref a :: rest)) := by
  refine W.iast hexec hb hP ((hK.2 t0 _ ht).1 n (fun j => .int (f j))) (fun q => by cases q) (by show ¬ (i < 0 ∨ (arrV _ _ _).slots.size ≤ _); rw [arrV_size]; exact hin) rfl rfl hdg fun H1 e1 z oq => ?_
  refine kk H1 _ rfl z oq ?_
  show H1[a]? = some (vp_cell _ _)
  rw [e1, vp_cell_i, vp_cell_i, arrV_store]
  congr 2
  funext q
  rw [hg q]
  by_cases hq : q = i.toNatClampNeg
  · subst hq
    simp [updV]
    try rfl
  · simp [updV, hq]
theorem w_cast (hexec : p.tables.exec = Jvm.exec) (hb : c.code = cc) (hK : va_K D cl tys s) (t0 : Nat) {cA : ClassId} {n : Nat} {f g : Nat → Int32} (hP : va_at D cl (a, .inl (cA, n, .inl f)) H) (ht : tys[t0]? = some (cA, .char)) {i : Int32} {x : Int32} (hin : vp_in i n) (hdg : decode cc pc = .ok (.castore, 1)) (hg : ∀ q, g q = if q = i.toNatClampNeg then vp_nar .char x else f q)
    (kk : ∀ (H1 : Heap) (z : Loc), z.base = a → H1.size = H.size → (∀ q : Nat, q ≠ a → H1[q]? = H[q]?) → va_at D cl (a, .inl (cA, n, .inl g)) H1 → W p l e R s m args below meth c H1 (locs ++ [z]) cells slots Q (F0 m (pc + 1) ls rest)) : W p l e R s m args below meth c H locs cells slots Q (F0 m pc ls (.int x :: .int i :: .ref a :: rest)) := by
  refine W.cast hexec hb hP ((hK.2 t0 _ ht).1 n (fun j => .int (f j))) (fun q => by cases q) (by show ¬ (i < 0 ∨ (arrV _ _ _).slots.size ≤ _); rw [arrV_size]; exact hin) rfl rfl hdg fun H1 e1 z oq => ?_
  refine kk H1 _ rfl z oq ?_
  show H1[a]? = some (vp_cell _ _)
  rw [e1, vp_cell_i, vp_cell_i, arrV_store]
  congr 2
  funext q
  rw [hg q]
  by_cases hq : q = i.toNatClampNeg
  · subst hq
    simp [updV, vp_nar]
    try rfl
  · simp [updV, hq]
theorem w_bast (hexec : p.tables.exec = Jvm.exec) (hb : c.code = cc) (hK : va_K D cl tys s) (t0 : Nat) {cA : ClassId} {n : Nat} {f g : Nat → Int32} (hP : va_at D cl (a, .inl (cA, n, .inl f)) H) (ht : tys[t0]? = some (cA, .byte)) {i : Int32} {x : Int32} (hin : vp_in i n) (hdg : decode cc pc = .ok (.bastore, 1)) (hg : ∀ q, g q = if q = i.toNatClampNeg then vp_nar .byte x else f q)
    (kk : ∀ (H1 : Heap) (z : Loc), z.base = a → H1.size = H.size → (∀ q : Nat, q ≠ a → H1[q]? = H[q]?) → va_at D cl (a, .inl (cA, n, .inl g)) H1 → W p l e R s m args below meth c H1 (locs ++ [z]) cells slots Q (F0 m (pc + 1) ls rest)) : W p l e R s m args below meth c H locs cells slots Q (F0 m pc ls (.int x :: .int i :: .ref a :: rest)) := by
  refine W.bast hexec hb hP ((hK.2 t0 _ ht).1 n (fun j => .int (f j))) (fun q => by cases q) (by show ¬ (i < 0 ∨ (arrV _ _ _).slots.size ≤ _); rw [arrV_size]; exact hin) rfl rfl hdg fun H1 e1 z oq => ?_
  refine kk H1 _ rfl z oq ?_
  show H1[a]? = some (vp_cell _ _)
  rw [e1, vp_cell_i, vp_cell_i, arrV_store]
  congr 2
  funext q
  rw [hg q]
  by_cases hq : q = i.toNatClampNeg
  · subst hq
    simp [updV, vp_nar]
    try rfl
  · simp [updV, hq]
theorem w_last (hexec : p.tables.exec = Jvm.exec) (hb : c.code = cc) (hK : va_K D cl tys s) (t0 : Nat) {cA : ClassId} {n : Nat} {f g : Nat → Int64} (hP : va_at D cl (a, .inl (cA, n, .inr (.inl f))) H) (ht : tys[t0]? = some (cA, .long)) {i : Int32} {x : Int64} (hin : vp_in i n) (hdg : decode cc pc = .ok (.lastore, 1)) (hg : ∀ q, g q = if q = i.toNatClampNeg then x else f q)
    (kk : ∀ (H1 : Heap) (z : Loc), z.base = a → H1.size = H.size → (∀ q : Nat, q ≠ a → H1[q]? = H[q]?) → va_at D cl (a, .inl (cA, n, .inr (.inl g))) H1 → W p l e R s m args below meth c H1 (locs ++ [z]) cells slots Q (F0 m (pc + 1) ls rest)) : W p l e R s m args below meth c H locs cells slots Q (F0 m pc ls (.long x :: .int i :: .ref a :: rest)) := by
  refine W.last hexec hb hP ((hK.2 t0 _ ht).1 n (fun j => .long (f j))) (fun q => by cases q) (by show ¬ (i < 0 ∨ (arrV _ _ _).slots.size ≤ _); rw [arrV_size]; exact hin) rfl rfl hdg fun H1 e1 z oq => ?_
  refine kk H1 _ rfl z oq ?_
  show H1[a]? = some (vp_cell _ _)
  rw [e1, vp_cell_l, vp_cell_l, arrV_store]
  congr 2
  funext q
  rw [hg q]
  by_cases hq : q = i.toNatClampNeg
  · subst hq
    simp [updV]
    try rfl
  · simp [updV, hq]
theorem w_dast (hexec : p.tables.exec = Jvm.exec) (hb : c.code = cc) (hK : va_K D cl tys s) (t0 : Nat) {cA : ClassId} {n : Nat} {f g : Nat → UInt64} (hP : va_at D cl (a, .inl (cA, n, .inr (.inr (.inr (.inl f))))) H) (ht : tys[t0]? = some (cA, .double)) {i : Int32} {x : UInt64} (hin : vp_in i n) (hdg : decode cc pc = .ok (.dastore, 1)) (hg : ∀ q, g q = if q = i.toNatClampNeg then x else f q)
    (kk : ∀ (H1 : Heap) (z : Loc), z.base = a → H1.size = H.size → (∀ q : Nat, q ≠ a → H1[q]? = H[q]?) → va_at D cl (a, .inl (cA, n, .inr (.inr (.inr (.inl g))))) H1 → W p l e R s m args below meth c H1 (locs ++ [z]) cells slots Q (F0 m (pc + 1) ls rest)) : W p l e R s m args below meth c H locs cells slots Q (F0 m pc ls (.double x :: .int i :: .ref a :: rest)) := by
  refine W.dast hexec hb hP ((hK.2 t0 _ ht).1 n (fun j => .double (f j))) (fun q => by cases q) (by show ¬ (i < 0 ∨ (arrV _ _ _).slots.size ≤ _); rw [arrV_size]; exact hin) rfl rfl hdg fun H1 e1 z oq => ?_
  refine kk H1 _ rfl z oq ?_
  show H1[a]? = some (vp_cell _ _)
  rw [e1, vp_cell_d, vp_cell_d, arrV_store]
  congr 2
  funext q
  rw [hg q]
  by_cases hq : q = i.toNatClampNeg
  · subst hq
    simp [updV]
    try rfl
  · simp [updV, hq]
theorem w_aast (hexec : p.tables.exec = Jvm.exec) (hb : c.code = cc) (hK : va_K D cl tys s) (t0 ci : Nat) {cA : ClassId} {r : vw_C} {n v : Nat} {vs : List Value} {f g : Nat → Option Nat} (hP : va_at D cl (a, .inl (cA, n, .inr (.inr (.inr (.inr f))))) H) (ht : tys[t0]? = some (cA, .object r.1)) (hv : va_at D cl (v, .inr (ci, vs)) H) (hc : cl[ci]? = some r) {i : Int32} (hin : vp_in i n) (hdg : decode cc pc = .ok (.aastore, 1)) (hg : ∀ q, g q = if q = i.toNatClampNeg then some v else f q)
    (kk : ∀ (H1 : Heap) (z : Loc), z.base = a → H1.size = H.size → (∀ q : Nat, q ≠ a → H1[q]? = H[q]?) → va_at D cl (a, .inl (cA, n, .inr (.inr (.inr (.inr g))))) H1 → W p l e R s m args below meth c H1 (locs ++ [z]) cells slots Q (F0 m (pc + 1) ls rest)) : W p l e R s m args below meth c H locs cells slots Q (F0 m pc ls (.ref v :: .int i :: .ref a :: rest)) := by
  have hlt : i.toNatClampNeg < n := Nat.not_le.mp fun q => hin (Or.inr q)
  have h0 : ¬ i < 0 := fun q => hin (Or.inl q)
  obtain ⟨r', hr', cellV, g1, g2, g3, -⟩ := hv
  have hcls := (hK.1 ci r hc).2
  obtain ⟨kA, comp, k1, k2, k3, -⟩ := (hK.2 t0 _ ht).2
  have hcomp : comp = D.1 ci := Option.some.inj (k3.symm.trans hcls.1)
  subst hcomp
  obtain ⟨kC, hkC, -⟩ := hcls.2
  refine W.aast hexec hb hP (fun q h => by cases h) (fun h => by cases h) k1 k2 rfl hkC ⟨h0, by show _ < (arrV _ _ _).slots.size; rw [arrV_size]; exact hlt⟩ g1 (fun q h => by rw [g3] at h; cases h) (by rw [g2]; exact hkC) (by rw [g2]; exact va_assign hcls) rfl rfl hdg fun H1 e1 z oq => ?_
  refine kk H1 _ rfl z oq ?_
  show H1[a]? = some (vp_cell _ _)
  rw [e1, vp_cell_q, vp_cell_q, arrV_store]
  congr 2
  funext q
  rw [hg q]
  by_cases hq : q = i.toNatClampNeg
  · subst hq
    simp [updV, va_rf]
  · simp [updV, hq]
end FW
end
section
/-! the steps that read and write cells -/
theorem fit_char {w : Int32} (h : vp_nar .char w = w) : narrow .char (.int w) = .int w ∧ fits .char (.int w) = true := by
  have h1 : w.toUInt32.toUInt16.toUInt32.toInt32 = w := h
  refine ⟨congrArg Value.int h1, ?_⟩
  have h2 := pk_fc w
  have h3 : (w.toUInt32 % 65536).toInt32 = w := by
    rw [← UInt32.toUInt32_toUInt16]
    exact h1
  rw [h3] at h2
  exact h2
theorem fit_byte {w : Int32} (h : vp_nar .byte w = w) : narrow .byte (.int w) = .int w ∧ fits .byte (.int w) = true := by
  have h1 : w.toInt8.toInt32 = w := h
  refine ⟨congrArg Value.int h1, ?_⟩
  have h2 := pk_fb w
  rw [h1] at h2
  exact h2
theorem fit_bool {w : Int32} (h : vp_nar .boolean w = w) : narrow .boolean (.int w) = .int w ∧ fits .boolean (.int w) = true := by
  have h1 : w &&& 1 = w := h
  refine ⟨congrArg Value.int h1, ?_⟩
  obtain ⟨j, hj, e⟩ := pk_andE w (m := 1) 1 (by decide)
  rw [h1] at e
  subst e
  match j, hj with
  | 0, _ => decide
  | 1, _ => decide
theorem fit_ok {t : Nat} {ty : FieldType} {w : Int32} (h : fitT t w) (hty : (t = 0 ∧ ty = .int) ∨ (t = 3 ∧ ty = .char) ∨ (t = 4 ∧ ty = .byte) ∨ (t = 5 ∧ ty = .boolean)) : narrow ty (.int w) = .int w ∧ fits ty (.int w) = true := by
  rcases hty with ⟨rfl, rfl⟩ | ⟨rfl, rfl⟩ | ⟨rfl, rfl⟩ | ⟨rfl, rfl⟩
  · exact ⟨rfl, rfl⟩
  · exact fit_char h
  · exact fit_byte h
  · exact fit_bool h
section IN
variable {own : String} {cc : ByteArray} {nL : Nat} {rt : Option FieldType} {ini : Bool} {hh : List (Nat × Nat × Nat × Nat)} {d n0 w0 : Nat} {o : Out} {A A' : HP} {pc : Nat} {L : LV} {st : List Value}
theorem in_get {ci k ix a : Nat} {v : Value} (hd : decode cc pc = .ok (.getfield ix, 3)) (hf : fOK own ix ci k) (hci : ci < 12) (hk : hK A a = (10 + ci, 0)) (hv : ∀ B CS, vR B CS v (fvl B CS A a k ((ftag ci).getD k 0))) (K : Inn own cc nL rt ini hh d n0 w0 o A' (pc + 3) L (v :: st) A) : Inn own cc nL rt ini hh d n0 w0 o A' pc L (.ref a :: st) A := by
  intro p l e R s m args below meth c B Hb CS dC dI dA F hRm hB H locs ls ms hr hlo hL hst
  obtain ⟨hx, hb, hml, hlk, hown, hrt, hini, hT, hs0, hlw, hC⟩ := id F
  obtain ⟨mv, r, rfl, h1, hst⟩ := hst
  cases (show mv = _ from h1)
  obtain ⟨⟨C, T, N⟩, hc, hkN, hl⟩ := hf
  have hq := List.mem_of_getElem? hc
  obtain ⟨htl, hty, hnm⟩ := wcl_ty ci hci _ hc
  exact va_get (D := (dC, dI)) (cl := wcl) (tys := tyA dA) (ws := [(adr B CS a, .inr (ci, objL B CS A a (ftag ci)))]) hx hb (Ts := u_ws C T N) (fun w hw => hC.2.1 w (wcl_ws _ hq w hw).1 (wcl_ws _ hq w hw).2 args) (fun _ h => h) hown hC.2.2.1 (P1 (hr.at (celA_o hk))) 0 rfl hc k hkN
    (hC.2.1 _ hl (by rfl) args) (fun _ h => h) (objL_get (by rw [htl]; exact hkN)) hd (K p l e R s m args below meth c B Hb CS dC dI dA F hRm hB H locs ls (_ :: r) hr hlo hL (stR.cons (hv B CS) hst))
theorem in_put {ci k t ix a : Nat} {v : Value} {A1 : HP} (hd : decode cc pc = .ok (.putfield ix, 3)) (hf : pOK own ini ix ci k t) (hci : ci < 11) (hk : hK A a = (10 + ci, 0)) (h1K : hK A1 = hK A) (h1n : hn A1 = hn A) (h1w : hw A1 = hw A) (ho : ∀ b, b ≠ a → hI A1 b = hI A b ∧ hJ A1 b = hJ A b ∧ hR A1 b = hR A b ∧ hU A1 b = hU A b) (hfv : ∀ B CS, fvl B CS A1 a k t = lvA B CS v) (hfo : ∀ B CS j t, j ≠ k → fvl B CS A1 a j t = fvl B CS A a j t) (hvj : ∀ q, v ≠ .retAddr q)
    (hnf : ∀ B CS, narrow (ffty ci k) (lvA B CS v) = lvA B CS v ∧ fits (ffty ci k) (lvA B CS v) = true) (K : Inn own cc nL rt ini hh d n0 w0 o A' (pc + 3) L st A1) : Inn own cc nL rt ini hh d n0 w0 o A' pc L (v :: .ref a :: st) A := by
  intro p l e R s m args below meth c B Hb CS dC dI dA F hRm hB H locs ls ms hr hlo hL hst
  obtain ⟨hx, hb, hml, hlk, hown, hrt, hini, hT, hs0, hlw, hC⟩ := id F
  obtain ⟨mv, r, rfl, h1, ma, r2, rfl, h2, hst⟩ := hst
  cases (show ma = Value.ref (adr B CS a) from h2)
  have hmv : mv = lvA B CS v := by
    cases v with
    | retAddr q => exact absurd rfl (hvj q)
    | _ => exact h1
  subst hmv
  obtain ⟨⟨C, T, N⟩, hc, hkN, hl, hfin, htg, hty0⟩ := hf
  have hq := List.mem_of_getElem? hc
  obtain ⟨htl, hty, hnm⟩ := wcl_ty ci (by omega) _ hc
  obtain ⟨ha1, ha2, ha3⟩ := hr.own hk (by simp) (by simp; omega) (by simp; omega)
  have hat := hr.at (celA_o hk)
  rw [ha3] at hat ⊢
  refine w_put (D := (dC, dI)) (cl := wcl) (tys := tyA dA) hx hb (Ts := u_ws C T N) (fun w hw => hC.2.1 w (wcl_ws _ hq w hw).1 (wcl_ws _ hq w hw).2 args) (fun _ h => h) (ffty ci) hty hnm hown hC.2.2.1 hat hc k hkN
    (hC.2.1 _ hl (by rfl) args) (fun _ h => h) (hfin.imp id (fun q => ⟨hini q.1, q.2⟩)) (hty k hkN) (hnf B CS).1 (hnf B CS).2 (by rw [objL_len, htl]; exact hkN) hd (fun H1 z hz e1 e2 e3 => ?_)
  rw [← h1n, ← h1w]
  refine (K p l e R s m args below meth c B Hb CS dC dI dA F hRm hB H1 (locs ++ [z]) ls r2 ?_ ?_ hL hst)
  · refine hr.put ha1 e1 e2 h1K h1n (fun b hb => ?_) (fun e' he' => ?_)
    · obtain ⟨g1, g2, g3, g4⟩ := ho b hb
      exact celA_congr (by rw [h1K]) g1 g2 g3 g4
    · rw [celA_o (by rw [h1K]; exact hk)] at he'
      cases he'
      rw [objL_set (A := A) (k := k) (v := lvA B CS v) (fun _ => by rw [htg]; exact hfv B CS) (fun j t hj => hfo B CS j t hj)]
      exact e3
  · intro y hy
    rcases List.mem_append.mp hy with h | h
    · exact hlo y h
    · rw [List.mem_singleton.mp h, hz]; omega
theorem alen_aux {t n : Nat} (h0 : 0 < t) (h8 : t ≤ 8) : t = 1 ∨ t = 2 ∨ t = 3 ∨ t = 4 ∨ t = 5 ∨ t = 6 ∨ t = 7 ∨ t = 8 := by omega
theorem in_alen {t n a : Nat} (hd : decode cc pc = .ok (.arraylength, 1)) (hk : hK A a = (t, n)) (h0 : 0 < t) (h8 : t ≤ 8) (K : Inn own cc nL rt ini hh d n0 w0 o A' (pc + 1) L (.int (Int32.ofNat n) :: st) A) : Inn own cc nL rt ini hh d n0 w0 o A' pc L (.ref a :: st) A := by
  intro p l e R s m args below meth c B Hb CS dC dI dA F hRm hB H locs ls ms hr hlo hL hst
  obtain ⟨hx, hb, hml, hlk, hown, hrt, hini, hT, hs0, hlw, hC⟩ := id F
  obtain ⟨mv, r, rfl, h1, hst⟩ := hst
  cases (show mv = _ from h1)
  rcases alen_aux (n := n) h0 h8 with rfl | rfl | rfl | rfl | rfl | rfl | rfl | rfl
  · exact va_alen (D := (dC, dI)) (cl := wcl) (tys := tyA dA) (ws := [(_, _)]) hx hb hC.2.2.1 (P1 (hr.at (celA_1 hk))) 0 0 rfl rfl rfl hd (K p l e R s m args below meth c B Hb CS dC dI dA F hRm hB H locs ls (_ :: r) hr hlo hL (stR.cons rfl hst))
  · exact va_alen (D := (dC, dI)) (cl := wcl) (tys := tyA dA) (ws := [(_, _)]) hx hb hC.2.2.1 (P1 (hr.at (celA_2 hk))) 0 1 rfl rfl rfl hd (K p l e R s m args below meth c B Hb CS dC dI dA F hRm hB H locs ls (_ :: r) hr hlo hL (stR.cons rfl hst))
  · exact va_alen (D := (dC, dI)) (cl := wcl) (tys := tyA dA) (ws := [(_, _)]) hx hb hC.2.2.1 (P1 (hr.at (celA_3 hk))) 0 2 rfl rfl rfl hd (K p l e R s m args below meth c B Hb CS dC dI dA F hRm hB H locs ls (_ :: r) hr hlo hL (stR.cons rfl hst))
  · exact va_alen (D := (dC, dI)) (cl := wcl) (tys := tyA dA) (ws := [(_, _)]) hx hb hC.2.2.1 (P1 (hr.at (celA_4 hk))) 0 3 rfl rfl rfl hd (K p l e R s m args below meth c B Hb CS dC dI dA F hRm hB H locs ls (_ :: r) hr hlo hL (stR.cons rfl hst))
  · exact va_alen (D := (dC, dI)) (cl := wcl) (tys := tyA dA) (ws := [(_, _)]) hx hb hC.2.2.1 (P1 (hr.at (celA_5 hk))) 0 4 rfl rfl rfl hd (K p l e R s m args below meth c B Hb CS dC dI dA F hRm hB H locs ls (_ :: r) hr hlo hL (stR.cons rfl hst))
  · exact va_alen (D := (dC, dI)) (cl := wcl) (tys := tyA dA) (ws := [(_, _)]) hx hb hC.2.2.1 (P1 (hr.at (celA_6 hk))) 0 5 rfl rfl rfl hd (K p l e R s m args below meth c B Hb CS dC dI dA F hRm hB H locs ls (_ :: r) hr hlo hL (stR.cons rfl hst))
  · exact va_alen (D := (dC, dI)) (cl := wcl) (tys := tyA dA) (ws := [(_, _)]) hx hb hC.2.2.1 (P1 (hr.at (celA_7 hk))) 0 6 rfl rfl rfl hd (K p l e R s m args below meth c B Hb CS dC dI dA F hRm hB H locs ls (_ :: r) hr hlo hL (stR.cons rfl hst))
  · exact va_alen (D := (dC, dI)) (cl := wcl) (tys := tyA dA) (ws := [(_, _)]) hx hb hC.2.2.1 (P1 (hr.at (celA_8 hk))) 0 3 rfl rfl rfl hd (K p l e R s m args below meth c B Hb CS dC dI dA F hRm hB H locs ls (_ :: r) hr hlo hL (stR.cons rfl hst))
theorem in_iaload {n a : Nat} {j : Int32} (hd : decode cc pc = .ok (.iaload, 1)) (hk : hK A a = (1, n)) (hj : vp_in j n) (K : Inn own cc nL rt ini hh d n0 w0 o A' (pc + 1) L (.int (hI A a j.toNatClampNeg) :: st) A) : Inn own cc nL rt ini hh d n0 w0 o A' pc L (.int j :: .ref a :: st) A := by
  intro p l e R s m args below meth c B Hb CS dC dI dA F hRm hB H locs ls ms hr hlo hL hst
  obtain ⟨hx, hb, hml, hlk, hown, hrt, hini, hT, hs0, hlw, hC⟩ := id F
  obtain ⟨mj, r, rfl, h1, ma, r2, rfl, h2, hst⟩ := hst
  cases (show mj = Value.int j from h1)
  cases (show ma = Value.ref (adr B CS a) from h2)
  exact va_iald (D := (dC, dI)) (cl := wcl) (tys := tyA dA) (ws := [(_, _)]) hx hb hC.2.2.1 (P1 (hr.at (celA_1 hk))) 0 0 rfl rfl hj hd (K p l e R s m args below meth c B Hb CS dC dI dA F hRm hB H locs ls (_ :: r2) hr hlo hL (stR.cons rfl hst))
theorem in_caload {n a : Nat} {j : Int32} (hd : decode cc pc = .ok (.caload, 1)) (hk : hK A a = (3, n)) (hj : vp_in j n) (K : Inn own cc nL rt ini hh d n0 w0 o A' (pc + 1) L (.int (hI A a j.toNatClampNeg) :: st) A) : Inn own cc nL rt ini hh d n0 w0 o A' pc L (.int j :: .ref a :: st) A := by
  intro p l e R s m args below meth c B Hb CS dC dI dA F hRm hB H locs ls ms hr hlo hL hst
  obtain ⟨hx, hb, hml, hlk, hown, hrt, hini, hT, hs0, hlw, hC⟩ := id F
  obtain ⟨mj, r, rfl, h1, ma, r2, rfl, h2, hst⟩ := hst
  cases (show mj = Value.int j from h1)
  cases (show ma = Value.ref (adr B CS a) from h2)
  exact va_cald (D := (dC, dI)) (cl := wcl) (tys := tyA dA) (ws := [(_, _)]) hx hb hC.2.2.1 (P1 (hr.at (celA_3 hk))) 0 2 rfl rfl hj hd (K p l e R s m args below meth c B Hb CS dC dI dA F hRm hB H locs ls (_ :: r2) hr hlo hL (stR.cons rfl hst))
theorem in_laload {n a : Nat} {j : Int32} (hd : decode cc pc = .ok (.laload, 1)) (hk : hK A a = (2, n)) (hj : vp_in j n) (K : Inn own cc nL rt ini hh d n0 w0 o A' (pc + 1) L (.long (hJ A a j.toNatClampNeg) :: st) A) : Inn own cc nL rt ini hh d n0 w0 o A' pc L (.int j :: .ref a :: st) A := by
  intro p l e R s m args below meth c B Hb CS dC dI dA F hRm hB H locs ls ms hr hlo hL hst
  obtain ⟨hx, hb, hml, hlk, hown, hrt, hini, hT, hs0, hlw, hC⟩ := id F
  obtain ⟨mj, r, rfl, h1, ma, r2, rfl, h2, hst⟩ := hst
  cases (show mj = Value.int j from h1)
  cases (show ma = Value.ref (adr B CS a) from h2)
  exact va_lald (D := (dC, dI)) (cl := wcl) (tys := tyA dA) (ws := [(_, _)]) hx hb hC.2.2.1 (P1 (hr.at (celA_2 hk))) 0 1 rfl rfl hj hd (K p l e R s m args below meth c B Hb CS dC dI dA F hRm hB H locs ls (_ :: r2) hr hlo hL (stR.cons rfl hst))
theorem in_daload {n a : Nat} {j : Int32} (hd : decode cc pc = .ok (.daload, 1)) (hk : hK A a = (5, n)) (hj : vp_in j n) (K : Inn own cc nL rt ini hh d n0 w0 o A' (pc + 1) L (.double (hU A a j.toNatClampNeg) :: st) A) : Inn own cc nL rt ini hh d n0 w0 o A' pc L (.int j :: .ref a :: st) A := by
  intro p l e R s m args below meth c B Hb CS dC dI dA F hRm hB H locs ls ms hr hlo hL hst
  obtain ⟨hx, hb, hml, hlk, hown, hrt, hini, hT, hs0, hlw, hC⟩ := id F
  obtain ⟨mj, r, rfl, h1, ma, r2, rfl, h2, hst⟩ := hst
  cases (show mj = Value.int j from h1)
  cases (show ma = Value.ref (adr B CS a) from h2)
  exact va_dald (D := (dC, dI)) (cl := wcl) (tys := tyA dA) (ws := [(_, _)]) hx hb hC.2.2.1 (P1 (hr.at (celA_5 hk))) 0 4 rfl rfl hj hd (K p l e R s m args below meth c B Hb CS dC dI dA F hRm hB H locs ls (_ :: r2) hr hlo hL (stR.cons rfl hst))
theorem in_baload {n t a : Nat} {j : Int32} (hd : decode cc pc = .ok (.baload, 1)) (hk : hK A a = (t, n)) (ht : t = 4 ∨ t = 8) (hj : vp_in j n) (K : Inn own cc nL rt ini hh d n0 w0 o A' (pc + 1) L (.int (hI A a j.toNatClampNeg) :: st) A) : Inn own cc nL rt ini hh d n0 w0 o A' pc L (.int j :: .ref a :: st) A := by
  intro p l e R s m args below meth c B Hb CS dC dI dA F hRm hB H locs ls ms hr hlo hL hst
  obtain ⟨hx, hb, hml, hlk, hown, hrt, hini, hT, hs0, hlw, hC⟩ := id F
  obtain ⟨mj, r, rfl, h1, ma, r2, rfl, h2, hst⟩ := hst
  cases (show mj = Value.int j from h1)
  cases (show ma = Value.ref (adr B CS a) from h2)
  have hc : celA B CS dA A a = some (.inl (dA 4, n, .inl (hI A a))) := by
    rcases ht with rfl | rfl
    · exact celA_4 hk
    · exact celA_8 hk
  exact va_bald (D := (dC, dI)) (cl := wcl) (tys := tyA dA) (ws := [(_, _)]) hx hb hC.2.2.1 (P1 (hr.at hc)) 0 3 rfl rfl hj hd (K p l e R s m args below meth c B Hb CS dC dI dA F hRm hB H locs ls (_ :: r2) hr hlo hL (stR.cons rfl hst))
theorem in_aaload {n t a b : Nat} {j : Int32} (hd : decode cc pc = .ok (.aaload, 1)) (hk : hK A a = (t, n)) (ht : t = 6 ∨ t = 7) (hj : vp_in j n) (hb0 : hR A a j.toNatClampNeg = some b) (K : Inn own cc nL rt ini hh d n0 w0 o A' (pc + 1) L (.ref b :: st) A) : Inn own cc nL rt ini hh d n0 w0 o A' pc L (.int j :: .ref a :: st) A := by
  intro p l e R s m args below meth c B Hb CS dC dI dA F hRm hB H locs ls ms hr hlo hL hst
  obtain ⟨hx, hb, hml, hlk, hown, hrt, hini, hT, hs0, hlw, hC⟩ := id F
  obtain ⟨mj, r, rfl, h1, ma, r2, rfl, h2, hst⟩ := hst
  cases (show mj = Value.int j from h1)
  cases (show ma = Value.ref (adr B CS a) from h2)
  have hlt : j.toNatClampNeg < n := Nat.not_le.mp fun q => hj (Or.inr q)
  have hval : va_rf ((hR A a j.toNatClampNeg).map (adr B CS)) = .ref (adr B CS b) := by rw [hb0]; rfl
  rcases ht with rfl | rfl
  · exact W.aald (v := .ref (adr B CS b)) (ty := .array .int) hx hb (hr.at (celA_6 hk)) ((hC.2.2.1.2 5 _ rfl).1 n (fun j => va_rf ((hR A a j).map (adr B CS)))) rfl (fun q => by cases q) (by show ¬ (j < 0 ∨ (arrV _ _ _).slots.size ≤ _); rw [arrV_size]; exact hj) (by show (arrV _ _ _).slots[_]? = _; rw [arrV_read _ _ hlt, hval]) rfl rfl hd (K p l e R s m args below meth c B Hb CS dC dI dA F hRm hB H locs ls (_ :: r2) hr hlo hL (stR.cons rfl hst))
  · exact W.aald (v := .ref (adr B CS b)) (ty := .object "LintelBrothers$Data") hx hb (hr.at (celA_7 hk)) ((hC.2.2.1.2 6 _ rfl).1 n (fun j => va_rf ((hR A a j).map (adr B CS)))) rfl (fun q => by cases q) (by show ¬ (j < 0 ∨ (arrV _ _ _).slots.size ≤ _); rw [arrV_size]; exact hj) (by show (arrV _ _ _).slots[_]? = _; rw [arrV_read _ _ hlt, hval]) rfl rfl hd (K p l e R s m args below meth c B Hb CS dC dI dA F hRm hB H locs ls (_ :: r2) hr hlo hL (stR.cons rfl hst))
theorem in_iastore {n a : Nat} {j : Int32} {w : Int32} (hd : decode cc pc = .ok (.iastore, 1)) (hk : hK A a = (1, n)) (hj : vp_in j n) (K : Inn own cc nL rt ini hh d n0 w0 o A' (pc + 1) L st (sI A a j.toNatClampNeg w)) : Inn own cc nL rt ini hh d n0 w0 o A' pc L (.int w :: .int j :: .ref a :: st) A := by
  intro p l e R s m args below meth c B Hb CS dC dI dA F hRm hB H locs ls ms hr hlo hL hst
  obtain ⟨hx, hb, hml, hlk, hown, hrt, hini, hT, hs0, hlw, hC⟩ := id F
  obtain ⟨mw, r0, rfl, h0, mj, r, rfl, h1, ma, r2, rfl, h2, hst⟩ := hst
  cases (show mw = Value.int w from h0)
  cases (show mj = Value.int j from h1)
  cases (show ma = Value.ref (adr B CS a) from h2)
  obtain ⟨ha1, ha2, ha3⟩ := hr.own hk (by simp) (by simp) (by simp)
  have hat := hr.at (celA_1 hk)
  rw [ha3] at hat ⊢
  refine w_iast (D := (dC, dI)) (cl := wcl) (tys := tyA dA) hx hb hC.2.2.1 0 (g := hI (sI A a j.toNatClampNeg w) a) hat rfl hj hd (fun q => by simp [hI, sI, up2]) (fun H1 z hz e1 e2 e3 => ?_)
  refine (K p l e R s m args below meth c B Hb CS dC dI dA F hRm hB H1 (locs ++ [z]) ls r2 ?_ ?_ hL hst)
  · refine hr.put ha1 e1 e2 rfl rfl (fun b hb => ?_) (fun e' he' => ?_)
    · exact celA_congr rfl (by first | rfl | (funext q; simp [hI, sI, up2, hb])) (by first | rfl | (funext q; simp [hJ, sJ, up2, hb])) rfl (by first | rfl | (funext q; simp [hU, sU, up2, hb]))
    · rw [celA_1 (n := n) (by exact hk)] at he'
      cases he'
      exact e3
  · intro y hy
    rcases List.mem_append.mp hy with h | h
    · exact hlo y h
    · rw [List.mem_singleton.mp h, hz]; omega
theorem in_castore {n a : Nat} {j : Int32} {w : Int32} (hd : decode cc pc = .ok (.castore, 1)) (hk : hK A a = (3, n)) (hj : vp_in j n) (K : Inn own cc nL rt ini hh d n0 w0 o A' (pc + 1) L st (sI A a j.toNatClampNeg (vp_nar .char w))) : Inn own cc nL rt ini hh d n0 w0 o A' pc L (.int w :: .int j :: .ref a :: st) A := by
  intro p l e R s m args below meth c B Hb CS dC dI dA F hRm hB H locs ls ms hr hlo hL hst
  obtain ⟨hx, hb, hml, hlk, hown, hrt, hini, hT, hs0, hlw, hC⟩ := id F
  obtain ⟨mw, r0, rfl, h0, mj, r, rfl, h1, ma, r2, rfl, h2, hst⟩ := hst
  cases (show mw = Value.int w from h0)
  cases (show mj = Value.int j from h1)
  cases (show ma = Value.ref (adr B CS a) from h2)
  obtain ⟨ha1, ha2, ha3⟩ := hr.own hk (by simp) (by simp) (by simp)
  have hat := hr.at (celA_3 hk)
  rw [ha3] at hat ⊢
  refine w_cast (D := (dC, dI)) (cl := wcl) (tys := tyA dA) hx hb hC.2.2.1 2 (g := hI (sI A a j.toNatClampNeg (vp_nar .char w)) a) hat rfl hj hd (fun q => by simp [hI, sI, up2]) (fun H1 z hz e1 e2 e3 => ?_)
  refine (K p l e R s m args below meth c B Hb CS dC dI dA F hRm hB H1 (locs ++ [z]) ls r2 ?_ ?_ hL hst)
  · refine hr.put ha1 e1 e2 rfl rfl (fun b hb => ?_) (fun e' he' => ?_)
    · exact celA_congr rfl (by first | rfl | (funext q; simp [hI, sI, up2, hb])) (by first | rfl | (funext q; simp [hJ, sJ, up2, hb])) rfl (by first | rfl | (funext q; simp [hU, sU, up2, hb]))
    · rw [celA_3 (n := n) (by exact hk)] at he'
      cases he'
      exact e3
  · intro y hy
    rcases List.mem_append.mp hy with h | h
    · exact hlo y h
    · rw [List.mem_singleton.mp h, hz]; omega
theorem in_bastore {n a : Nat} {j : Int32} {w : Int32} (hd : decode cc pc = .ok (.bastore, 1)) (hk : hK A a = (4, n)) (hj : vp_in j n) (K : Inn own cc nL rt ini hh d n0 w0 o A' (pc + 1) L st (sI A a j.toNatClampNeg (vp_nar .byte w))) : Inn own cc nL rt ini hh d n0 w0 o A' pc L (.int w :: .int j :: .ref a :: st) A := by
  intro p l e R s m args below meth c B Hb CS dC dI dA F hRm hB H locs ls ms hr hlo hL hst
  obtain ⟨hx, hb, hml, hlk, hown, hrt, hini, hT, hs0, hlw, hC⟩ := id F
  obtain ⟨mw, r0, rfl, h0, mj, r, rfl, h1, ma, r2, rfl, h2, hst⟩ := hst
  cases (show mw = Value.int w from h0)
  cases (show mj = Value.int j from h1)
  cases (show ma = Value.ref (adr B CS a) from h2)
  obtain ⟨ha1, ha2, ha3⟩ := hr.own hk (by simp) (by simp) (by simp)
  have hat := hr.at (celA_4 hk)
  rw [ha3] at hat ⊢
  refine w_bast (D := (dC, dI)) (cl := wcl) (tys := tyA dA) hx hb hC.2.2.1 3 (g := hI (sI A a j.toNatClampNeg (vp_nar .byte w)) a) hat rfl hj hd (fun q => by simp [hI, sI, up2]) (fun H1 z hz e1 e2 e3 => ?_)
  refine (K p l e R s m args below meth c B Hb CS dC dI dA F hRm hB H1 (locs ++ [z]) ls r2 ?_ ?_ hL hst)
  · refine hr.put ha1 e1 e2 rfl rfl (fun b hb => ?_) (fun e' he' => ?_)
    · exact celA_congr rfl (by first | rfl | (funext q; simp [hI, sI, up2, hb])) (by first | rfl | (funext q; simp [hJ, sJ, up2, hb])) rfl (by first | rfl | (funext q; simp [hU, sU, up2, hb]))
    · rw [celA_4 (n := n) (by exact hk)] at he'
      cases he'
      exact e3
  · intro y hy
    rcases List.mem_append.mp hy with h | h
    · exact hlo y h
    · rw [List.mem_singleton.mp h, hz]; omega
theorem in_lastore {n a : Nat} {j : Int32} {w : Int64} (hd : decode cc pc = .ok (.lastore, 1)) (hk : hK A a = (2, n)) (hj : vp_in j n) (K : Inn own cc nL rt ini hh d n0 w0 o A' (pc + 1) L st (sJ A a j.toNatClampNeg w)) : Inn own cc nL rt ini hh d n0 w0 o A' pc L (.long w :: .int j :: .ref a :: st) A := by
  intro p l e R s m args below meth c B Hb CS dC dI dA F hRm hB H locs ls ms hr hlo hL hst
  obtain ⟨hx, hb, hml, hlk, hown, hrt, hini, hT, hs0, hlw, hC⟩ := id F
  obtain ⟨mw, r0, rfl, h0, mj, r, rfl, h1, ma, r2, rfl, h2, hst⟩ := hst
  cases (show mw = Value.long w from h0)
  cases (show mj = Value.int j from h1)
  cases (show ma = Value.ref (adr B CS a) from h2)
  obtain ⟨ha1, ha2, ha3⟩ := hr.own hk (by simp) (by simp) (by simp)
  have hat := hr.at (celA_2 hk)
  rw [ha3] at hat ⊢
  refine w_last (D := (dC, dI)) (cl := wcl) (tys := tyA dA) hx hb hC.2.2.1 1 (g := hJ (sJ A a j.toNatClampNeg w) a) hat rfl hj hd (fun q => by simp [hJ, sJ, up2]) (fun H1 z hz e1 e2 e3 => ?_)
  refine (K p l e R s m args below meth c B Hb CS dC dI dA F hRm hB H1 (locs ++ [z]) ls r2 ?_ ?_ hL hst)
  · refine hr.put ha1 e1 e2 rfl rfl (fun b hb => ?_) (fun e' he' => ?_)
    · exact celA_congr rfl (by first | rfl | (funext q; simp [hI, sI, up2, hb])) (by first | rfl | (funext q; simp [hJ, sJ, up2, hb])) rfl (by first | rfl | (funext q; simp [hU, sU, up2, hb]))
    · rw [celA_2 (n := n) (by exact hk)] at he'
      cases he'
      exact e3
  · intro y hy
    rcases List.mem_append.mp hy with h | h
    · exact hlo y h
    · rw [List.mem_singleton.mp h, hz]; omega
theorem in_dastore {n a : Nat} {j : Int32} {w : UInt64} (hd : decode cc pc = .ok (.dastore, 1)) (hk : hK A a = (5, n)) (hj : vp_in j n) (K : Inn own cc nL rt ini hh d n0 w0 o A' (pc + 1) L st (sU A a j.toNatClampNeg w)) : Inn own cc nL rt ini hh d n0 w0 o A' pc L (.double w :: .int j :: .ref a :: st) A := by
  intro p l e R s m args below meth c B Hb CS dC dI dA F hRm hB H locs ls ms hr hlo hL hst
  obtain ⟨hx, hb, hml, hlk, hown, hrt, hini, hT, hs0, hlw, hC⟩ := id F
  obtain ⟨mw, r0, rfl, h0, mj, r, rfl, h1, ma, r2, rfl, h2, hst⟩ := hst
  cases (show mw = Value.double w from h0)
  cases (show mj = Value.int j from h1)
  cases (show ma = Value.ref (adr B CS a) from h2)
  obtain ⟨ha1, ha2, ha3⟩ := hr.own hk (by simp) (by simp) (by simp)
  have hat := hr.at (celA_5 hk)
  rw [ha3] at hat ⊢
  refine w_dast (D := (dC, dI)) (cl := wcl) (tys := tyA dA) hx hb hC.2.2.1 4 (g := hU (sU A a j.toNatClampNeg w) a) hat rfl hj hd (fun q => by simp [hU, sU, up2]) (fun H1 z hz e1 e2 e3 => ?_)
  refine (K p l e R s m args below meth c B Hb CS dC dI dA F hRm hB H1 (locs ++ [z]) ls r2 ?_ ?_ hL hst)
  · refine hr.put ha1 e1 e2 rfl rfl (fun b hb => ?_) (fun e' he' => ?_)
    · exact celA_congr rfl (by first | rfl | (funext q; simp [hI, sI, up2, hb])) (by first | rfl | (funext q; simp [hJ, sJ, up2, hb])) rfl (by first | rfl | (funext q; simp [hU, sU, up2, hb]))
    · rw [celA_5 (n := n) (by exact hk)] at he'
      cases he'
      exact e3
  · intro y hy
    rcases List.mem_append.mp hy with h | h
    · exact hlo y h
    · rw [List.mem_singleton.mp h, hz]; omega
theorem in_aastore {n a w : Nat} {j : Int32} (hd : decode cc pc = .ok (.aastore, 1)) (hk : hK A a = (7, n)) (hkw : hK A w = (12, 0)) (hj : vp_in j n) (K : Inn own cc nL rt ini hh d n0 w0 o A' (pc + 1) L st (sR A a j.toNatClampNeg (some w))) : Inn own cc nL rt ini hh d n0 w0 o A' pc L (.ref w :: .int j :: .ref a :: st) A := by
  intro p l e R s m args below meth c B Hb CS dC dI dA F hRm hB H locs ls ms hr hlo hL hst
  obtain ⟨hx, hb, hml, hlk, hown, hrt, hini, hT, hs0, hlw, hC⟩ := id F
  obtain ⟨mw, r0, rfl, h0, mj, r, rfl, h1, ma, r2, rfl, h2, hst⟩ := hst
  cases (show mw = Value.ref (adr B CS w) from h0)
  cases (show mj = Value.int j from h1)
  cases (show ma = Value.ref (adr B CS a) from h2)
  obtain ⟨ha1, ha2, ha3⟩ := hr.own hk (by simp) (by simp) (by simp)
  have hat := hr.at (celA_7 hk)
  have hatw := hr.at (celA_o (ci := 2) hkw)
  rw [ha3] at hat ⊢
  refine w_aast (D := (dC, dI)) (cl := wcl) (tys := tyA dA) hx hb hC.2.2.1 6 2 (r := ("LintelBrothers$Data", F_2, 6)) (g := fun j' => (hR (sR A a j.toNatClampNeg (some w)) a j').map (adr B CS)) hat rfl hatw rfl hj hd (fun q => by by_cases hq : q = j.toNatClampNeg <;> simp [hR, sR, up2, hq]) (fun H1 z hz e1 e2 e3 => ?_)
  refine (K p l e R s m args below meth c B Hb CS dC dI dA F hRm hB H1 (locs ++ [z]) ls r2 ?_ ?_ hL hst)
  · refine hr.put ha1 e1 e2 rfl rfl (fun b hb => ?_) (fun e' he' => ?_)
    · exact celA_congr rfl rfl rfl (by funext q; simp [hR, sR, up2, hb]) rfl
    · rw [celA_7 (n := n) (by exact hk)] at he'
      cases he'
      exact e3
  · intro y hy
    rcases List.mem_append.mp hy with h | h
    · exact hlo y h
    · rw [List.mem_singleton.mp h, hz]; omega
end IN
end
section
/-! new cells, ends -/
theorem wcl_def : ∀ ci, ci < 12 → ∀ q, wcl[ci]? = some q → ∀ k, k < q.2.2 → defaultValue (ffty ci k) = (match (ftag ci).getD k 0 with
    | 1 => Value.long 0
    | 2 => Value.null
    | _ => Value.int 0) := by
  have h : (List.range 12).all (fun ci => match wcl[ci]? with
    | some q => (List.range q.2.2).all (fun k => decide (defaultValue (ffty ci k) = (match (ftag ci).getD k 0 with
      | 1 => Value.long 0
      | 2 => Value.null
      | _ => Value.int 0)))
    | none => true) = true := by decide +kernel
  intro ci hci q hq k hk
  have h1 := List.all_eq_true.mp h ci (List.mem_range.mpr hci)
  rw [hq] at h1
  simp only [List.all_eq_true, List.mem_range, decide_eq_true_eq] at h1
  exact h1 k hk
/-- a class that is made: its link, its size -/
def nOK (own : String) (ix ci w : Nat) : Prop := ∃ q : vw_C, wcl[ci]? = some q ∧ w = q.2.2 ∧ Jvm.Cond.classLink own ix q.1 ∈ lw_tb ∧ Jvm.Cond.instantiable q.1 q.2.2 ∈ lw_tb ∧ Jvm.Cond.initialized q.1 ∈ lw_tb
def tyN (t : Nat) : FieldType := match t with
  | 1 => .int
  | 2 => .long
  | 3 => .char
  | 4 => .byte
  | _ => .double
theorem ac_ok : ∀ t, t < 6 → Jvm.Cond.arrayClass (tyN t) ∈ lw_tb := by
  have h : (List.range 6).all (fun t => decide (Jvm.Cond.arrayClass (tyN t) ∈ lw_tb)) = true := by decide +kernel
  intro t ht
  have h1 := List.all_eq_true.mp h t (List.mem_range.mpr ht)
  simpa using h1
section IN
variable {own : String} {cc : ByteArray} {nL : Nat} {rt : Option FieldType} {ini : Bool} {hh : List (Nat × Nat × Nat × Nat)} {d n0 w0 : Nat} {o : Out} {A A' : HP} {pc : Nat} {L : LV} {st : List Value}
theorem in_new {ci w ix : Nat} (hd : decode cc pc = .ok (.new ix, 3)) (hf : nOK own ix ci w) (hci : ci < 11) (h0 : n0 ≤ hn A) (h1 : w0 ≤ hw A) (h2 : hn A + 1 ≤ hn A') (h3 : hw A + w ≤ hw A') (K : Inn own cc nL rt ini hh d n0 w0 o A' (pc + 3) L (.ref (hn A) :: st) (mk A (10 + ci, 0) w)) : Inn own cc nL rt ini hh d n0 w0 o A' pc L st A := by
  intro p l e R s m args below meth c B Hb CS dC dI dA F hRm hB H locs ls ms hr hlo hL hst
  obtain ⟨hx, hb, hml, hlk, hown, hrt, hini, hT, hs0, hlw, hC⟩ := id F
  obtain ⟨⟨C, T, N⟩, hc, hw1, hl, hi1, hi2⟩ := hf
  have hq := List.mem_of_getElem? hc
  obtain ⟨htl, hty, hnm⟩ := wcl_ty ci (by omega) _ hc
  obtain ⟨g1, g2, g3, g4⟩ := hRm
  have hKn := hC.2.2.1.1 ci _ hc
  refine W.newcK (n := N) hx hb hown (hC.2.1 _ hl rfl args) (hC.2.1 _ hi1 rfl args) (hC.2.1 _ hi2 rfl args) rfl hd (by omega) (by dsimp only at hw1; omega) hKn.2.1 hr.size (fun H1 kC hkC e1 z1 o1 => ?_)
  have ec : hn A - n0 + 1 = hn (mk A (10 + ci, 0) w) - n0 := by show _ = hn A + 1 - n0; omega
  have es : hw A - w0 + N = hw (mk A (10 + ci, 0) w) - w0 := by show _ = hw A + w - w0; dsimp only at hw1; omega
  rw [ec, es]
  refine (K p l e R s m args below meth c B Hb CS dC dI dA F ⟨g1, g2, g3, g4⟩ hB H1 locs ls (_ :: ms) ?_ hlo hL (stR.cons (show vR B CS (.ref (hn A)) (.ref (B + hn A)) from ?_) hst))
  · refine hr.push (by rw [z1, hr.size]) (fun q hq => o1 q (by rw [hr.size] at hq; exact hq)) (by omega) rfl (fun b hb => by simp [hK, mk, hb]) (fun b hb => ?_) (fun e' he' => ?_)
    · exact celA_congr (by simp [hK, mk, hb]) (by funext j; simp [hI, mk, hb]) (by funext j; simp [hJ, mk, hb]) (by funext j; simp [hR, mk, hb]) (by funext j; simp [hU, mk, hb])
    · rw [celA_o (ci := ci) (by simp [hK, mk])] at he'
      cases he'
      refine ⟨_, hc, (u_born (ffty ci) (fun w hw => hC.2.1 w (wcl_ws _ hq w hw).1 (wcl_ws _ hq w hw).2 args) (fun _ h => h) hKn hkC e1 hty).to (fun k hk => ?_)⟩
      rw [wcl_def ci (by omega) _ hc k hk]
      have e9 : (objL B CS (mk A (10 + ci, 0) w) (hn A) (ftag ci)).getD k Value.null = fvl B CS (mk A (10 + ci, 0) w) (hn A) k ((ftag ci).getD k 0) := by
        rw [List.getD_eq_getElem?_getD, objL_get (by rw [htl]; exact hk)]
        rfl
      show _ = (objL B CS (mk A (10 + ci, 0) w) (hn A) (ftag ci)).getD k Value.null
      rw [e9]
      generalize (ftag ci).getD k 0 = t9
      rcases t9 with _ | _ | _ | t9 <;> simp [fvl, hI, hJ, hR, mk, va_rf]
  · show Value.ref (B + hn A) = .ref (adr B CS (hn A))
    unfold adr
    rw [if_pos hr.2.2.1]
theorem in_newa1 {v : Int32} (hd : decode cc pc = .ok (.newarray .int, 2)) (hv : ¬ v < 0) (hv2 : v.toNatClampNeg ≤ 65536) (h0 : n0 ≤ hn A) (h1 : w0 ≤ hw A) (h2 : hn A + 1 ≤ hn A') (h3 : hw A + v.toNatClampNeg ≤ hw A') (K : Inn own cc nL rt ini hh d n0 w0 o A' (pc + 2) L (.ref (hn A) :: st) (mk A (1, v.toNatClampNeg) v.toNatClampNeg)) : Inn own cc nL rt ini hh d n0 w0 o A' pc L (.int v :: st) A := by
  intro p l e R s m args below meth c B Hb CS dC dI dA F hRm hB H locs ls ms hr hlo hL hst
  obtain ⟨hx, hb, hml, hlk, hown, hrt, hini, hT, hs0, hlw, hC⟩ := id F
  obtain ⟨mv, r, rfl, hv1, hst⟩ := hst
  cases (show mv = Value.int v from hv1)
  obtain ⟨g1, g2, g3, g4⟩ := hRm
  have hac : Jvm.Cond.arrayClass (newarray.typeOf .int) ∈ lw_tb := ac_ok 1 (by omega)
  refine va_newaK hx hb (hC.2.1 _ hac rfl args) rfl hd rfl hv rfl (by have : componentBytes (newarray.typeOf .int) ≤ 8 := (by decide); exact Nat.le_trans (Nat.mul_le_mul hv2 this) (by decide)) (by omega) (by omega) hr.size (fun H1 cA e1 z1 o1 hAr hNm => ?_)
  have hcA : cA = dA 1 := Option.some.inj (hNm.symm.trans (hC.2.2.1.2 0 _ rfl).2)
  subst hcA
  have ec : hn A - n0 + 1 = hn (mk A (1, v.toNatClampNeg) v.toNatClampNeg) - n0 := by show _ = hn A + 1 - n0; omega
  have es : hw A - w0 + v.toNatClampNeg = hw (mk A (1, v.toNatClampNeg) v.toNatClampNeg) - w0 := by show _ = hw A + v.toNatClampNeg - w0; omega
  rw [ec, es]
  refine (K p l e R s m args below meth c B Hb CS dC dI dA F ⟨g1, g2, g3, g4⟩ hB H1 locs ls (_ :: r) ?_ hlo hL (stR.cons (show vR B CS (.ref (hn A)) (.ref (B + hn A)) from ?_) hst))
  · refine hr.push (by rw [z1, hr.size]) (fun q hq => o1 q (by rw [hr.size] at hq; exact hq)) (by omega) rfl (fun b hb => by simp [hK, mk, hb]) (fun b hb => ?_) (fun e' he' => ?_)
    · exact celA_congr (by simp [hK, mk, hb]) (by funext j; simp [hI, mk, hb]) (by funext j; simp [hJ, mk, hb]) (by funext j; simp [hR, mk, hb]) (by funext j; simp [hU, mk, hb])
    · rw [celA_1 (n := v.toNatClampNeg) (by simp [hK, mk])] at he'
      cases he'
      show H1[B + hn A]? = some (vp_cell _ _)
      rw [e1, vp_cell_i]
      refine congrArg some (congrArg (arrV (dA 1) v.toNatClampNeg) (funext fun j => ?_))
      simp [hI, mk, newarray.typeOf, defaultValue]
  · show Value.ref (B + hn A) = .ref (adr B CS (hn A))
    unfold adr
    rw [if_pos hr.2.2.1]
theorem in_newa2 {v : Int32} (hd : decode cc pc = .ok (.newarray .long, 2)) (hv : ¬ v < 0) (hv2 : v.toNatClampNeg ≤ 65536) (h0 : n0 ≤ hn A) (h1 : w0 ≤ hw A) (h2 : hn A + 1 ≤ hn A') (h3 : hw A + v.toNatClampNeg ≤ hw A') (K : Inn own cc nL rt ini hh d n0 w0 o A' (pc + 2) L (.ref (hn A) :: st) (mk A (2, v.toNatClampNeg) v.toNatClampNeg)) : Inn own cc nL rt ini hh d n0 w0 o A' pc L (.int v :: st) A := by
  intro p l e R s m args below meth c B Hb CS dC dI dA F hRm hB H locs ls ms hr hlo hL hst
  obtain ⟨hx, hb, hml, hlk, hown, hrt, hini, hT, hs0, hlw, hC⟩ := id F
  obtain ⟨mv, r, rfl, hv1, hst⟩ := hst
  cases (show mv = Value.int v from hv1)
  obtain ⟨g1, g2, g3, g4⟩ := hRm
  have hac : Jvm.Cond.arrayClass (newarray.typeOf .long) ∈ lw_tb := ac_ok 2 (by omega)
  refine va_newaK hx hb (hC.2.1 _ hac rfl args) rfl hd rfl hv rfl (by have : componentBytes (newarray.typeOf .long) ≤ 8 := (by decide); exact Nat.le_trans (Nat.mul_le_mul hv2 this) (by decide)) (by omega) (by omega) hr.size (fun H1 cA e1 z1 o1 hAr hNm => ?_)
  have hcA : cA = dA 2 := Option.some.inj (hNm.symm.trans (hC.2.2.1.2 1 _ rfl).2)
  subst hcA
  have ec : hn A - n0 + 1 = hn (mk A (2, v.toNatClampNeg) v.toNatClampNeg) - n0 := by show _ = hn A + 1 - n0; omega
  have es : hw A - w0 + v.toNatClampNeg = hw (mk A (2, v.toNatClampNeg) v.toNatClampNeg) - w0 := by show _ = hw A + v.toNatClampNeg - w0; omega
  rw [ec, es]
  refine (K p l e R s m args below meth c B Hb CS dC dI dA F ⟨g1, g2, g3, g4⟩ hB H1 locs ls (_ :: r) ?_ hlo hL (stR.cons (show vR B CS (.ref (hn A)) (.ref (B + hn A)) from ?_) hst))
  · refine hr.push (by rw [z1, hr.size]) (fun q hq => o1 q (by rw [hr.size] at hq; exact hq)) (by omega) rfl (fun b hb => by simp [hK, mk, hb]) (fun b hb => ?_) (fun e' he' => ?_)
    · exact celA_congr (by simp [hK, mk, hb]) (by funext j; simp [hI, mk, hb]) (by funext j; simp [hJ, mk, hb]) (by funext j; simp [hR, mk, hb]) (by funext j; simp [hU, mk, hb])
    · rw [celA_2 (n := v.toNatClampNeg) (by simp [hK, mk])] at he'
      cases he'
      show H1[B + hn A]? = some (vp_cell _ _)
      rw [e1, vp_cell_l]
      refine congrArg some (congrArg (arrV (dA 2) v.toNatClampNeg) (funext fun j => ?_))
      simp [hJ, mk, newarray.typeOf, defaultValue]
  · show Value.ref (B + hn A) = .ref (adr B CS (hn A))
    unfold adr
    rw [if_pos hr.2.2.1]
theorem in_newa3 {v : Int32} (hd : decode cc pc = .ok (.newarray .char, 2)) (hv : ¬ v < 0) (hv2 : v.toNatClampNeg ≤ 65536) (h0 : n0 ≤ hn A) (h1 : w0 ≤ hw A) (h2 : hn A + 1 ≤ hn A') (h3 : hw A + v.toNatClampNeg ≤ hw A') (K : Inn own cc nL rt ini hh d n0 w0 o A' (pc + 2) L (.ref (hn A) :: st) (mk A (3, v.toNatClampNeg) v.toNatClampNeg)) : Inn own cc nL rt ini hh d n0 w0 o A' pc L (.int v :: st) A := by
  intro p l e R s m args below meth c B Hb CS dC dI dA F hRm hB H locs ls ms hr hlo hL hst
  obtain ⟨hx, hb, hml, hlk, hown, hrt, hini, hT, hs0, hlw, hC⟩ := id F
  obtain ⟨mv, r, rfl, hv1, hst⟩ := hst
  cases (show mv = Value.int v from hv1)
  obtain ⟨g1, g2, g3, g4⟩ := hRm
  have hac : Jvm.Cond.arrayClass (newarray.typeOf .char) ∈ lw_tb := ac_ok 3 (by omega)
  refine va_newaK hx hb (hC.2.1 _ hac rfl args) rfl hd rfl hv rfl (by have : componentBytes (newarray.typeOf .char) ≤ 8 := (by decide); exact Nat.le_trans (Nat.mul_le_mul hv2 this) (by decide)) (by omega) (by omega) hr.size (fun H1 cA e1 z1 o1 hAr hNm => ?_)
  have hcA : cA = dA 3 := Option.some.inj (hNm.symm.trans (hC.2.2.1.2 2 _ rfl).2)
  subst hcA
  have ec : hn A - n0 + 1 = hn (mk A (3, v.toNatClampNeg) v.toNatClampNeg) - n0 := by show _ = hn A + 1 - n0; omega
  have es : hw A - w0 + v.toNatClampNeg = hw (mk A (3, v.toNatClampNeg) v.toNatClampNeg) - w0 := by show _ = hw A + v.toNatClampNeg - w0; omega
  rw [ec, es]
  refine (K p l e R s m args below meth c B Hb CS dC dI dA F ⟨g1, g2, g3, g4⟩ hB H1 locs ls (_ :: r) ?_ hlo hL (stR.cons (show vR B CS (.ref (hn A)) (.ref (B + hn A)) from ?_) hst))
  · refine hr.push (by rw [z1, hr.size]) (fun q hq => o1 q (by rw [hr.size] at hq; exact hq)) (by omega) rfl (fun b hb => by simp [hK, mk, hb]) (fun b hb => ?_) (fun e' he' => ?_)
    · exact celA_congr (by simp [hK, mk, hb]) (by funext j; simp [hI, mk, hb]) (by funext j; simp [hJ, mk, hb]) (by funext j; simp [hR, mk, hb]) (by funext j; simp [hU, mk, hb])
    · rw [celA_3 (n := v.toNatClampNeg) (by simp [hK, mk])] at he'
      cases he'
      show H1[B + hn A]? = some (vp_cell _ _)
      rw [e1, vp_cell_i]
      refine congrArg some (congrArg (arrV (dA 3) v.toNatClampNeg) (funext fun j => ?_))
      simp [hI, mk, newarray.typeOf, defaultValue]
  · show Value.ref (B + hn A) = .ref (adr B CS (hn A))
    unfold adr
    rw [if_pos hr.2.2.1]
theorem in_newa4 {v : Int32} (hd : decode cc pc = .ok (.newarray .byte, 2)) (hv : ¬ v < 0) (hv2 : v.toNatClampNeg ≤ 65536) (h0 : n0 ≤ hn A) (h1 : w0 ≤ hw A) (h2 : hn A + 1 ≤ hn A') (h3 : hw A + v.toNatClampNeg ≤ hw A') (K : Inn own cc nL rt ini hh d n0 w0 o A' (pc + 2) L (.ref (hn A) :: st) (mk A (4, v.toNatClampNeg) v.toNatClampNeg)) : Inn own cc nL rt ini hh d n0 w0 o A' pc L (.int v :: st) A := by
  intro p l e R s m args below meth c B Hb CS dC dI dA F hRm hB H locs ls ms hr hlo hL hst
  obtain ⟨hx, hb, hml, hlk, hown, hrt, hini, hT, hs0, hlw, hC⟩ := id F
  obtain ⟨mv, r, rfl, hv1, hst⟩ := hst
  cases (show mv = Value.int v from hv1)
  obtain ⟨g1, g2, g3, g4⟩ := hRm
  have hac : Jvm.Cond.arrayClass (newarray.typeOf .byte) ∈ lw_tb := ac_ok 4 (by omega)
  refine va_newaK hx hb (hC.2.1 _ hac rfl args) rfl hd rfl hv rfl (by have : componentBytes (newarray.typeOf .byte) ≤ 8 := (by decide); exact Nat.le_trans (Nat.mul_le_mul hv2 this) (by decide)) (by omega) (by omega) hr.size (fun H1 cA e1 z1 o1 hAr hNm => ?_)
  have hcA : cA = dA 4 := Option.some.inj (hNm.symm.trans (hC.2.2.1.2 3 _ rfl).2)
  subst hcA
  have ec : hn A - n0 + 1 = hn (mk A (4, v.toNatClampNeg) v.toNatClampNeg) - n0 := by show _ = hn A + 1 - n0; omega
  have es : hw A - w0 + v.toNatClampNeg = hw (mk A (4, v.toNatClampNeg) v.toNatClampNeg) - w0 := by show _ = hw A + v.toNatClampNeg - w0; omega
  rw [ec, es]
  refine (K p l e R s m args below meth c B Hb CS dC dI dA F ⟨g1, g2, g3, g4⟩ hB H1 locs ls (_ :: r) ?_ hlo hL (stR.cons (show vR B CS (.ref (hn A)) (.ref (B + hn A)) from ?_) hst))
  · refine hr.push (by rw [z1, hr.size]) (fun q hq => o1 q (by rw [hr.size] at hq; exact hq)) (by omega) rfl (fun b hb => by simp [hK, mk, hb]) (fun b hb => ?_) (fun e' he' => ?_)
    · exact celA_congr (by simp [hK, mk, hb]) (by funext j; simp [hI, mk, hb]) (by funext j; simp [hJ, mk, hb]) (by funext j; simp [hR, mk, hb]) (by funext j; simp [hU, mk, hb])
    · rw [celA_4 (n := v.toNatClampNeg) (by simp [hK, mk])] at he'
      cases he'
      show H1[B + hn A]? = some (vp_cell _ _)
      rw [e1, vp_cell_i]
      refine congrArg some (congrArg (arrV (dA 4) v.toNatClampNeg) (funext fun j => ?_))
      simp [hI, mk, newarray.typeOf, defaultValue]
  · show Value.ref (B + hn A) = .ref (adr B CS (hn A))
    unfold adr
    rw [if_pos hr.2.2.1]
theorem in_newa5 {v : Int32} (hd : decode cc pc = .ok (.newarray .double, 2)) (hv : ¬ v < 0) (hv2 : v.toNatClampNeg ≤ 65536) (h0 : n0 ≤ hn A) (h1 : w0 ≤ hw A) (h2 : hn A + 1 ≤ hn A') (h3 : hw A + v.toNatClampNeg ≤ hw A') (K : Inn own cc nL rt ini hh d n0 w0 o A' (pc + 2) L (.ref (hn A) :: st) (mk A (5, v.toNatClampNeg) v.toNatClampNeg)) : Inn own cc nL rt ini hh d n0 w0 o A' pc L (.int v :: st) A := by
  intro p l e R s m args below meth c B Hb CS dC dI dA F hRm hB H locs ls ms hr hlo hL hst
  obtain ⟨hx, hb, hml, hlk, hown, hrt, hini, hT, hs0, hlw, hC⟩ := id F
  obtain ⟨mv, r, rfl, hv1, hst⟩ := hst
  cases (show mv = Value.int v from hv1)
  obtain ⟨g1, g2, g3, g4⟩ := hRm
  have hac : Jvm.Cond.arrayClass (newarray.typeOf .double) ∈ lw_tb := ac_ok 5 (by omega)
  refine va_newaK hx hb (hC.2.1 _ hac rfl args) rfl hd rfl hv rfl (by have : componentBytes (newarray.typeOf .double) ≤ 8 := (by decide); exact Nat.le_trans (Nat.mul_le_mul hv2 this) (by decide)) (by omega) (by omega) hr.size (fun H1 cA e1 z1 o1 hAr hNm => ?_)
  have hcA : cA = dA 5 := Option.some.inj (hNm.symm.trans (hC.2.2.1.2 4 _ rfl).2)
  subst hcA
  have ec : hn A - n0 + 1 = hn (mk A (5, v.toNatClampNeg) v.toNatClampNeg) - n0 := by show _ = hn A + 1 - n0; omega
  have es : hw A - w0 + v.toNatClampNeg = hw (mk A (5, v.toNatClampNeg) v.toNatClampNeg) - w0 := by show _ = hw A + v.toNatClampNeg - w0; omega
  rw [ec, es]
  refine (K p l e R s m args below meth c B Hb CS dC dI dA F ⟨g1, g2, g3, g4⟩ hB H1 locs ls (_ :: r) ?_ hlo hL (stR.cons (show vR B CS (.ref (hn A)) (.ref (B + hn A)) from ?_) hst))
  · refine hr.push (by rw [z1, hr.size]) (fun q hq => o1 q (by rw [hr.size] at hq; exact hq)) (by omega) rfl (fun b hb => by simp [hK, mk, hb]) (fun b hb => ?_) (fun e' he' => ?_)
    · exact celA_congr (by simp [hK, mk, hb]) (by funext j; simp [hI, mk, hb]) (by funext j; simp [hJ, mk, hb]) (by funext j; simp [hR, mk, hb]) (by funext j; simp [hU, mk, hb])
    · rw [celA_5 (n := v.toNatClampNeg) (by simp [hK, mk])] at he'
      cases he'
      show H1[B + hn A]? = some (vp_cell _ _)
      rw [e1, vp_cell_d]
      refine congrArg some (congrArg (arrV (dA 5) v.toNatClampNeg) (funext fun j => ?_))
      simp [hU, mk, newarray.typeOf, defaultValue]
  · show Value.ref (B + hn A) = .ref (adr B CS (hn A))
    unfold adr
    rw [if_pos hr.2.2.1]
theorem in_anewa {v : Int32} {ix : Nat} (hd : decode cc pc = .ok (.anewarray ix, 3)) (hl : Jvm.Cond.classLink own ix "LintelBrothers$Data" ∈ lw_tb) (hl2 : Jvm.Cond.arrayOver (.object "LintelBrothers$Data") ∈ lw_tb ∧ pW (Jvm.Cond.arrayOver (.object "LintelBrothers$Data")) = true) (hv : ¬ v < 0) (hv2 : v.toNatClampNeg ≤ 65536) (h0 : n0 ≤ hn A) (h1 : w0 ≤ hw A) (h2 : hn A + 1 ≤ hn A') (h3 : hw A + v.toNatClampNeg ≤ hw A') (K : Inn own cc nL rt ini hh d n0 w0 o A' (pc + 3) L (.ref (hn A) :: st) (mk A (7, v.toNatClampNeg) v.toNatClampNeg)) : Inn own cc nL rt ini hh d n0 w0 o A' pc L (.int v :: st) A := by
  intro p l e R s m args below meth c B Hb CS dC dI dA F hRm hB H locs ls ms hr hlo hL hst
  obtain ⟨hx, hb, hml, hlk, hown, hrt, hini, hT, hs0, hlw, hC⟩ := id F
  obtain ⟨mv, r, rfl, hv1, hst⟩ := hst
  cases (show mv = Value.int v from hv1)
  obtain ⟨g1, g2, g3, g4⟩ := hRm
  refine W.anew (C := "LintelBrothers$Data") hx hb hown (hC.2.1 _ hl rfl args) (hC.2.1 _ hl2.1 hl2.2 args) rfl hd rfl hv (by omega) (by omega) (by omega) (fun cA kA comp j1 j2 j3 j4 => ?_)
  obtain ⟨hAr, kA', comp', k1, k2, k3, k4⟩ := hC.2.2.1.2 6 _ rfl
  have hcA : cA = dA 7 := Option.some.inj (j1.symm.trans k4)
  subst hcA
  have ec : hn A - n0 + 1 = hn (mk A (7, v.toNatClampNeg) v.toNatClampNeg) - n0 := by show _ = hn A + 1 - n0; omega
  have es : hw A - w0 + v.toNatClampNeg = hw (mk A (7, v.toNatClampNeg) v.toNatClampNeg) - w0 := by show _ = hw A + v.toNatClampNeg - w0; omega
  rw [ec, es]
  refine (K p l e R s m args below meth c B Hb CS dC dI dA F ⟨g1, g2, g3, g4⟩ hB _ locs ls (_ :: r) ?_ hlo hL (stR.cons (show vR B CS (.ref (hn A)) (.ref H.size) from ?_) hst))
  · refine hr.push (by simp) (fun q hq => by rw [Array.getElem?_push, if_neg (Nat.ne_of_lt hq)]) (by omega) rfl (fun b hb => by simp [hK, mk, hb]) (fun b hb => ?_) (fun e' he' => ?_)
    · exact celA_congr (by simp [hK, mk, hb]) (by funext j; simp [hI, mk, hb]) (by funext j; simp [hJ, mk, hb]) (by funext j; simp [hR, mk, hb]) (by funext j; simp [hU, mk, hb])
    · rw [celA_7 (n := v.toNatClampNeg) (by simp [hK, mk])] at he'
      cases he'
      show (H.push _)[B + hn A]? = some (vp_cell _ _)
      rw [← hr.size, arrV_new, vp_cell_q]
      simp [hR, mk, va_rf]
  · show Value.ref H.size = .ref (adr B CS (hn A))
    unfold adr
    rw [if_pos hr.2.2.1, hr.size]
theorem in_iret (hd : decode cc pc = .ok (.ireturn, 1)) {v : Int32} {ty : FieldType} (hty : rt = some ty) (hn9 : narrow ty (.int v) = .int v) (h0 : n0 ≤ hn A) (h1 : w0 ≤ hw A) : Inn own cc nL rt ini hh d n0 w0 (.inl (some (.int v))) A pc L [.int v] A := by
  intro p l e R s m args below meth c B Hb CS dC dI dA F hRm hB H locs ls ms hr hlo hL hst
  obtain ⟨hx, hb, hml, hlk, hown, hrt, hini, hT, hs0, hlw, hC⟩ := id F
  obtain ⟨mv, r, rfl, h1v, hst⟩ := hst
  cases (show r = [] from hst)
  cases (show mv = lvA B CS (.int v) from h1v)
  refine vx_ret ?_
  exact W.zret hx hb (hrt.trans hty) hn9 (fun t ht hW => ⟨some (.int v), rfl, rfl, by rw [ht]; exact hr⟩) hlo hd hlk
theorem in_lret (hd : decode cc pc = .ok (.lreturn, 1)) {v : Int64} (hty : rt = some .long) (h0 : n0 ≤ hn A) (h1 : w0 ≤ hw A) : Inn own cc nL rt ini hh d n0 w0 (.inl (some (.long v))) A pc L [.long v] A := by
  intro p l e R s m args below meth c B Hb CS dC dI dA F hRm hB H locs ls ms hr hlo hL hst
  obtain ⟨hx, hb, hml, hlk, hown, hrt, hini, hT, hs0, hlw, hC⟩ := id F
  obtain ⟨mv, r, rfl, h1v, hst⟩ := hst
  cases (show r = [] from hst)
  cases (show mv = lvA B CS (.long v) from h1v)
  refine vx_ret ?_
  exact W.lret hx hb (hrt.trans hty) (fun t ht hW => ⟨some (.long v), rfl, rfl, by rw [ht]; exact hr⟩) hlo hd hlk
theorem in_dret (hd : decode cc pc = .ok (.dreturn, 1)) {v : UInt64} (hty : rt = some .double) (h0 : n0 ≤ hn A) (h1 : w0 ≤ hw A) : Inn own cc nL rt ini hh d n0 w0 (.inl (some (.double v))) A pc L [.double v] A := by
  intro p l e R s m args below meth c B Hb CS dC dI dA F hRm hB H locs ls ms hr hlo hL hst
  obtain ⟨hx, hb, hml, hlk, hown, hrt, hini, hT, hs0, hlw, hC⟩ := id F
  obtain ⟨mv, r, rfl, h1v, hst⟩ := hst
  cases (show r = [] from hst)
  cases (show mv = lvA B CS (.double v) from h1v)
  refine vx_ret ?_
  exact W.dret hx hb (hrt.trans hty) (fun t ht hW => ⟨some (.double v), rfl, rfl, by rw [ht]; exact hr⟩) hlo hd hlk
theorem in_fret (hd : decode cc pc = .ok (.freturn, 1)) {v : UInt32} (hty : rt = some .float) (h0 : n0 ≤ hn A) (h1 : w0 ≤ hw A) : Inn own cc nL rt ini hh d n0 w0 (.inl (some (.float v))) A pc L [.float v] A := by
  intro p l e R s m args below meth c B Hb CS dC dI dA F hRm hB H locs ls ms hr hlo hL hst
  obtain ⟨hx, hb, hml, hlk, hown, hrt, hini, hT, hs0, hlw, hC⟩ := id F
  obtain ⟨mv, r, rfl, h1v, hst⟩ := hst
  cases (show r = [] from hst)
  cases (show mv = lvA B CS (.float v) from h1v)
  refine vx_ret ?_
  exact W.fret hx hb (hrt.trans hty) (fun t ht hW => ⟨some (.float v), rfl, rfl, by rw [ht]; exact hr⟩) hlo hd hlk
theorem in_aret (hd : decode cc pc = .ok (.areturn, 1)) {v : Nat} {rt0 : FieldType} (hty : rt = some rt0) (hrt0 : (∃ n, rt0 = .object n) ∨ ∃ t, rt0 = .array t) (h0 : n0 ≤ hn A) (h1 : w0 ≤ hw A) : Inn own cc nL rt ini hh d n0 w0 (.inl (some (.ref v))) A pc L [.ref v] A := by
  intro p l e R s m args below meth c B Hb CS dC dI dA F hRm hB H locs ls ms hr hlo hL hst
  obtain ⟨hx, hb, hml, hlk, hown, hrt, hini, hT, hs0, hlw, hC⟩ := id F
  obtain ⟨mv, r, rfl, h1v, hst⟩ := hst
  cases (show r = [] from hst)
  cases (show mv = lvA B CS (.ref v) from h1v)
  refine vx_ret ?_
  exact W.aret hx hb (hrt.trans hty) hrt0 (Or.inr ⟨_, rfl⟩) (fun t ht hW => ⟨some (.ref v), rfl, rfl, by rw [ht]; exact hr⟩) hlo hd hlk
theorem in_vret (hd : decode cc pc = .ok (.return_, 1)) (hty : rt = none) (h0 : n0 ≤ hn A) (h1 : w0 ≤ hw A) : Inn own cc nL rt ini hh d n0 w0 (.inl none) A pc L [] A := by
  intro p l e R s m args below meth c B Hb CS dC dI dA F hRm hB H locs ls ms hr hlo hL hst
  obtain ⟨hx, hb, hml, hlk, hown, hrt, hini, hT, hs0, hlw, hC⟩ := id F
  cases (show ms = [] from hst)
  refine vx_ret ?_
  exact W.vret hx hb (hrt.trans hty) (fun t ht hW => ⟨none, rfl, rfl, by rw [ht]; exact hr⟩) hlo hd hlk
end IN
end
section
/-! throws, copies, the JDK's small functions, switches -/
theorem catS_sum : ∀ l : List Value, (l.map fun v => v.category).sum = catS l
  | [] => rfl
  | v :: l => by rw [List.map_cons, List.sum_cons, catS_sum l]; rfl
theorem stR.sum {B : Nat} {CS : Nat → Nat} {st ms : List Value} (h : stR B CS st ms) : (ms.map fun v => v.category).sum = catS st := by rw [h.cats, catS_sum]
/-- a throw's words -/
def tOK (own : String) (ik is ic : Nat) (text : String) (E : Nat) : Prop := E < 6 ∧ Jvm.Cond.classLink own ik (exN E) ∈ lw_tb ∧ Jvm.Cond.initialized (exN E) ∈ lw_tb ∧ (own, is, text) ∈ msgT ∧
  (vx_atS own ic (exN E) ["java/lang/RuntimeException", "java/lang/Exception"]).all (fun w => decide (w ∈ lw_tb) && pW w && vx_ot w) = true
theorem ex_fit : ∀ E, E < 6 → Bundle.fit (exN E) = true := by decide +kernel
section CW
variable {p : Program} {l : Launch} {e : Env} {R : Room} {s : State} {m : MethodId} {args : Array Value} {below : List Frame} {meth : Method} {c : Code} {H : Heap} {locs : List Loc} {cells slots : Nat} {Q : State → Prop}
variable {cc : ByteArray} {pc : Nat} {ls : Array Slot} {rest : List Value} {D : va_G} {cl : List vw_C} {a : Nat} {tys : List (ClassId × FieldType)}
theorem w_copy {cc : ByteArray} (hexec : p.tables.exec = Jvm.exec) (hb : c.code = cc) (hml : c.maxLocals = ls.size) {own : String} {index : Nat} (hown : s.vm.findClass own = some m.cls) (hlink : (Cond.methodLink own index arraycopyName).before args s = true) (hnat : (Cond.native arraycopyName).before args s = true) (hstat : (Cond.static arraycopyName).before args s = true) (hini : (Cond.initialized "java/lang/System").before args s = true)
    (hK : va_K D cl tys s) (t0 t1 : Nat) {a0 : Nat} {c0 c1 : ClassId} {n0 n1 : Nat} {f g : Nat → Int32} {ty : FieldType} (hc0 : H[a0]? = some (vp_cell c0 (n0, .inl f))) (hc1 : H[a]? = some (vp_cell c1 (n1, .inl g))) (ht0 : tys[t0]? = some (c0, ty)) (ht1 : tys[t1]? = some (c1, ty)) (hprim : refKind ty = false)
    {sp dp n : Int32} (h1 : ¬ sp < 0) (h2 : ¬ dp < 0) (h3 : ¬ n < 0) (h4 : sp.toNatClampNeg + n.toNatClampNeg ≤ n0) (h5 : dp.toNatClampNeg + n.toNatClampNeg ≤ n1) (hfit : ∀ i, i < n.toNatClampNeg → fits ty (.int (f (sp.toNatClampNeg + i))) = true)
    (hframes : 1 ≤ R.frames) (hlocals : (rest.map fun v => v.category).sum + (nativeFrameWords "java/lang/System" "arraycopy" 5 + 11) ≤ R.locals) (hdg : decode cc pc = .ok (.invokestatic index, 3))
    (kk : ∀ (H1 : Heap) (L : List Loc), (∀ z ∈ L, z.base = a) → H1.size = H.size → (∀ q : Nat, q ≠ a → H1[q]? = H[q]?) → H1[a]? = some (vp_cell c1 (n1, .inl (va_cpy f g sp.toNatClampNeg dp.toNatClampNeg n.toNatClampNeg))) → W p l e R s m args below meth c H1 (locs ++ L) cells slots Q (F0 m (pc + 3) ls rest)) : W p l e R s m args below meth c H locs cells slots Q (F0 m pc ls (.int n :: .int dp :: .ref a :: .int sp :: .ref a0 :: rest)) := by
  have nn : ∀ z : Int32, ¬ z < 0 → z.toInt = (z.toNatClampNeg : Int) := by
    intro z hz
    have hz0 : (0 : Int) ≤ z.toInt := by
      have := Int32.not_lt.mp hz
      simpa using Int32.le_iff_toInt_le.mp this
    show z.toInt = ((z.toInt.toNat : Nat) : Int)
    omega
  intro T hT X
  obtain ⟨-, k0, hk0, cm0, hkk0⟩ := (hK.2 t0 _ ht0).1 n0 (fun j => .int (f j))
  obtain ⟨-, k1, hk1, cm1, hkk1⟩ := (hK.2 t1 _ ht1).1 n1 (fun j => .int (g j))
  obtain ⟨vm', X', step⟩ := X.arraycopy hexec hown hlink hnat hstat hini (src := a0) (dst := a) (cs := vp_cell c0 (n0, .inl f)) (cd := vp_cell c1 (n1, .inl g)) (srcPos := sp) (destPos := dp) (n := n) (by rw [hT]; exact hc0) (by rw [hT]; exact hc1)
    (fun _ h => by cases h) (fun _ h => by cases h) (fun h => by cases h) (fun h => by cases h) hk0 hk1 hkk0 hkk1 (by simp [hprim]) h1 h2 h3
    (by rw [nn sp h1, nn n h3]; show ¬ _ > ((arrV c0 n0 (fun j => .int (f j))).slots.size : Int); rw [arrV_size]; omega)
    (by rw [nn dp h2, nn n h3]; show ¬ _ > ((arrV c1 n1 (fun j => .int (g j))).slots.size : Int); rw [arrV_size]; omega)
    (fun vm₁ _ i hi => by
      have e : (vp_cell c0 (n0, .inl f)).slots.getD (sp.toNatClampNeg + i) .null = .int (f (sp.toNatClampNeg + i)) := by
        show (arrV c0 n0 (fun j => .int (f j))).slots.getD _ _ = _
        rw [Array.getD_eq_getD_getElem?, arrV_read _ _ (by omega)]
        rfl
      refine ⟨?_, ?_⟩
      · rw [e]
        exact hfit i hi
      · rw [e]
        exact trivial)
    (g := F0 m pc ls (.int n :: .int dp :: .ref a :: .int sp :: .ref a0 :: rest)) rfl (by rw [hml]) (rest := rest) rfl (by rw [hb]; exact hdg) hframes (by show 2 * 0 + _ + _ ≤ _; omega)
  have e1 : copied (vp_cell c0 (n0, .inl f)) (vp_cell c1 (n1, .inl g)) sp dp n = vp_cell c1 (n1, .inl (va_cpy f g sp.toNatClampNeg dp.toNatClampNeg n.toNatClampNeg)) := va_copied (fun z => .int z) c0 c1 f g h4
  rw [e1] at X' step
  have hl : a < H.size := (Array.getElem?_eq_some_iff.mp hc1).1
  have hheap : ((T.setVm vm').setCell a (vp_cell c1 (n1, .inl (va_cpy f g sp.toNatClampNeg dp.toNatClampNeg n.toNatClampNeg)))).heap = H.setIfInBounds a (vp_cell c1 (n1, .inl (va_cpy f g sp.toNatClampNeg dp.toNatClampNeg n.toNatClampNeg))) := by rw [← hT]; rfl
  have oq : ∀ q : Nat, q ≠ a → (H.setIfInBounds a (vp_cell c1 (n1, .inl (va_cpy f g sp.toNatClampNeg dp.toNatClampNeg n.toNatClampNeg))))[q]? = H[q]? := fun q hq => by simp [Array.getElem?_setIfInBounds, Ne.symm hq]
  obtain ⟨t, a1, b1⟩ := kk _ _ (fun z hz => by
      obtain ⟨y, -, hy⟩ := List.mem_map.mp hz
      rw [← hy]) (by simp) oq (show (H.setIfInBounds a _)[a]? = some _ by simp [Array.getElem?_setIfInBounds, hl]) _ hheap X'
  exact ⟨t, step t a1, b1⟩
end CW
section IN
variable {own : String} {cc : ByteArray} {nL : Nat} {rt : Option FieldType} {ini : Bool} {hh : List (Nat × Nat × Nat × Nat)} {d n0 w0 : Nat} {o : Out} {A A' : HP} {pc : Nat} {L : LV} {st : List Value}
theorem in_throw {ik is ic E : Nat} {text : String} (d0 : decode cc pc = .ok (.new ik, 3)) (d3 : decode cc (pc + 3) = .ok (.dup, 1)) (d4 : decode cc (pc + 4) = .ok (.ldc is, 2)) (d6 : decode cc (pc + 6) = .ok (.invokespecial ic, 3)) (d9 : decode cc (pc + 9) = .ok (.athrow, 1)) (hf : tOK own ik is ic text E) (hhh : hh = []) (h0 : n0 ≤ hn A) (h1 : w0 ≤ hw A) : Inn own cc nL rt ini hh d n0 w0 (.inr E) (junk A 6) pc L [] A := by
  intro p l e R s m args below meth c B Hb CS dC dI dA F hRm hB H locs ls ms hr hlo hL hst
  obtain ⟨hx, hb, hml, hlk, hown, hrt, hini, hT, hs0, hlw, hC⟩ := id F
  cases (show ms = [] from hst)
  obtain ⟨hE, hk, hi, hmsg, hall⟩ := hf
  obtain ⟨sa, hstr⟩ := hC.2.2.2.1 _ hmsg
  obtain ⟨g1, g2, g3, g4⟩ := hRm
  have hwz : ∀ w ∈ vx_atS own ic (exN E) ["java/lang/RuntimeException", "java/lang/Exception"], w ∈ lw_tb ∧ pW w = true ∧ vx_ot w = true := fun w hw9 => by
    have h := List.all_eq_true.mp hall w hw9
    simpa [and_assoc] using h
  have hlow : ∀ a : Nat, a < Hb.size → ¬ (fun q : Nat => B ≤ q) a → s.heap[a]? = Hb[a]? := fun a ha _ => hlw a (by rw [hr.1] at ha; exact ha)
  have hS : va_S (fun q : Nat => B ≤ q) s.heap H locs := ⟨by rw [hs0, hr.size]; omega, fun q hq hq2 => by rw [hr.2.2.2.1 q (by omega), hlw q (by omega)], hlo⟩
  refine vx_throwSz (names := ["java/lang/RuntimeException", "java/lang/Exception"]) (A := fun q : Nat => B ≤ q) hx hb hC.1 hown (ex_fit E hE) (by decide +kernel) (hC.2.1 _ hk rfl args) (hC.2.1 _ hi rfl args) hstr (fun w h => hC.2.1 w (hwz w h).1 (hwz w h).2.1 args)
    (fun w h => by
      rcases List.mem_cons.mp h with rfl | h
      · rfl
      rcases List.mem_cons.mp h with rfl | h
      · rfl
      · exact (hwz w h).2.2) ((hC.2.2.2.2.2.1).kept hlow) ((hC.2.2.2.2.2.2.1).kept hlow) hS (by obtain ⟨l9, h9, -⟩ := hL; rw [h9.1, hml]) d0 d3 d4 d6 d9
    (fun x hx9 => by
      rw [hhh] at hT
      have : c.exceptionTable.toList = [] := List.map_eq_nil_iff.mp hT
      rw [this] at hx9
      cases hx9)
    (by simp only [List.length_cons, List.length_nil, FRd] at g1 ⊢; omega) (by simp only [List.map_nil, List.sum_nil, List.length_cons, List.length_nil, LRd] at g2 ⊢; omega)
    (by have : hn (junk A 6) = hn A + 1 := rfl; omega) (by have : hw (junk A 6) = hw A + 6 := rfl; omega) hlk
    (fun t ht hsz hun => ⟨E, rfl, rfl, hr.junked hsz hun (by have : hn (junk A 6) = hn A + 1 := rfl; omega)⟩) hlo (by have : hn (junk A 6) = hn A + 1 := rfl; omega) (by have : hw (junk A 6) = hw A + 6 := rfl; omega)
theorem in_throwW {ik is ic E : Nat} {text : String} (d0 : decode cc pc = .ok (.new ik, 3)) (d3 : decode cc (pc + 3) = .ok (.dup, 1)) (d4 : decode cc (pc + 4) = .ok (.ldc_w is, 3)) (d6 : decode cc (pc + 7) = .ok (.invokespecial ic, 3)) (d9 : decode cc (pc + 10) = .ok (.athrow, 1)) (hf : tOK own ik is ic text E) (hhh : hh = []) (h0 : n0 ≤ hn A) (h1 : w0 ≤ hw A) : Inn own cc nL rt ini hh d n0 w0 (.inr E) (junk A 6) pc L [] A := by
  intro p l e R s m args below meth c B Hb CS dC dI dA F hRm hB H locs ls ms hr hlo hL hst
  obtain ⟨hx, hb, hml, hlk, hown, hrt, hini, hT, hs0, hlw, hC⟩ := id F
  cases (show ms = [] from hst)
  obtain ⟨hE, hk, hi, hmsg, hall⟩ := hf
  obtain ⟨sa, hstr⟩ := hC.2.2.2.1 _ hmsg
  obtain ⟨g1, g2, g3, g4⟩ := hRm
  have hwz : ∀ w ∈ vx_atS own ic (exN E) ["java/lang/RuntimeException", "java/lang/Exception"], w ∈ lw_tb ∧ pW w = true ∧ vx_ot w = true := fun w hw9 => by
    have h := List.all_eq_true.mp hall w hw9
    simpa [and_assoc] using h
  have hlow : ∀ a : Nat, a < Hb.size → ¬ (fun q : Nat => B ≤ q) a → s.heap[a]? = Hb[a]? := fun a ha _ => hlw a (by rw [hr.1] at ha; exact ha)
  have hS : va_S (fun q : Nat => B ≤ q) s.heap H locs := ⟨by rw [hs0, hr.size]; omega, fun q hq hq2 => by rw [hr.2.2.2.1 q (by omega), hlw q (by omega)], hlo⟩
  refine vx_throwSWz (names := ["java/lang/RuntimeException", "java/lang/Exception"]) (A := fun q : Nat => B ≤ q) hx hb hC.1 hown (ex_fit E hE) (by decide +kernel) (hC.2.1 _ hk rfl args) (hC.2.1 _ hi rfl args) hstr (fun w h => hC.2.1 w (hwz w h).1 (hwz w h).2.1 args)
    (fun w h => by
      rcases List.mem_cons.mp h with rfl | h
      · rfl
      rcases List.mem_cons.mp h with rfl | h
      · rfl
      · exact (hwz w h).2.2) ((hC.2.2.2.2.2.1).kept hlow) ((hC.2.2.2.2.2.2.1).kept hlow) hS (by obtain ⟨l9, h9, -⟩ := hL; rw [h9.1, hml]) d0 d3 d4 d6 d9
    (fun x hx9 => by
      rw [hhh] at hT
      have : c.exceptionTable.toList = [] := List.map_eq_nil_iff.mp hT
      rw [this] at hx9
      cases hx9)
    (by simp only [List.length_cons, List.length_nil, FRd] at g1 ⊢; omega) (by simp only [List.map_nil, List.sum_nil, List.length_cons, List.length_nil, LRd] at g2 ⊢; omega)
    (by have : hn (junk A 6) = hn A + 1 := rfl; omega) (by have : hw (junk A 6) = hw A + 6 := rfl; omega) hlk
    (fun t ht hsz hun => ⟨E, rfl, rfl, hr.junked hsz hun (by have : hn (junk A 6) = hn A + 1 := rfl; omega)⟩) hlo (by have : hn (junk A 6) = hn A + 1 := rfl; omega) (by have : hw (junk A 6) = hw A + 6 := rfl; omega)
theorem in_max {ix : Nat} {v w : Int32} (hd : decode cc pc = .ok (.invokestatic ix, 3)) (hl : Jvm.Cond.methodLink own ix Lib.Math.max.name ∈ lw_tb ∧ Jvm.Cond.static Lib.Math.max.name ∈ lw_tb ∧ Jvm.Cond.initialized "java/lang/Math" ∈ lw_tb ∧ Jvm.Cond.code Lib.Math.max.name Lib.Math.max.code 2 (some .int) ∈ lw_tb) (hcat : catS st ≤ 8) (h0 : hn A ≤ hn A') (h1 : hw A ≤ hw A') (K : Inn own cc nL rt ini hh d n0 w0 o A' (pc + 3) L (.int (if v < w then w else v) :: st) A) : Inn own cc nL rt ini hh d n0 w0 o A' pc L (.int w :: .int v :: st) A := by
  intro p l e R s m args below meth c B Hb CS dC dI dA F hRm hB H locs ls ms hr hlo hL hst
  obtain ⟨hx, hb, hml, hlk, hown, hrt, hini, hT, hs0, hlw, hC⟩ := id F
  obtain ⟨mv, r, rfl, h1v, mw, r2, rfl, h2v, hst⟩ := hst
  cases (show mv = Value.int w from h1v)
  cases (show mw = Value.int v from h2v)
  obtain ⟨g1, g2, g3, g4⟩ := hRm
  have hcs := hst.sum
  exact va_mmax hx hb (by obtain ⟨l9, h9, -⟩ := hL; rw [h9.1, hml]) hown (hC.2.1 _ hl.1 rfl args) (hC.2.1 _ hl.2.1 rfl args) (hC.2.1 _ hl.2.2.1 rfl args) (hC.2.1 _ hl.2.2.2 rfl args) (by unfold FRd at g1; omega) (by rw [hcs]; unfold LRd at g2; omega) (by omega) (by omega) hd (K p l e R s m args below meth c B Hb CS dC dI dA F ⟨g1, g2, g3, g4⟩ hB H locs ls (_ :: r2) hr hlo hL (stR.cons rfl hst))
theorem in_min {ix : Nat} {v w : Int32} (hd : decode cc pc = .ok (.invokestatic ix, 3)) (hl : Jvm.Cond.methodLink own ix Lib.Math.min.name ∈ lw_tb ∧ Jvm.Cond.static Lib.Math.min.name ∈ lw_tb ∧ Jvm.Cond.initialized "java/lang/Math" ∈ lw_tb ∧ Jvm.Cond.code Lib.Math.min.name Lib.Math.min.code 2 (some .int) ∈ lw_tb) (hcat : catS st ≤ 8) (h0 : hn A ≤ hn A') (h1 : hw A ≤ hw A') (K : Inn own cc nL rt ini hh d n0 w0 o A' (pc + 3) L (.int (if w < v then w else v) :: st) A) : Inn own cc nL rt ini hh d n0 w0 o A' pc L (.int w :: .int v :: st) A := by
  intro p l e R s m args below meth c B Hb CS dC dI dA F hRm hB H locs ls ms hr hlo hL hst
  obtain ⟨hx, hb, hml, hlk, hown, hrt, hini, hT, hs0, hlw, hC⟩ := id F
  obtain ⟨mv, r, rfl, h1v, mw, r2, rfl, h2v, hst⟩ := hst
  cases (show mv = Value.int w from h1v)
  cases (show mw = Value.int v from h2v)
  obtain ⟨g1, g2, g3, g4⟩ := hRm
  have hcs := hst.sum
  exact va_mmin hx hb (by obtain ⟨l9, h9, -⟩ := hL; rw [h9.1, hml]) hown (hC.2.1 _ hl.1 rfl args) (hC.2.1 _ hl.2.1 rfl args) (hC.2.1 _ hl.2.2.1 rfl args) (hC.2.1 _ hl.2.2.2 rfl args) (by unfold FRd at g1; omega) (by rw [hcs]; unfold LRd at g2; omega) (by omega) (by omega) hd (K p l e R s m args below meth c B Hb CS dC dI dA F ⟨g1, g2, g3, g4⟩ hB H locs ls (_ :: r2) hr hlo hL (stR.cons rfl hst))
theorem in_abs {ix : Nat} {v : Int32} (hd : decode cc pc = .ok (.invokestatic ix, 3)) (hl : Jvm.Cond.methodLink own ix Lib.Math.abs.name ∈ lw_tb ∧ Jvm.Cond.static Lib.Math.abs.name ∈ lw_tb ∧ Jvm.Cond.initialized "java/lang/Math" ∈ lw_tb ∧ Jvm.Cond.code Lib.Math.abs.name Lib.Math.abs.code 1 (some .int) ∈ lw_tb) (hcat : catS st ≤ 8) (h0 : hn A ≤ hn A') (h1 : hw A ≤ hw A') (K : Inn own cc nL rt ini hh d n0 w0 o A' (pc + 3) L (.int (if 0 ≤ v then v else 0 - v) :: st) A) : Inn own cc nL rt ini hh d n0 w0 o A' pc L (.int v :: st) A := by
  intro p l e R s m args below meth c B Hb CS dC dI dA F hRm hB H locs ls ms hr hlo hL hst
  obtain ⟨hx, hb, hml, hlk, hown, hrt, hini, hT, hs0, hlw, hC⟩ := id F
  obtain ⟨mv, r, rfl, h1v, hst⟩ := hst
  cases (show mv = Value.int v from h1v)
  obtain ⟨g1, g2, g3, g4⟩ := hRm
  have hcs := hst.sum
  exact va_mabs hx hb (by obtain ⟨l9, h9, -⟩ := hL; rw [h9.1, hml]) hown (hC.2.1 _ hl.1 rfl args) (hC.2.1 _ hl.2.1 rfl args) (hC.2.1 _ hl.2.2.1 rfl args) (hC.2.1 _ hl.2.2.2 rfl args) (by unfold FRd at g1; omega) (by rw [hcs]; unfold LRd at g2; omega) (by omega) (by omega) hd (K p l e R s m args below meth c B Hb CS dC dI dA F ⟨g1, g2, g3, g4⟩ hB H locs ls (_ :: r) hr hlo hL (stR.cons rfl hst))
theorem in_objInit {ix a : Nat} (hd : decode cc pc = .ok (.invokespecial ix, 3)) (hl : Jvm.Cond.methodLink own ix Lib.objectInit ∈ lw_tb ∧ Jvm.Cond.instanceMethod Lib.objectInit ∈ lw_tb ∧ Jvm.Cond.code Lib.objectInit ⟨#[0xb1]⟩ 1 none ∈ lw_tb) (hcat : catS st ≤ 8) (K : Inn own cc nL rt ini hh d n0 w0 o A' (pc + 3) L st A) : Inn own cc nL rt ini hh d n0 w0 o A' pc L (.ref a :: st) A := by
  intro p l e R s m args below meth c B Hb CS dC dI dA F hRm hB H locs ls ms hr hlo hL hst
  obtain ⟨hx, hb, hml, hlk, hown, hrt, hini, hT, hs0, hlw, hC⟩ := id F
  obtain ⟨mv, r, rfl, h1v, hst⟩ := hst
  cases (show mv = Value.ref (adr B CS a) from h1v)
  obtain ⟨g1, g2, g3, g4⟩ := hRm
  have hcs := hst.sum
  exact W.objInit hx hb hown (hC.2.1 _ hl.1 rfl args) (hC.2.1 _ hl.2.1 rfl args) (hC.2.1 _ hl.2.2 rfl args) rfl (by obtain ⟨l9, h9, -⟩ := hL; show ls.size = _; rw [h9.1, hml]) rfl hd (by unfold FRd at g1; omega) (by show 2 * 0 + _ + 12 ≤ _; rw [hcs]; unfold LRd at g2; omega) (K p l e R s m args below meth c B Hb CS dC dI dA F ⟨g1, g2, g3, g4⟩ hB H locs ls r hr hlo hL hst)
theorem in_copy {ix d9 s9 t t1 z n n1 : Nat} {ty : FieldType} {sp dp ct : Int32} (hd : decode cc pc = .ok (.invokestatic ix, 3)) (hl : Jvm.Cond.methodLink own ix arraycopyName ∈ lw_tb ∧ Jvm.Cond.native arraycopyName ∈ lw_tb ∧ Jvm.Cond.static arraycopyName ∈ lw_tb ∧ Jvm.Cond.initialized "java/lang/System" ∈ lw_tb) (hks : hK A s9 = (t, n)) (hkd : hK A d9 = (t1, n1)) (hcs : ∀ B CS dA, celA B CS dA A s9 = some (.inl (dA t1, n, .inl (hI A s9)))) (hcd : ∀ (A1 : HP), hK A1 = hK A → ∀ B CS dA, celA B CS dA A1 d9 = some (.inl (dA t1, n1, .inl (hI A1 d9)))) (hty : ∀ dA, (tyA dA)[z]? = some (dA t1, ty)) (hpr : refKind ty = false) (ht1 : t1 ≠ 0 ∧ t1 ≠ 8 ∧ t1 ≠ 21)
    (h1 : ¬ sp < 0) (h2 : ¬ dp < 0) (h3 : ¬ ct < 0) (h4 : sp.toNatClampNeg + ct.toNatClampNeg ≤ n) (h5 : dp.toNatClampNeg + ct.toNatClampNeg ≤ n1) (hfit : ∀ i, i < ct.toNatClampNeg → fits ty (.int (hI A s9 (sp.toNatClampNeg + i))) = true) (K : Inn own cc nL rt ini hh d n0 w0 o A' (pc + 3) L [] (cpI A s9 sp.toNatClampNeg d9 dp.toNatClampNeg ct.toNatClampNeg)) : Inn own cc nL rt ini hh d n0 w0 o A' pc L [.int ct, .int dp, .ref d9, .int sp, .ref s9] A := by
  intro p l e R s m args below meth c B Hb CS dC dI dA F hRm hB H locs ls ms hr hlo hL hst
  obtain ⟨hx, hb, hml, hlk, hown, hrt, hini, hT, hs0, hlw, hC⟩ := id F
  obtain ⟨m1, r1, rfl, j1, m2, r2, rfl, j2, m3, r3, rfl, j3, m4, r4, rfl, j4, m5, r5, rfl, j5, hst⟩ := hst
  cases (show m1 = Value.int ct from j1)
  cases (show m2 = Value.int dp from j2)
  cases (show m3 = Value.ref (adr B CS d9) from j3)
  cases (show m4 = Value.int sp from j4)
  cases (show m5 = Value.ref (adr B CS s9) from j5)
  cases (show r5 = [] from hst)
  obtain ⟨g1, g2, g3, g4⟩ := hRm
  obtain ⟨ha1, ha2, ha3⟩ := hr.own hkd ht1.1 ht1.2.1 ht1.2.2
  have c0 := hr.at (hcs B CS dA)
  have c1 := hr.at (hcd A rfl B CS dA)
  rw [ha3] at c1 ⊢
  refine w_copy (D := (dC, dI)) (cl := wcl) (tys := tyA dA) hx hb (by obtain ⟨l9, h9, -⟩ := hL; rw [h9.1, hml]) hown (hC.2.1 _ hl.1 rfl args) (hC.2.1 _ hl.2.1 rfl args) (hC.2.1 _ hl.2.2.1 rfl args) (hC.2.1 _ hl.2.2.2 rfl args) hC.2.2.1 z z c0 c1 (hty dA) (hty dA) hpr h1 h2 h3 h4 h5 hfit (by unfold FRd at g1; omega) (by
    have : nativeFrameWords "java/lang/System" "arraycopy" 5 + 11 ≤ 400 := by decide +kernel
    simp only [List.map_nil, List.sum_nil]
    unfold LRd at g2
    omega) hd (fun H1 L9 hL9 e1 e2 e3 => ?_)
  refine (K p l e R s m args below meth c B Hb CS dC dI dA F ⟨g1, g2, g3, g4⟩ hB H1 (locs ++ L9) ls [] ?_ ?_ hL rfl)
  · refine hr.put ha1 e1 e2 rfl rfl (fun b hb => ?_) (fun e' he' => ?_)
    · exact celA_congr rfl (by funext q; simp [hI, cpI, hb]) rfl rfl rfl
    · rw [hcd (cpI A s9 sp.toNatClampNeg d9 dp.toNatClampNeg ct.toNatClampNeg) rfl B CS dA] at he'
      cases he'
      show H1[B + d9]? = some (vp_cell _ _)
      rw [e3]
      refine congrArg (fun f => some (vp_cell (dA t1) (n1, Sum.inl f))) (funext fun q => ?_)
      simp [hI, cpI, va_cpy]
  · intro y hy
    rcases List.mem_append.mp hy with h | h
    · exact hlo y h
    · rw [hL9 y h]; show B ≤ B + d9; omega
end IN
end
section
/-! calls: a method's contract over the machine, and a call by it -/
abbrev MIT : Type := MethodName × ByteArray × Nat × Option FieldType × List (Nat × Nat × Nat × Nat) × Bool
/-- a method's own word -/
def mword (q : MIT) : Jvm.Cond := match q.2.2.2.2.1 with
  | [] => .code q.1 q.2.1 q.2.2.1 q.2.2.2.1
  | hh => .codeWith q.1 q.2.1 q.2.2.1 q.2.2.2.1 hh
def rmD (d mc ms : Nat) : Room := { frames := FRd d, cells := mc, slots := ms, locals := LRd d }
def PcO (l : Launch) (B : Nat) (Hb : Heap) (CS : Nat → Nat) (dC : Nat → ClassId) (dI : Nat → Nat → Nat) (dA : Nat → ClassId) (as : List Value) (A : HP) : Array Value → State → Prop := fun v U => v = (as.map (lvA B CS)).toArray ∧ Rel B Hb CS dC dI dA A U.heap ∧ Cx l B Hb CS dC dI dA U
/-- what is to be shown of a method for one start and one end -/
def MetOK (q : MIT) (d : Nat) (as : List Value) (A : HP) (o : Out) (A' : HP) : Prop :=
  ∀ (l : Launch) (B : Nat) (Hb : Heap) (CS : Nat → Nat) (dC : Nat → ClassId) (dI : Nat → Nat → Nat) (dA : Nat → ClassId), hn A' < BIG →
    vx_Met l q.1 [mword q] (rmD d (hn A' - hn A) (hw A' - hw A)) (PcO l B Hb CS dC dI dA as A) (QO B Hb CS dC dI dA o A') (XO B Hb CS dC dI dA o A') (hn A' - hn A) (hw A' - hw A) (fun q => B ≤ q)
theorem PcO.blind {l : Launch} {B : Nat} {Hb : Heap} {CS : Nat → Nat} {dC : Nat → ClassId} {dI : Nat → Nat → Nat} {dA : Nat → ClassId} {as : List Value} {A : HP} : FrameBlind (PcO l B Hb CS dC dI dA as A) := by
  intro a U g mk ⟨h1, h2, h3⟩
  exact ⟨h1, h2, h3.warm (U := U.calling g mk a) (State.WarmedH.refl U)⟩
theorem PcO.of {l : Launch} {B : Nat} {Hb : Heap} {CS : Nat → Nat} {dC : Nat → ClassId} {dI : Nat → Nat → Nat} {dA : Nat → ClassId} {as : List Value} {A : HP} {s : State} {H : Heap} (hr : Rel B Hb CS dC dI dA A H) (hC : Cx l B Hb CS dC dI dA s) {ms : List Value} (hms : ms = as.map (lvA B CS)) :
    ∀ U : State, U.heap = H → s.WarmedH U.vm → PcO l B Hb CS dC dI dA as A ms.toArray U := fun U hU hW => ⟨by rw [hms], by rw [hU]; exact hr, hC.warm hW⟩
theorem popN_ok : ∀ (n : Nat) (st acc as r : List Value), popN n st acc = some (as, r) → ∃ x : List Value, x.length = n ∧ st = x ++ r ∧ as = x.reverse ++ acc
  | 0, st, acc, as, r, h => by
    cases (Option.some.inj h)
    exact ⟨[], rfl, rfl, rfl⟩
  | n + 1, [], acc, as, r, h => by cases h
  | n + 1, v :: st, acc, as, r, h => by
    obtain ⟨x, h1, h2, h3⟩ := popN_ok n st (v :: acc) as r h
    exact ⟨v :: x, by rw [List.length_cons, h1], by rw [h2]; rfl, by rw [h3]; simp⟩
theorem noJ_app : ∀ (x y : List Value), noJ (x ++ y) = (noJ x && noJ y)
  | [], y => by simp [noJ]
  | v :: x, y => by
    rw [List.cons_append]
    cases v <;> simp [noJ, noJ_app x y]
theorem noJ_rev : ∀ (x : List Value), noJ x.reverse = noJ x
  | [] => rfl
  | v :: x => by
    rw [List.reverse_cons, noJ_app, noJ_rev x]
    cases v <;> simp [noJ]
theorem stR_split {B : Nat} {CS : Nat → Nat} : ∀ (x r ms : List Value), noJ x = true → stR B CS (x ++ r) ms → ∃ mr, ms = x.map (lvA B CS) ++ mr ∧ stR B CS r mr
  | [], r, ms, _, h => ⟨ms, rfl, h⟩
  | v :: x, r, ms, hj, ⟨mv, m2, e, h1, h2⟩ => by
    have hv : mv = lvA B CS v ∧ noJ x = true := by
      cases v with
      | retAddr p => cases hj
      | _ => exact ⟨h1, hj⟩
    obtain ⟨mr, e2, h3⟩ := stR_split x r m2 hv.2 h2
    exact ⟨mr, by rw [e, hv.1, e2]; rfl, h3⟩
section CL
variable {p : Program} {l : Launch} {e : Env} {R : Room} {s : State} {m : MethodId} {args : Array Value} {below : List Frame} {meth : Method} {c : Code} {H : Heap} {locs : List Loc} {cells slots mc ms : Nat} {Q : State → Prop}
variable {B : Nat} {Hb : Heap} {CS : Nat → Nat} {dC : Nat → ClassId} {dI : Nat → Nat → Nat} {dA : Nat → ClassId} {pc : Nat} {ls : Array Slot} {rest st0 : List Value} {o1 : Out} {A1 : HP} {a9 : Array Value}
theorem w_call (hr : vx_Run p l e R s m args below meth c H locs cells slots mc ms (F0 m pc ls st0) rest (QO B Hb CS dC dI dA o1 A1 a9) (XO B Hb CS dC dI dA o1 A1) (fun q => B ≤ q))
    (kn : o1 = .inl none → ∀ (H1 : Heap) (L9 : List Loc), (∀ z ∈ L9, B ≤ z.base) → Rel B Hb CS dC dI dA A1 H1 → W p l e R s m args below meth c H1 (locs ++ L9) (cells + mc) (slots + ms) Q (F0 m (pc + 3) ls rest))
    (kv : ∀ v, o1 = .inl (some v) → ∀ (H1 : Heap) (L9 : List Loc), (∀ z ∈ L9, B ≤ z.base) → Rel B Hb CS dC dI dA A1 H1 → W p l e R s m args below meth c H1 (locs ++ L9) (cells + mc) (slots + ms) Q (F0 m (pc + 3) ls (lvA B CS v :: rest)))
    (kx : ∀ E, o1 = .inr E → ∀ (H1 : Heap) (L9 : List Loc) (q : Addr) (ce : Cell), (∀ z ∈ L9, B ≤ z.base) → Rel B Hb CS dC dI dA A1 H1 → H1[q]? = some ce → ce.vm = .none → s.vm.findClass (exN E) = some ce.cls → vx_W p l e R s m args below meth c H1 (locs ++ L9) (cells + mc) (slots + ms) Q (F0 m pc ls rest) q) :
    W p l e R s m args below meth c H locs cells slots Q (F0 m pc ls st0) := by
  intro T hT X
  rcases hr T hT X with ⟨v, st₀, t, T', L, e0, X', hL, e1, e2, ⟨r, ho, hv, hrel⟩, hgo⟩ | ⟨q, st₀, t, T', L, E, ce, e0, X', hL, e1, e2, ⟨n, ho, hE, hrel⟩, hce, hcv, hcl, hgo⟩
  · rw [← e1] at hrel
    cases r with
    | none =>
      cases (Outcome.returned.inj hv)
      obtain ⟨t2, a1, b1⟩ := kn ho T'.heap L hL hrel T' rfl X'
      exact ⟨t2, hgo t2 a1, b1⟩
    | some w =>
      cases (Outcome.returned.inj hv)
      obtain ⟨t2, a1, b1⟩ := kv w ho T'.heap L hL hrel T' rfl X'
      exact ⟨t2, hgo t2 a1, b1⟩
  · rw [← e1] at hrel hce
    subst hE
    obtain ⟨t2, a1, b1⟩ := kx n ho T'.heap L q ce hL hrel hce hcv hcl T' rfl X'
    exact ⟨t2, hgo.trans a1, b1⟩
/-- what the handlers' lists have in common -/
def hhOK (own : String) : List (Nat × Nat × Nat × Nat) → List (Nat × Nat × Nat × Nat) → Prop
  | [], [] => True
  | a :: l, b :: l2 => a.1 = b.1 ∧ a.2.1 = b.2.1 ∧ a.2.2.1 = b.2.2.1 ∧ b.2.2.2 < 6 ∧ a.2.2.2 ≠ 0 ∧ Jvm.Cond.classLink own a.2.2.2 (exN b.2.2.2) ∈ lw_tb ∧ Jvm.Cond.castable (exN b.2.2.2) (exN b.2.2.2) ∈ lw_tb ∧ hhOK own l l2
  | _, _ => False
theorem w_catch {own : String} (hown : s.vm.findClass own = some m.cls) (hC : Cx l B Hb CS dC dI dA s) {E h : Nat} {q : Addr} {ce : Cell} (hE : E < 6) (hcell : H[q]? = some ce) (hv : ce.vm = .none) (hcl : s.vm.findClass (exN E) = some ce.cls)
    (kk : W p l e R s m args below meth c H locs cells slots Q (F0 m h ls [.ref q])) :
    ∀ (xs pre : List ExceptionTableEntry) (hh h4 : List (Nat × Nat × Nat × Nat)), c.exceptionTable.toList = pre ++ xs → xs.map (fun x => (x.startPc, x.endPc, x.handlerPc, x.catchType)) = hh → hhOK own hh h4 → findH h4 pc E = some h →
      (∀ z ∈ pre, covers z pc = false ∨ (z.catchType ≠ 0 ∧ ∃ nm : String, (Jvm.Cond.classLink own z.catchType nm).before args s = true ∧ va_Nc (exN E) nm s)) →
      vx_W p l e R s m args below meth c H locs cells slots Q (F0 m pc ls rest) q
  | [], pre, hh, h4, _, hm, hok, hf, _ => by
    cases hm
    cases h4 with
    | nil => cases hf
    | cons b l2 => exact hok.elim
  | x :: xs, pre, hh, h4, hs, hm, hok, hf, hp => by
    cases hm
    cases h4 with
    | nil => exact hok.elim
    | cons b l2 =>
      obtain ⟨e1, e2, e3, h6, h0, hl, hcst, hrest⟩ := hok
      dsimp only at e1 e2 e3 h0 hl
      unfold findH at hf
      by_cases hcov : covers x pc = true
      · by_cases heq : b.2.2.2 = E
        · have hc1 : (Nat.ble b.1 pc && Nat.blt pc b.2.1 && Nat.beq b.2.2.2 E) = true := by
            simp only [covers, Bool.and_eq_true, decide_eq_true_eq] at hcov
            simp only [Bool.and_eq_true, Nat.ble_eq, Nat.beq_eq, ← e1, ← e2]
            exact ⟨⟨hcov.1, by simp [Nat.blt]; omega⟩, heq⟩
          have hc2 : (match b, l2 with | (a, b9, h9, e9), l9 => bif Nat.ble a pc && Nat.blt pc b9 && Nat.beq e9 E then some h9 else findH l9 pc E) = some b.2.2.1 := by
            show (bif Nat.ble b.1 pc && Nat.blt pc b.2.1 && Nat.beq b.2.2.2 E then some b.2.2.1 else findH l2 pc E) = _
            rw [hc1]; rfl
          have hh : h = b.2.2.1 := Option.some.inj (hf.symm.trans hc2)
          subst hh
          rw [heq] at hl hcst
          rw [← e3] at kk
          exact vx_catch hown pre x xs hs hp hcov h0 (hC.2.1 _ hl rfl args) (hC.2.1 _ hcst rfl args) hcell hv hcl kk
        · have hc2 : (match b, l2 with | (a, b9, h9, e9), l9 => bif Nat.ble a pc && Nat.blt pc b9 && Nat.beq e9 E then some h9 else findH l9 pc E) = findH l2 pc E := by
            show (bif Nat.ble b.1 pc && Nat.blt pc b.2.1 && Nat.beq b.2.2.2 E then some b.2.2.1 else findH l2 pc E) = _
            have : Nat.beq b.2.2.2 E = false := by
              cases hq : Nat.beq b.2.2.2 E with
              | false => rfl
              | true => exact absurd (Nat.eq_of_beq_eq_true hq) heq
            rw [this, Bool.and_false]; rfl
          have hf2 : findH l2 pc E = some h := hc2.symm.trans hf
          refine w_catch hown hC hE hcell hv hcl kk xs (pre ++ [x]) _ l2 (by rw [hs]; simp) rfl hrest hf2 (fun z hz => ?_)
          rcases List.mem_append.mp hz with hz | hz
          · exact hp z hz
          · rw [List.mem_singleton.mp hz]
            exact Or.inr ⟨h0, _, hC.2.1 _ hl rfl args, hC.2.2.2.2.2.2.2.2.2.2 E b.2.2.2 hE h6 (Ne.symm heq)⟩
      · have hcf : covers x pc = false := by simpa using hcov
        have hc1 : (Nat.ble b.1 pc && Nat.blt pc b.2.1 && Nat.beq b.2.2.2 E) = false := by
          cases hq : (Nat.ble b.1 pc && Nat.blt pc b.2.1 && Nat.beq b.2.2.2 E) with
          | false => rfl
          | true =>
            simp only [Bool.and_eq_true, Nat.ble_eq, ← e1, ← e2] at hq
            have h8 : pc < x.endPc := by have := hq.1.2; simp [Nat.blt] at this; omega
            exact absurd (by simp [covers, hq.1.1, h8]) hcov
        have hc2 : (match b, l2 with | (a, b9, h9, e9), l9 => bif Nat.ble a pc && Nat.blt pc b9 && Nat.beq e9 E then some h9 else findH l9 pc E) = findH l2 pc E := by
          show (bif Nat.ble b.1 pc && Nat.blt pc b.2.1 && Nat.beq b.2.2.2 E then some b.2.2.1 else findH l2 pc E) = _
          rw [hc1]; rfl
        have hf2 : findH l2 pc E = some h := hc2.symm.trans hf
        refine w_catch hown hC hE hcell hv hcl kk xs (pre ++ [x]) _ l2 (by rw [hs]; simp) rfl hrest hf2 (fun z hz => ?_)
        rcases List.mem_append.mp hz with hz | hz
        · exact hp z hz
        · rw [List.mem_singleton.mp hz]
          exact Or.inl hcf
end CL
end
section
/-! calls as steps -/
def okO : Out → Prop
  | .inl none => True
  | .inl (some v) => ∀ p, v ≠ .retAddr p
  | .inr E => E < 6
/-- where a run goes on behind a call -/
def cK (own : String) (cc : ByteArray) (nL : Nat) (rt : Option FieldType) (ini : Bool) (hh h4 : List (Nat × Nat × Nat × Nat)) (d n0 w0 : Nat) (o : Out) (A' : HP) (pc : Nat) (L : LV) (r : List Value) (A1 : HP) (o1 : Out) : Prop := match o1 with
  | .inl none => Inn own cc nL rt ini hh d n0 w0 o A' (pc + 3) L r A1
  | .inl (some v) => Inn own cc nL rt ini hh d n0 w0 o A' (pc + 3) L (v :: r) A1
  | .inr E => (∃ h, findH h4 pc E = some h ∧ Inn own cc nL rt ini hh d n0 w0 o A' h L [.retAddr 0] A1) ∨ (hh = [] ∧ o = .inr E ∧ A' = A1)
section CS
variable {own : String} {cc : ByteArray} {nL : Nat} {rt : Option FieldType} {ini : Bool} {hh h4 : List (Nat × Nat × Nat × Nat)} {d n0 w0 : Nat} {o o1 : Out} {A A' A1 : HP} {pc : Nat} {L : LV} {st r as : List Value}
theorem call_fin {p : Program} {l : Launch} {e : Env} {R : Room} {s : State} {m : MethodId} {args : Array Value} {below : List Frame} {meth : Method} {c : Code} {B : Nat} {Hb : Heap} {CS : Nat → Nat} {dC : Nat → ClassId} {dI : Nat → Nat → Nat} {dA : Nat → ClassId}
    (F : Fr p l s m meth c own cc nL rt ini hh n0 B Hb CS dC dI dA) (hRm : Bd (d + 1) R (hn A' - n0) (hw A' - w0)) (hB : hn A' < BIG) {H : Heap} {locs : List Loc} {ls : Array Slot} {mr st0 : List Value} {a9 : Array Value}
    (hlo : ∀ z ∈ locs, B ≤ z.base) (hL : lR B CS L nL ls) (hst : stR B CS r mr) (hok : okO o1) (hhk : hhOK own hh h4) (h0 : n0 ≤ hn A) (h1 : w0 ≤ hw A) (hm1 : hn A ≤ hn A1) (hm2 : hw A ≤ hw A1) (hm3 : hn A1 ≤ hn A') (hm4 : hw A1 ≤ hw A')
    (hrun : vx_Run p l e R s m args below meth c H locs (hn A - n0) (hw A - w0) (hn A1 - hn A) (hw A1 - hw A) (F0 m pc ls st0) mr (QO B Hb CS dC dI dA o1 A1 a9) (XO B Hb CS dC dI dA o1 A1) (fun q => B ≤ q))
    (K : cK own cc nL rt ini hh h4 (d + 1) n0 w0 o A' pc L r A1 o1) :
    W p l e R s m args below meth c H locs (hn A - n0) (hw A - w0) (vx_MQ below (QO B Hb CS dC dI dA o A') (XO B Hb CS dC dI dA o A') args s (hn A' - n0) (hw A' - w0) (fun q => B ≤ q)) (F0 m pc ls st0) := by
  obtain ⟨hx, hb, hml, hlk, hown, hrt, hini, hT, hs0, hlw, hC⟩ := id F
  have e1 : hn A - n0 + (hn A1 - hn A) = hn A1 - n0 := by omega
  have e2 : hw A - w0 + (hw A1 - hw A) = hw A1 - w0 := by omega
  have hlo2 : ∀ L9 : List Loc, (∀ z ∈ L9, B ≤ z.base) → ∀ z ∈ locs ++ L9, B ≤ z.base := fun L9 h z hz => (List.mem_append.mp hz).elim (hlo z) (h z)
  refine w_call hrun (fun ho H1 L9 hL9 hr1 => ?_) (fun v ho H1 L9 hL9 hr1 => ?_) (fun E ho H1 L9 q ce hL9 hr1 hce hcv hcl => ?_)
  · subst ho
    rw [e1, e2]
    exact K p l e R s m args below meth c B Hb CS dC dI dA F hRm hB H1 (locs ++ L9) ls mr hr1 (hlo2 L9 hL9) hL hst
  · subst ho
    rw [e1, e2]
    exact K p l e R s m args below meth c B Hb CS dC dI dA F hRm hB H1 (locs ++ L9) ls (_ :: mr) hr1 (hlo2 L9 hL9) hL (stR.cons (vR.of v hok) hst)
  · subst ho
    rw [e1, e2]
    rcases K with ⟨h, hf, K⟩ | ⟨hh0, ho2, hA2⟩
    · exact w_catch hown hC hok hce hcv hcl (K p l e R s m args below meth c B Hb CS dC dI dA F hRm hB H1 (locs ++ L9) ls [.ref q] hr1 (hlo2 L9 hL9) hL ⟨_, _, rfl, ⟨q, rfl⟩, rfl⟩) c.exceptionTable.toList [] hh h4 rfl hT hhk hf (fun z hz => by cases hz)
    · subst hA2
      subst ho2
      refine vx_out (fun x hx9 => ?_) hlk hce hcv hcl (fun t ht hW => ⟨E, rfl, rfl, by rw [ht]; exact hr1⟩) (hlo2 L9 hL9) (Nat.le_refl _) (Nat.le_refl _)
      rw [hh0] at hT
      have : c.exceptionTable.toList = [] := List.map_eq_nil_iff.mp hT
      rw [this] at hx9
      cases hx9
/-- what a method's own row says -/
def mOK (q : MIT) : Prop := mword q ∈ lw_tb ∧ Jvm.Cond.initialized q.1.cls ∈ lw_tb ∧ (q.1.cls ≠ "java/lang/invoke/MethodHandle" ∧ q.1.cls ≠ "java/lang/invoke/VarHandle") ∧ plainName q.1.cls = true ∧ q.2.2.1 ≤ 40
theorem goodM {q : MIT} : pW (mword q) = true := by
  unfold mword
  split <;> rfl
theorem wsM {q : MIT} {s : State} (hC : WD s) (hm : mOK q) : ∀ w ∈ [mword q], ∀ (a' : Array Value) (U : State), s.WarmedH U.vm → w.before a' U = true := fun w hw a' U hW => by
  rw [List.mem_singleton.mp hw]
  exact hC.warm hW _ hm.1 goodM a'
set_option maxRecDepth 100000 in
theorem rm_ok {d mc ms : Nat} {R : Room} {q : MIT} (h : Bd (d + 1) R mc ms) (hm : mOK q) (a b : Nat) : (rmD d a b).frames + 1 ≤ R.frames ∧ 8 + (q.2.2.1 + 11) + (rmD d a b).locals ≤ R.locals := by
  obtain ⟨h1, h2, -, -⟩ := h
  obtain ⟨-, -, -, -, h3⟩ := hm
  unfold FRd at h1
  unfold LRd at h2
  constructor
  · show FRd d + 1 ≤ _
    unfold FRd; omega
  · have h5 : 8 + (q.2.2.1 + 11) + (64 * d + 800) ≤ 64 * (d + 1) + 800 := by omega
    exact Nat.le_trans h5 h2
theorem mword_code {q : MIT} (h : q.2.2.2.2.1 = []) : mword q = .code q.1 q.2.1 q.2.2.1 q.2.2.2.1 := by
  unfold mword
  rw [h]
theorem mword_with {q : MIT} (h : q.2.2.2.2.1 ≠ []) : mword q = .codeWith q.1 q.2.1 q.2.2.1 q.2.2.2.1 q.2.2.2.2.1 := by
  unfold mword
  split
  · rename_i h9; exact absurd h9 h
  · rfl
theorem in_callV {q : MIT} {ci ix b : Nat} {as' : List Value} {x : List Value} (hd : decode cc pc = .ok (.invokevirtual ix, 3)) (hm : mOK q) (hq0 : q.2.2.2.2.1 = []) (hci : ∃ C, wcl[ci]? = some C ∧ Jvm.Cond.selects C.1 q.1 q.1 ∈ lw_tb) (hl : Jvm.Cond.methodLink own ix q.1 ∈ lw_tb) (hin : Jvm.Cond.instanceMethod q.1 ∈ lw_tb) (hnp : (parseMethodDescriptor q.1.desc).map (fun d => d.parameters.length + 1) = some x.length)
    (hstx : st = x ++ r) (hasx : as = x.reverse) (hasb : as = .ref b :: as') (hkb : hK A b = (10 + ci, 0)) (hcat : catS r ≤ 8) (hj : noJ as = true) (hok : okO o1) (hhk : hhOK own hh h4) (h0 : n0 ≤ hn A) (h1 : w0 ≤ hw A) (hm1 : hn A ≤ hn A1) (hm2 : hw A ≤ hw A1) (hm3 : hn A1 ≤ hn A') (hm4 : hw A1 ≤ hw A')
    (hM : MetOK q d as A o1 A1) (K : cK own cc nL rt ini hh h4 (d + 1) n0 w0 o A' pc L r A1 o1) : Inn own cc nL rt ini hh (d + 1) n0 w0 o A' pc L st A := by
  intro p l e R s m args below meth c B Hb CS dC dI dA F hRm hB H locs ls ms hr hlo hL hst
  obtain ⟨hx, hb, hml, hlk, hown, hrt, hini, hT, hs0, hlw, hC⟩ := id F
  subst hstx
  have hjx : noJ x = true := by rw [← noJ_rev, ← hasx]; exact hj
  obtain ⟨mr, rfl, hst2⟩ := stR_split x r ms hjx hst
  have hxm : x.map (lvA B CS) = (as'.map (lvA B CS)).reverse ++ [.ref (adr B CS b)] := by
    have : x = as.reverse := by rw [hasx, List.reverse_reverse]
    rw [this, hasb]
    simp [lvA]
  obtain ⟨⟨C, T, N⟩, hc, hsel⟩ := hci
  obtain ⟨r9, j1, ce, j2, j3, j4, j5⟩ := hr.at (celA_o hkb)
  have hr9 : r9 = (C, T, N) := Option.some.inj (j1.symm.trans hc)
  subst hr9
  have hmw := mword_code hq0
  have hws := wsM hC.2.1 hm
  have hrm := rm_ok hRm hm (hn A1 - hn A) (hw A1 - hw A)
  have hlen : as'.length + 1 = x.length := by
    have h9 : as.length = x.length := by rw [hasx, List.length_reverse]
    rw [← h9, hasb, List.length_cons]
  refine call_fin F hRm hB hlo hL hst2 hok hhk h0 h1 hm1 hm2 hm3 hm4 (vx_runV (C := C) (As := as'.map (lvA B CS)) (b := adr B CS b) (n := as'.length) (Ts := []) (cc := cc) (nL := nL) (rm := rmD d (hn A1 - hn A) (hw A1 - hw A)) (ws := [mword q]) (bytes := q.2.1) (maxL := q.2.2.1) (ret := q.2.2.2.1) (own := own) ⟨hx, hb, hml, hown, fun w hw9 => by cases hw9⟩ (hM l B Hb CS dC dI dA (by omega))
    ⟨⟨rfl, rfl, hrm.1, hrm.2, hws, by rw [hmw]; exact List.mem_cons_self, by rw [← hmw]; exact hC.2.1 _ hm.1 goodM args, hC.2.1 _ hm.2.1 rfl args, hm.2.2.1, fun sig hsg => ?_, hC.2.1 _ hl rfl args⟩, hC.2.1 _ hin rfl args, hC.2.1 _ hsel rfl args⟩
    ⟨PcO.blind, ⟨ce, j2, by rw [j4]; rfl, by rw [j3]; exact (hC.2.2.1.1 ci _ hc).2.1⟩, PcO.of hr hC (by rw [hasb]; rfl)⟩ rfl (by rw [List.length_map]) (by obtain ⟨l9, h9, -⟩ := hL; exact h9.1) (by show _ = _; rw [hxm]; simp) (by show 2 * 0 + _ ≤ 8; rw [hst2.sum]; omega) hd ⟨by obtain ⟨-, -, g3, -⟩ := hRm; omega, by obtain ⟨-, -, -, g4⟩ := hRm; omega⟩) K
  rw [hsg] at hnp
  have := Option.some.inj hnp
  dsimp only at this
  omega
theorem in_callS {q : MIT} {ix : Nat} {x : List Value} (hd : decode cc pc = .ok (.invokestatic ix, 3)) (hm : mOK q) (hl : Jvm.Cond.methodLink own ix q.1 ∈ lw_tb) (hin : Jvm.Cond.static q.1 ∈ lw_tb) (hnp : (parseMethodDescriptor q.1.desc).map (fun d => d.parameters.length) = some x.length)
    (hstx : st = x ++ r) (hasx : as = x.reverse) (hcat : catS r ≤ 8) (hj : noJ as = true) (hok : okO o1) (hhk : hhOK own hh h4) (h0 : n0 ≤ hn A) (h1 : w0 ≤ hw A) (hm1 : hn A ≤ hn A1) (hm2 : hw A ≤ hw A1) (hm3 : hn A1 ≤ hn A') (hm4 : hw A1 ≤ hw A')
    (hM : MetOK q d as A o1 A1) (K : cK own cc nL rt ini hh h4 (d + 1) n0 w0 o A' pc L r A1 o1) : Inn own cc nL rt ini hh (d + 1) n0 w0 o A' pc L st A := by
  intro p l e R s m args below meth c B Hb CS dC dI dA F hRm hB H locs ls ms hr hlo hL hst
  obtain ⟨hx, hb, hml, hlk, hown, hrt, hini, hT, hs0, hlw, hC⟩ := id F
  subst hstx
  have hjx : noJ x = true := by rw [← noJ_rev, ← hasx]; exact hj
  obtain ⟨mr, rfl, hst2⟩ := stR_split x r ms hjx hst
  have hxm : x.map (lvA B CS) = (as.map (lvA B CS)).reverse := by rw [hasx]; simp
  have hws := wsM hC.2.1 hm
  have hrm := rm_ok hRm hm (hn A1 - hn A) (hw A1 - hw A)
  have hlen : as.length = x.length := by rw [hasx, List.length_reverse]
  have hpn : ∀ sig, parseMethodDescriptor q.1.desc = some sig → as.length = sig.parameters.length := fun sig hsg => by
    rw [hsg] at hnp
    have := Option.some.inj hnp
    dsimp only at this
    omega
  by_cases hq0 : q.2.2.2.2.1 = []
  · have hmw := mword_code hq0
    exact call_fin F hRm hB hlo hL hst2 hok hhk h0 h1 hm1 hm2 hm3 hm4 (vx_runS (As := as.map (lvA B CS)) (n := as.length) (Ts := []) (cc := cc) (nL := nL) (rm := rmD d (hn A1 - hn A) (hw A1 - hw A)) (ws := [mword q]) (bytes := q.2.1) (maxL := q.2.2.1) (ret := q.2.2.2.1) (own := own) ⟨hx, hb, hml, hown, fun w hw9 => by cases hw9⟩ (hM l B Hb CS dC dI dA (by omega))
      ⟨⟨rfl, rfl, hrm.1, hrm.2, hws, by rw [hmw]; exact List.mem_cons_self, by rw [← hmw]; exact hC.2.1 _ hm.1 goodM args, hC.2.1 _ hm.2.1 rfl args, hm.2.2.1, hpn, hC.2.1 _ hl rfl args⟩, hC.2.1 _ hin rfl args⟩
      ⟨PcO.blind, PcO.of hr hC rfl⟩ rfl (by rw [List.length_map]) (by obtain ⟨l9, h9, -⟩ := hL; exact h9.1) (by show _ = _; rw [hxm]) (by show 2 * 0 + _ ≤ 8; rw [hst2.sum]; omega) hd ⟨by obtain ⟨-, -, g3, -⟩ := hRm; omega, by obtain ⟨-, -, -, g4⟩ := hRm; omega⟩) K
  · have hmw := mword_with hq0
    exact call_fin F hRm hB hlo hL hst2 hok hhk h0 h1 hm1 hm2 hm3 hm4 (vx_runSX (hh := q.2.2.2.2.1) (As := as.map (lvA B CS)) (n := as.length) (Ts := []) (cc := cc) (nL := nL) (rm := rmD d (hn A1 - hn A) (hw A1 - hw A)) (ws := [mword q]) (bytes := q.2.1) (maxL := q.2.2.1) (ret := q.2.2.2.1) (own := own) ⟨hx, hb, hml, hown, fun w hw9 => by cases hw9⟩ (hM l B Hb CS dC dI dA (by omega))
      ⟨⟨rfl, rfl, hrm.1, hrm.2, hws, by rw [hmw]; exact List.mem_cons_self⟩, by rw [← hmw]; exact hC.2.1 _ hm.1 goodM args, hC.2.1 _ hm.2.1 rfl args, hm.2.2.1, hpn, hC.2.1 _ hl rfl args, hC.2.1 _ hin rfl args⟩
      ⟨PcO.blind, PcO.of hr hC rfl⟩ rfl (by rw [List.length_map]) (by obtain ⟨l9, h9, -⟩ := hL; exact h9.1) (by show _ = _; rw [hxm]) (by show 2 * 0 + _ ≤ 8; rw [hst2.sum]; omega) hd ⟨by obtain ⟨-, -, g3, -⟩ := hRm; omega, by obtain ⟨-, -, -, g4⟩ := hRm; omega⟩) K
end CS
end
section
/-! calls of constructors and of a superclass's methods -/
section CS2
variable {own : String} {cc : ByteArray} {nL : Nat} {rt : Option FieldType} {ini : Bool} {hh h4 : List (Nat × Nat × Nat × Nat)} {d n0 w0 : Nat} {o o1 : Out} {A A' A1 : HP} {pc : Nat} {L : LV} {st r as : List Value}
theorem in_callI {q : MIT} {ix b : Nat} {as' : List Value} {x : List Value} (hd : decode cc pc = .ok (.invokespecial ix, 3)) (hm : mOK q) (hq0 : q.2.2.2.2.1 = []) (hq1 : q.2.2.2.1 = none) (hnm : q.1.name = "<init>") (hl : Jvm.Cond.methodLink own ix q.1 ∈ lw_tb) (hin : Jvm.Cond.instanceMethod q.1 ∈ lw_tb) (hnp : (parseMethodDescriptor q.1.desc).map (fun d => d.parameters.length + 1) = some x.length)
    (hstx : st = x ++ r) (hasx : as = x.reverse) (hasb : as = .ref b :: as') (hcat : catS r ≤ 8) (hj : noJ as = true) (hok : okO o1) (hhk : hhOK own hh h4) (h0 : n0 ≤ hn A) (h1 : w0 ≤ hw A) (hm1 : hn A ≤ hn A1) (hm2 : hw A ≤ hw A1) (hm3 : hn A1 ≤ hn A') (hm4 : hw A1 ≤ hw A')
    (hM : MetOK q d as A o1 A1) (K : cK own cc nL rt ini hh h4 (d + 1) n0 w0 o A' pc L r A1 o1) : Inn own cc nL rt ini hh (d + 1) n0 w0 o A' pc L st A := by
  intro p l e R s m args below meth c B Hb CS dC dI dA F hRm hB H locs ls ms hr hlo hL hst
  obtain ⟨hx, hb, hml, hlk, hown, hrt, hini, hT, hs0, hlw, hC⟩ := id F
  subst hstx
  have hjx : noJ x = true := by rw [← noJ_rev, ← hasx]; exact hj
  obtain ⟨mr, rfl, hst2⟩ := stR_split x r ms hjx hst
  have hxm : x.map (lvA B CS) = (as'.map (lvA B CS)).reverse ++ [.ref (adr B CS b)] := by
    have : x = as.reverse := by rw [hasx, List.reverse_reverse]
    rw [this, hasb]
    simp [lvA]
  have hmw := mword_code hq0
  have hws := wsM hC.2.1 hm
  have hrm := rm_ok hRm hm (hn A1 - hn A) (hw A1 - hw A)
  have hlen : as'.length + 1 = x.length := by
    have h9 : as.length = x.length := by rw [hasx, List.length_reverse]
    rw [← h9, hasb, List.length_cons]
  have hpn : ∀ sig, parseMethodDescriptor q.1.desc = some sig → as'.length = sig.parameters.length := fun sig hsg => by
    rw [hsg] at hnp
    have := Option.some.inj hnp
    dsimp only at this
    omega
  rw [hq1] at hmw
  exact call_fin F hRm hB hlo hL hst2 hok hhk h0 h1 hm1 hm2 hm3 hm4 (vx_runI (As := as'.map (lvA B CS)) (b := adr B CS b) (n := as'.length) (Ts := []) (cc := cc) (nL := nL) (rm := rmD d (hn A1 - hn A) (hw A1 - hw A)) (ws := [mword q]) (bytes := q.2.1) (maxL := q.2.2.1) (own := own) ⟨hx, hb, hml, hown, fun w hw9 => by cases hw9⟩ (hM l B Hb CS dC dI dA (by omega))
    ⟨⟨rfl, rfl, hrm.1, hrm.2, hws, by rw [hmw]; exact List.mem_cons_self, by rw [← hmw]; exact hC.2.1 _ hm.1 goodM args, hC.2.1 _ hm.2.1 rfl args, hm.2.2.1, hpn, hC.2.1 _ hl rfl args⟩, hnm, hC.2.1 _ hin rfl args⟩
    ⟨PcO.blind, PcO.of hr hC (by rw [hasb]; rfl)⟩ rfl (by rw [List.length_map]) (by obtain ⟨l9, h9, -⟩ := hL; exact h9.1) (by show _ = _; rw [hxm]; simp) (by show 2 * 0 + _ ≤ 8; rw [hst2.sum]; omega) hd ⟨by obtain ⟨-, -, g3, -⟩ := hRm; omega, by obtain ⟨-, -, -, g4⟩ := hRm; omega⟩) K
theorem in_callIN {q : MIT} {ix b : Nat} {host : String} {as' : List Value} {x : List Value} (hd : decode cc pc = .ok (.invokespecial ix, 3)) (hm : mOK q) (hq0 : q.2.2.2.2.1 = []) (hq1 : q.2.2.2.1 = none) (hnm : q.1.name = "<init>") (hl : Jvm.Cond.methodLinkNest own ix q.1 host ∈ lw_tb) (hin : Jvm.Cond.instanceMethod q.1 ∈ lw_tb) (hnp : (parseMethodDescriptor q.1.desc).map (fun d => d.parameters.length + 1) = some x.length)
    (hstx : st = x ++ r) (hasx : as = x.reverse) (hasb : as = .ref b :: as') (hcat : catS r ≤ 8) (hj : noJ as = true) (hok : okO o1) (hhk : hhOK own hh h4) (h0 : n0 ≤ hn A) (h1 : w0 ≤ hw A) (hm1 : hn A ≤ hn A1) (hm2 : hw A ≤ hw A1) (hm3 : hn A1 ≤ hn A') (hm4 : hw A1 ≤ hw A')
    (hM : MetOK q d as A o1 A1) (K : cK own cc nL rt ini hh h4 (d + 1) n0 w0 o A' pc L r A1 o1) : Inn own cc nL rt ini hh (d + 1) n0 w0 o A' pc L st A := by
  intro p l e R s m args below meth c B Hb CS dC dI dA F hRm hB H locs ls ms hr hlo hL hst
  obtain ⟨hx, hb, hml, hlk, hown, hrt, hini, hT, hs0, hlw, hC⟩ := id F
  subst hstx
  have hjx : noJ x = true := by rw [← noJ_rev, ← hasx]; exact hj
  obtain ⟨mr, rfl, hst2⟩ := stR_split x r ms hjx hst
  have hxm : x.map (lvA B CS) = (as'.map (lvA B CS)).reverse ++ [.ref (adr B CS b)] := by
    have : x = as.reverse := by rw [hasx, List.reverse_reverse]
    rw [this, hasb]
    simp [lvA]
  have hmw := mword_code hq0
  have hws := wsM hC.2.1 hm
  have hrm := rm_ok hRm hm (hn A1 - hn A) (hw A1 - hw A)
  have hlen : as'.length + 1 = x.length := by
    have h9 : as.length = x.length := by rw [hasx, List.length_reverse]
    rw [← h9, hasb, List.length_cons]
  have hpn : ∀ sig, parseMethodDescriptor q.1.desc = some sig → as'.length = sig.parameters.length := fun sig hsg => by
    rw [hsg] at hnp
    have := Option.some.inj hnp
    dsimp only at this
    omega
  rw [hq1] at hmw
  exact call_fin F hRm hB hlo hL hst2 hok hhk h0 h1 hm1 hm2 hm3 hm4 (vx_runIN (As := as'.map (lvA B CS)) (b := adr B CS b) (n := as'.length) (Ts := []) (cc := cc) (nL := nL) (rm := rmD d (hn A1 - hn A) (hw A1 - hw A)) (ws := [mword q]) (bytes := q.2.1) (maxL := q.2.2.1) (host := host) (own := own) ⟨hx, hb, hml, hown, fun w hw9 => by cases hw9⟩ (hM l B Hb CS dC dI dA (by omega))
    ⟨⟨⟨rfl, rfl, hrm.1, hrm.2, hws, by rw [hmw]; exact List.mem_cons_self⟩, by rw [← hmw]; exact hC.2.1 _ hm.1 goodM args, hC.2.1 _ hm.2.1 rfl args, hm.2.2.1, hpn, hC.2.1 _ hl rfl args⟩, hnm, hC.2.1 _ hin rfl args⟩
    ⟨PcO.blind, PcO.of hr hC (by rw [hasb]; rfl)⟩ rfl (by rw [List.length_map]) (by obtain ⟨l9, h9, -⟩ := hL; exact h9.1) (by show _ = _; rw [hxm]; simp) (by show 2 * 0 + _ ≤ 8; rw [hst2.sum]; omega) hd ⟨by obtain ⟨-, -, g3, -⟩ := hRm; omega, by obtain ⟨-, -, -, g4⟩ := hRm; omega⟩) K
theorem in_callSU {q : MIT} {ci ix b : Nat} {as' : List Value} {x : List Value} (hd : decode cc pc = .ok (.invokespecial ix, 3)) (hm : mOK q) (hq0 : q.2.2.2.2.1 = []) (hnm : q.1.name ≠ "<init>") (hl : Jvm.Cond.methodLink own ix q.1 ∈ lw_tb) (hin : Jvm.Cond.instanceMethod q.1 ∈ lw_tb) (hsm : Jvm.Cond.sameMethod q.1.cls q.1.cls q.1.name q.1.desc ∈ lw_tb) (hsup : Jvm.Cond.superclass own q.1.cls ∈ lw_tb) (hci : ∃ C, wcl[ci]? = some C) (hnp : (parseMethodDescriptor q.1.desc).map (fun d => d.parameters.length + 1) = some x.length)
    (hstx : st = x ++ r) (hasx : as = x.reverse) (hasb : as = .ref b :: as') (hkb : hK A b = (10 + ci, 0)) (hcat : catS r ≤ 8) (hj : noJ as = true) (hok : okO o1) (hhk : hhOK own hh h4) (h0 : n0 ≤ hn A) (h1 : w0 ≤ hw A) (hm1 : hn A ≤ hn A1) (hm2 : hw A ≤ hw A1) (hm3 : hn A1 ≤ hn A') (hm4 : hw A1 ≤ hw A')
    (hM : MetOK q d as A o1 A1) (K : cK own cc nL rt ini hh h4 (d + 1) n0 w0 o A' pc L r A1 o1) : Inn own cc nL rt ini hh (d + 1) n0 w0 o A' pc L st A := by
  intro p l e R s m args below meth c B Hb CS dC dI dA F hRm hB H locs ls ms hr hlo hL hst
  obtain ⟨hx, hb, hml, hlk, hown, hrt, hini, hT, hs0, hlw, hC⟩ := id F
  subst hstx
  have hjx : noJ x = true := by rw [← noJ_rev, ← hasx]; exact hj
  obtain ⟨mr, rfl, hst2⟩ := stR_split x r ms hjx hst
  have hxm : x.map (lvA B CS) = (as'.map (lvA B CS)).reverse ++ [.ref (adr B CS b)] := by
    have : x = as.reverse := by rw [hasx, List.reverse_reverse]
    rw [this, hasb]
    simp [lvA]
  have hmw := mword_code hq0
  have hws := wsM hC.2.1 hm
  have hrm := rm_ok hRm hm (hn A1 - hn A) (hw A1 - hw A)
  have hlen : as'.length + 1 = x.length := by
    have h9 : as.length = x.length := by rw [hasx, List.length_reverse]
    rw [← h9, hasb, List.length_cons]
  have hpn : ∀ sig, parseMethodDescriptor q.1.desc = some sig → as'.length = sig.parameters.length := fun sig hsg => by
    rw [hsg] at hnp
    have := Option.some.inj hnp
    dsimp only at this
    omega
  obtain ⟨⟨C, T, N⟩, hc⟩ := hci
  obtain ⟨r9, j1, ce, j2, j3, j4, j5⟩ := hr.at (celA_o hkb)
  have hr9 : r9 = (C, T, N) := Option.some.inj (j1.symm.trans hc)
  subst hr9
  have hcl := (hC.2.2.1.1 ci _ hc).2
  exact call_fin F hRm hB hlo hL hst2 hok hhk h0 h1 hm1 hm2 hm3 hm4 (vx_runSU (C := C) hcl (As := as'.map (lvA B CS)) (b := adr B CS b) (n := as'.length) (Ts := []) (cc := cc) (nL := nL) (rm := rmD d (hn A1 - hn A) (hw A1 - hw A)) (ws := [mword q]) (bytes := q.2.1) (maxL := q.2.2.1) (ret := q.2.2.2.1) (own := own) ⟨hx, hb, hml, hown, fun w hw9 => by cases hw9⟩ (hM l B Hb CS dC dI dA (by omega))
    ⟨⟨rfl, rfl, hrm.1, hrm.2, hws, by rw [hmw]; exact List.mem_cons_self⟩, hC.2.1 _ hl rfl args, hC.2.1 _ hsm rfl args, hC.2.1 _ hsup rfl args, hC.2.1 _ hin rfl args, hC.2.1 _ hm.2.1 rfl args, by rw [← hmw]; exact hC.2.1 _ hm.1 goodM args, hnm, hpn⟩
    ⟨PcO.blind, ⟨ce, j2, by rw [j4]; rfl, by rw [j3]; exact hcl.1⟩, PcO.of hr hC (by rw [hasb]; rfl)⟩ rfl (by rw [List.length_map]) (by obtain ⟨l9, h9, -⟩ := hL; exact h9.1) (by show _ = _; rw [hxm]; simp) (by show 2 * 0 + _ ≤ 8; rw [hst2.sum]; omega) hd ⟨by obtain ⟨-, -, g3, -⟩ := hRm; omega, by obtain ⟨-, -, -, g4⟩ := hRm; omega⟩) K
end CS2
end
