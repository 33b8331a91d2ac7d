section
-- ===== PART A: goes FIRST, ahead of the names: the tables' words, and 'selects' of the private methods out of them =====
/-- a private method of a class that the tables say can be made, by its rows of tables_1 -/
def lw_okq (q : MethodName × Nat) : Prop := (q.1.cls ≠ "java/lang/invoke/MethodHandle" ∧ q.1.cls ≠ "java/lang/invoke/VarHandle") ∧ Cond.instantiable q.1.cls q.2 ∈ tables_1 ∧ Cond.privateMethod q.1 ∈ tables_1 ∧ Cond.instanceMethod q.1 ∈ tables_1
theorem lw_p0 : lw_okq (⟨"java/lang/Throwable", "fillInStackTrace", "(I)Ljava/lang/Throwable;"⟩, 6) := ⟨⟨by decide +kernel, by decide +kernel⟩, List.mem_of_getElem? (i := 285) (by decide +kernel), List.mem_of_getElem? (i := 283) (by decide +kernel), List.mem_of_getElem? (i := 284) (by decide +kernel)⟩
theorem lw_p1 : lw_okq (⟨"DecimalDesk$Draft", "behindSign", "(I)I"⟩, 8) := ⟨⟨by decide +kernel, by decide +kernel⟩, List.mem_of_getElem? (i := 72) (by decide +kernel), List.mem_of_getElem? (i := 319) (by decide +kernel), List.mem_of_getElem? (i := 320) (by decide +kernel)⟩
theorem lw_p2 : lw_okq (⟨"DecimalDesk$Draft", "scanDigits", "()V"⟩, 8) := ⟨⟨by decide +kernel, by decide +kernel⟩, List.mem_of_getElem? (i := 72) (by decide +kernel), List.mem_of_getElem? (i := 323) (by decide +kernel), List.mem_of_getElem? (i := 324) (by decide +kernel)⟩
theorem lw_p3 : lw_okq (⟨"DecimalDesk$Draft", "scanExponent", "()Z"⟩, 8) := ⟨⟨by decide +kernel, by decide +kernel⟩, List.mem_of_getElem? (i := 72) (by decide +kernel), List.mem_of_getElem? (i := 330) (by decide +kernel), List.mem_of_getElem? (i := 331) (by decide +kernel)⟩
theorem lw_p4 : lw_okq (⟨"DecimalDesk", "keep", "(I)V"⟩, 8) := ⟨⟨by decide +kernel, by decide +kernel⟩, List.mem_of_getElem? (i := 21) (by decide +kernel), List.mem_of_getElem? (i := 412) (by decide +kernel), List.mem_of_getElem? (i := 413) (by decide +kernel)⟩
theorem lw_p5 : lw_okq (⟨"DecimalDesk", "align", "(LDecimalDesk$Decimal;LDecimalDesk$Decimal;)V"⟩, 8) := ⟨⟨by decide +kernel, by decide +kernel⟩, List.mem_of_getElem? (i := 21) (by decide +kernel), List.mem_of_getElem? (i := 465) (by decide +kernel), List.mem_of_getElem? (i := 466) (by decide +kernel)⟩
theorem lw_p6 : lw_okq (⟨"DecimalDesk$Natural", "moveDown", "(I)Z"⟩, 2) := ⟨⟨by decide +kernel, by decide +kernel⟩, List.mem_of_getElem? (i := 36) (by decide +kernel), List.mem_of_getElem? (i := 486) (by decide +kernel), List.mem_of_getElem? (i := 487) (by decide +kernel)⟩
theorem lw_p7 : lw_okq (⟨"DecimalDesk$Natural", "moveUp", "(I)V"⟩, 2) := ⟨⟨by decide +kernel, by decide +kernel⟩, List.mem_of_getElem? (i := 36) (by decide +kernel), List.mem_of_getElem? (i := 491) (by decide +kernel), List.mem_of_getElem? (i := 492) (by decide +kernel)⟩
theorem lw_p8 : lw_okq (⟨"DecimalDesk", "addSigned", "(Z)V"⟩, 8) := ⟨⟨by decide +kernel, by decide +kernel⟩, List.mem_of_getElem? (i := 21) (by decide +kernel), List.mem_of_getElem? (i := 498) (by decide +kernel), List.mem_of_getElem? (i := 499) (by decide +kernel)⟩
theorem lw_p9 : lw_okq (⟨"DecimalDesk", "divideRough", "(LDecimalDesk$Decimal;I)V"⟩, 8) := ⟨⟨by decide +kernel, by decide +kernel⟩, List.mem_of_getElem? (i := 21) (by decide +kernel), List.mem_of_getElem? (i := 549) (by decide +kernel), List.mem_of_getElem? (i := 550) (by decide +kernel)⟩
theorem lw_p10 : lw_okq (⟨"DecimalDesk$Divider", "takeLimb", "([II)I"⟩, 1) := ⟨⟨by decide +kernel, by decide +kernel⟩, List.mem_of_getElem? (i := 117) (by decide +kernel), List.mem_of_getElem? (i := 567) (by decide +kernel), List.mem_of_getElem? (i := 568) (by decide +kernel)⟩
theorem lw_p11 : lw_okq (⟨"DecimalDesk$Divider", "guessLimb", "([II)J"⟩, 1) := ⟨⟨by decide +kernel, by decide +kernel⟩, List.mem_of_getElem? (i := 117) (by decide +kernel), List.mem_of_getElem? (i := 571) (by decide +kernel), List.mem_of_getElem? (i := 572) (by decide +kernel)⟩
theorem lw_p12 : lw_okq (⟨"DecimalDesk$Divider", "subtractTimes", "([IIJ)Z"⟩, 1) := ⟨⟨by decide +kernel, by decide +kernel⟩, List.mem_of_getElem? (i := 117) (by decide +kernel), List.mem_of_getElem? (i := 576) (by decide +kernel), List.mem_of_getElem? (i := 577) (by decide +kernel)⟩
theorem lw_p13 : lw_okq (⟨"DecimalDesk$Divider", "giveBack", "([II)V"⟩, 1) := ⟨⟨by decide +kernel, by decide +kernel⟩, List.mem_of_getElem? (i := 117) (by decide +kernel), List.mem_of_getElem? (i := 580) (by decide +kernel), List.mem_of_getElem? (i := 581) (by decide +kernel)⟩
theorem lw_p14 : lw_okq (⟨"DecimalDesk$Rough", "goesOutwards", "(IIZ)Z"⟩, 4) := ⟨⟨by decide +kernel, by decide +kernel⟩, List.mem_of_getElem? (i := 150) (by decide +kernel), List.mem_of_getElem? (i := 601) (by decide +kernel), List.mem_of_getElem? (i := 602) (by decide +kernel)⟩
theorem lw_p15 : lw_okq (⟨"DecimalDesk", "reduceRaised", "(LDecimalDesk$Natural;I)V"⟩, 8) := ⟨⟨by decide +kernel, by decide +kernel⟩, List.mem_of_getElem? (i := 21) (by decide +kernel), List.mem_of_getElem? (i := 643) (by decide +kernel), List.mem_of_getElem? (i := 644) (by decide +kernel)⟩
def lw_privs_1 : List (MethodName × Nat) := [(⟨"java/lang/Throwable", "fillInStackTrace", "(I)Ljava/lang/Throwable;"⟩, 6), (⟨"DecimalDesk$Draft", "behindSign", "(I)I"⟩, 8), (⟨"DecimalDesk$Draft", "scanDigits", "()V"⟩, 8), (⟨"DecimalDesk$Draft", "scanExponent", "()Z"⟩, 8), (⟨"DecimalDesk", "keep", "(I)V"⟩, 8), (⟨"DecimalDesk", "align", "(LDecimalDesk$Decimal;LDecimalDesk$Decimal;)V"⟩, 8), (⟨"DecimalDesk$Natural", "moveDown", "(I)Z"⟩, 2), (⟨"DecimalDesk$Natural", "moveUp", "(I)V"⟩, 2), (⟨"DecimalDesk", "addSigned", "(Z)V"⟩, 8), (⟨"DecimalDesk", "divideRough", "(LDecimalDesk$Decimal;I)V"⟩, 8), (⟨"DecimalDesk$Divider", "takeLimb", "([II)I"⟩, 1), (⟨"DecimalDesk$Divider", "guessLimb", "([II)J"⟩, 1), (⟨"DecimalDesk$Divider", "subtractTimes", "([IIJ)Z"⟩, 1), (⟨"DecimalDesk$Divider", "giveBack", "([II)V"⟩, 1), (⟨"DecimalDesk$Rough", "goesOutwards", "(IIZ)Z"⟩, 4), (⟨"DecimalDesk", "reduceRaised", "(LDecimalDesk$Natural;I)V"⟩, 8)]
theorem lw_r1 : ∀ q ∈ lw_privs_1, lw_okq q := List.forall_mem_cons.mpr ⟨lw_p0, List.forall_mem_cons.mpr ⟨lw_p1, List.forall_mem_cons.mpr ⟨lw_p2, List.forall_mem_cons.mpr ⟨lw_p3, List.forall_mem_cons.mpr ⟨lw_p4, List.forall_mem_cons.mpr ⟨lw_p5, List.forall_mem_cons.mpr ⟨lw_p6, List.forall_mem_cons.mpr ⟨lw_p7, List.forall_mem_cons.mpr ⟨lw_p8, List.forall_mem_cons.mpr ⟨lw_p9, List.forall_mem_cons.mpr ⟨lw_p10, List.forall_mem_cons.mpr ⟨lw_p11, List.forall_mem_cons.mpr ⟨lw_p12, List.forall_mem_cons.mpr ⟨lw_p13, List.forall_mem_cons.mpr ⟨lw_p14, List.forall_mem_cons.mpr ⟨lw_p15, fun _ h => absurd h List.not_mem_nil⟩⟩⟩⟩⟩⟩⟩⟩⟩⟩⟩⟩⟩⟩⟩⟩
theorem lw_p16 : lw_okq (⟨"DecimalDesk", "growRough", "(LDecimalDesk$Natural;)V"⟩, 8) := ⟨⟨by decide +kernel, by decide +kernel⟩, List.mem_of_getElem? (i := 21) (by decide +kernel), List.mem_of_getElem? (i := 656) (by decide +kernel), List.mem_of_getElem? (i := 657) (by decide +kernel)⟩
theorem lw_p17 : lw_okq (⟨"DecimalDesk$Rooter", "descend", "(LDecimalDesk$Natural;)Z"⟩, 4) := ⟨⟨by decide +kernel, by decide +kernel⟩, List.mem_of_getElem? (i := 129) (by decide +kernel), List.mem_of_getElem? (i := 681) (by decide +kernel), List.mem_of_getElem? (i := 682) (by decide +kernel)⟩
theorem lw_p18 : lw_okq (⟨"DecimalDesk", "orderOfSizes", "(LDecimalDesk$Decimal;LDecimalDesk$Decimal;)I"⟩, 8) := ⟨⟨by decide +kernel, by decide +kernel⟩, List.mem_of_getElem? (i := 21) (by decide +kernel), List.mem_of_getElem? (i := 738) (by decide +kernel), List.mem_of_getElem? (i := 739) (by decide +kernel)⟩
theorem lw_p19 : lw_okq (⟨"DecimalDesk$Text", "restart", "(I)V"⟩, 2) := ⟨⟨by decide +kernel, by decide +kernel⟩, List.mem_of_getElem? (i := 104) (by decide +kernel), List.mem_of_getElem? (i := 783) (by decide +kernel), List.mem_of_getElem? (i := 784) (by decide +kernel)⟩
theorem lw_p20 : lw_okq (⟨"DecimalDesk$Text", "append", "(C)V"⟩, 2) := ⟨⟨by decide +kernel, by decide +kernel⟩, List.mem_of_getElem? (i := 104) (by decide +kernel), List.mem_of_getElem? (i := 787) (by decide +kernel), List.mem_of_getElem? (i := 788) (by decide +kernel)⟩
theorem lw_p21 : lw_okq (⟨"DecimalDesk$Text", "spellInteger", "(LDecimalDesk$Decimal;)V"⟩, 2) := ⟨⟨by decide +kernel, by decide +kernel⟩, List.mem_of_getElem? (i := 104) (by decide +kernel), List.mem_of_getElem? (i := 791) (by decide +kernel), List.mem_of_getElem? (i := 792) (by decide +kernel)⟩
theorem lw_p22 : lw_okq (⟨"DecimalDesk$Text", "appendDigits", "(LDecimalDesk$Natural;II)V"⟩, 2) := ⟨⟨by decide +kernel, by decide +kernel⟩, List.mem_of_getElem? (i := 104) (by decide +kernel), List.mem_of_getElem? (i := 795) (by decide +kernel), List.mem_of_getElem? (i := 796) (by decide +kernel)⟩
theorem lw_p23 : lw_okq (⟨"DecimalDesk$Text", "appendZeros", "(I)V"⟩, 2) := ⟨⟨by decide +kernel, by decide +kernel⟩, List.mem_of_getElem? (i := 104) (by decide +kernel), List.mem_of_getElem? (i := 801) (by decide +kernel), List.mem_of_getElem? (i := 802) (by decide +kernel)⟩
theorem lw_p24 : lw_okq (⟨"DecimalDesk$Text", "spellPointed", "(LDecimalDesk$Natural;I)V"⟩, 2) := ⟨⟨by decide +kernel, by decide +kernel⟩, List.mem_of_getElem? (i := 104) (by decide +kernel), List.mem_of_getElem? (i := 805) (by decide +kernel), List.mem_of_getElem? (i := 806) (by decide +kernel)⟩
theorem lw_p25 : lw_okq (⟨"DecimalDesk$Text", "appendPower", "(I)V"⟩, 2) := ⟨⟨by decide +kernel, by decide +kernel⟩, List.mem_of_getElem? (i := 104) (by decide +kernel), List.mem_of_getElem? (i := 810) (by decide +kernel), List.mem_of_getElem? (i := 811) (by decide +kernel)⟩
theorem lw_p26 : lw_okq (⟨"DecimalDesk$Text", "spellZero", "(I)V"⟩, 2) := ⟨⟨by decide +kernel, by decide +kernel⟩, List.mem_of_getElem? (i := 104) (by decide +kernel), List.mem_of_getElem? (i := 818) (by decide +kernel), List.mem_of_getElem? (i := 819) (by decide +kernel)⟩
theorem lw_p27 : lw_okq (⟨"DecimalDeskModel", "says", "()Z"⟩, 21) := ⟨⟨by decide +kernel, by decide +kernel⟩, List.mem_of_getElem? (i := 822) (by decide +kernel), List.mem_of_getElem? (i := 913) (by decide +kernel), List.mem_of_getElem? (i := 914) (by decide +kernel)⟩
theorem lw_p28 : lw_okq (⟨"DecimalDeskModel", "at", "(I)I"⟩, 21) := ⟨⟨by decide +kernel, by decide +kernel⟩, List.mem_of_getElem? (i := 822) (by decide +kernel), List.mem_of_getElem? (i := 917) (by decide +kernel), List.mem_of_getElem? (i := 918) (by decide +kernel)⟩
theorem lw_p29 : lw_okq (⟨"DecimalDeskModel", "store", "(I)V"⟩, 21) := ⟨⟨by decide +kernel, by decide +kernel⟩, List.mem_of_getElem? (i := 822) (by decide +kernel), List.mem_of_getElem? (i := 926) (by decide +kernel), List.mem_of_getElem? (i := 927) (by decide +kernel)⟩
theorem lw_p30 : lw_okq (⟨"DecimalDeskModel", "trim", "()V"⟩, 21) := ⟨⟨by decide +kernel, by decide +kernel⟩, List.mem_of_getElem? (i := 822) (by decide +kernel), List.mem_of_getElem? (i := 930) (by decide +kernel), List.mem_of_getElem? (i := 931) (by decide +kernel)⟩
theorem lw_p31 : lw_okq (⟨"DecimalDeskModel", "isZero", "(I)Z"⟩, 21) := ⟨⟨by decide +kernel, by decide +kernel⟩, List.mem_of_getElem? (i := 822) (by decide +kernel), List.mem_of_getElem? (i := 944) (by decide +kernel), List.mem_of_getElem? (i := 945) (by decide +kernel)⟩
def lw_privs_2 : List (MethodName × Nat) := [(⟨"DecimalDesk", "growRough", "(LDecimalDesk$Natural;)V"⟩, 8), (⟨"DecimalDesk$Rooter", "descend", "(LDecimalDesk$Natural;)Z"⟩, 4), (⟨"DecimalDesk", "orderOfSizes", "(LDecimalDesk$Decimal;LDecimalDesk$Decimal;)I"⟩, 8), (⟨"DecimalDesk$Text", "restart", "(I)V"⟩, 2), (⟨"DecimalDesk$Text", "append", "(C)V"⟩, 2), (⟨"DecimalDesk$Text", "spellInteger", "(LDecimalDesk$Decimal;)V"⟩, 2), (⟨"DecimalDesk$Text", "appendDigits", "(LDecimalDesk$Natural;II)V"⟩, 2), (⟨"DecimalDesk$Text", "appendZeros", "(I)V"⟩, 2), (⟨"DecimalDesk$Text", "spellPointed", "(LDecimalDesk$Natural;I)V"⟩, 2), (⟨"DecimalDesk$Text", "appendPower", "(I)V"⟩, 2), (⟨"DecimalDesk$Text", "spellZero", "(I)V"⟩, 2), (⟨"DecimalDeskModel", "says", "()Z"⟩, 21), (⟨"DecimalDeskModel", "at", "(I)I"⟩, 21), (⟨"DecimalDeskModel", "store", "(I)V"⟩, 21), (⟨"DecimalDeskModel", "trim", "()V"⟩, 21), (⟨"DecimalDeskModel", "isZero", "(I)Z"⟩, 21)]
theorem lw_r2 : ∀ q ∈ lw_privs_2, lw_okq q := List.forall_mem_cons.mpr ⟨lw_p16, List.forall_mem_cons.mpr ⟨lw_p17, List.forall_mem_cons.mpr ⟨lw_p18, List.forall_mem_cons.mpr ⟨lw_p19, List.forall_mem_cons.mpr ⟨lw_p20, List.forall_mem_cons.mpr ⟨lw_p21, List.forall_mem_cons.mpr ⟨lw_p22, List.forall_mem_cons.mpr ⟨lw_p23, List.forall_mem_cons.mpr ⟨lw_p24, List.forall_mem_cons.mpr ⟨lw_p25, List.forall_mem_cons.mpr ⟨lw_p26, List.forall_mem_cons.mpr ⟨lw_p27, List.forall_mem_cons.mpr ⟨lw_p28, List.forall_mem_cons.mpr ⟨lw_p29, List.forall_mem_cons.mpr ⟨lw_p30, List.forall_mem_cons.mpr ⟨lw_p31, fun _ h => absurd h List.not_mem_nil⟩⟩⟩⟩⟩⟩⟩⟩⟩⟩⟩⟩⟩⟩⟩⟩
theorem lw_p32 : lw_okq (⟨"DecimalDeskModel", "compareSizes", "(II)I"⟩, 21) := ⟨⟨by decide +kernel, by decide +kernel⟩, List.mem_of_getElem? (i := 822) (by decide +kernel), List.mem_of_getElem? (i := 948) (by decide +kernel), List.mem_of_getElem? (i := 949) (by decide +kernel)⟩
theorem lw_p33 : lw_okq (⟨"DecimalDeskModel", "figure", "(IJI)I"⟩, 21) := ⟨⟨by decide +kernel, by decide +kernel⟩, List.mem_of_getElem? (i := 822) (by decide +kernel), List.mem_of_getElem? (i := 957) (by decide +kernel), List.mem_of_getElem? (i := 958) (by decide +kernel)⟩
theorem lw_p34 : lw_okq (⟨"DecimalDeskModel", "load", "(I)V"⟩, 21) := ⟨⟨by decide +kernel, by decide +kernel⟩, List.mem_of_getElem? (i := 822) (by decide +kernel), List.mem_of_getElem? (i := 965) (by decide +kernel), List.mem_of_getElem? (i := 966) (by decide +kernel)⟩
theorem lw_p35 : lw_okq (⟨"DecimalDeskModel", "times", "(I)Z"⟩, 21) := ⟨⟨by decide +kernel, by decide +kernel⟩, List.mem_of_getElem? (i := 822) (by decide +kernel), List.mem_of_getElem? (i := 969) (by decide +kernel), List.mem_of_getElem? (i := 970) (by decide +kernel)⟩
theorem lw_p36 : lw_okq (⟨"DecimalDeskModel", "loadUnder", "(II)V"⟩, 21) := ⟨⟨by decide +kernel, by decide +kernel⟩, List.mem_of_getElem? (i := 822) (by decide +kernel), List.mem_of_getElem? (i := 986) (by decide +kernel), List.mem_of_getElem? (i := 987) (by decide +kernel)⟩
theorem lw_p37 : lw_okq (⟨"DecimalDeskModel", "beginQuotient", "()V"⟩, 21) := ⟨⟨by decide +kernel, by decide +kernel⟩, List.mem_of_getElem? (i := 822) (by decide +kernel), List.mem_of_getElem? (i := 990) (by decide +kernel), List.mem_of_getElem? (i := 991) (by decide +kernel)⟩
theorem lw_p38 : lw_okq (⟨"DecimalDeskModel", "nextFigure", "(I)I"⟩, 21) := ⟨⟨by decide +kernel, by decide +kernel⟩, List.mem_of_getElem? (i := 822) (by decide +kernel), List.mem_of_getElem? (i := 994) (by decide +kernel), List.mem_of_getElem? (i := 995) (by decide +kernel)⟩
theorem lw_p39 : lw_okq (⟨"DecimalDeskModel", "reaches", "()Z"⟩, 21) := ⟨⟨by decide +kernel, by decide +kernel⟩, List.mem_of_getElem? (i := 822) (by decide +kernel), List.mem_of_getElem? (i := 998) (by decide +kernel), List.mem_of_getElem? (i := 999) (by decide +kernel)⟩
theorem lw_p40 : lw_okq (⟨"DecimalDeskModel", "takeAway", "()V"⟩, 21) := ⟨⟨by decide +kernel, by decide +kernel⟩, List.mem_of_getElem? (i := 822) (by decide +kernel), List.mem_of_getElem? (i := 1002) (by decide +kernel), List.mem_of_getElem? (i := 1003) (by decide +kernel)⟩
theorem lw_p41 : lw_okq (⟨"DecimalDeskModel", "append", "(I)V"⟩, 21) := ⟨⟨by decide +kernel, by decide +kernel⟩, List.mem_of_getElem? (i := 822) (by decide +kernel), List.mem_of_getElem? (i := 1006) (by decide +kernel), List.mem_of_getElem? (i := 1007) (by decide +kernel)⟩
theorem lw_p42 : lw_okq (⟨"DecimalDeskModel", "isLeft", "()Z"⟩, 21) := ⟨⟨by decide +kernel, by decide +kernel⟩, List.mem_of_getElem? (i := 822) (by decide +kernel), List.mem_of_getElem? (i := 1010) (by decide +kernel), List.mem_of_getElem? (i := 1011) (by decide +kernel)⟩
theorem lw_p43 : lw_okq (⟨"DecimalDeskModel", "cut", "(II)Z"⟩, 21) := ⟨⟨by decide +kernel, by decide +kernel⟩, List.mem_of_getElem? (i := 822) (by decide +kernel), List.mem_of_getElem? (i := 1014) (by decide +kernel), List.mem_of_getElem? (i := 1015) (by decide +kernel)⟩
theorem lw_p44 : lw_okq (⟨"DecimalDeskModel", "grows", "(II)I"⟩, 21) := ⟨⟨by decide +kernel, by decide +kernel⟩, List.mem_of_getElem? (i := 822) (by decide +kernel), List.mem_of_getElem? (i := 1018) (by decide +kernel), List.mem_of_getElem? (i := 1019) (by decide +kernel)⟩
theorem lw_p45 : lw_okq (⟨"DecimalDeskModel", "isMore", "(I)Z"⟩, 21) := ⟨⟨by decide +kernel, by decide +kernel⟩, List.mem_of_getElem? (i := 822) (by decide +kernel), List.mem_of_getElem? (i := 1022) (by decide +kernel), List.mem_of_getElem? (i := 1023) (by decide +kernel)⟩
theorem lw_p46 : lw_okq (⟨"DecimalDeskModel", "toPrecision", "(IJII)V"⟩, 21) := ⟨⟨by decide +kernel, by decide +kernel⟩, List.mem_of_getElem? (i := 822) (by decide +kernel), List.mem_of_getElem? (i := 1030) (by decide +kernel), List.mem_of_getElem? (i := 1031) (by decide +kernel)⟩
theorem lw_p47 : lw_okq (⟨"DecimalDeskModel", "needed", "()I"⟩, 21) := ⟨⟨by decide +kernel, by decide +kernel⟩, List.mem_of_getElem? (i := 822) (by decide +kernel), List.mem_of_getElem? (i := 1034) (by decide +kernel), List.mem_of_getElem? (i := 1035) (by decide +kernel)⟩
def lw_privs_3 : List (MethodName × Nat) := [(⟨"DecimalDeskModel", "compareSizes", "(II)I"⟩, 21), (⟨"DecimalDeskModel", "figure", "(IJI)I"⟩, 21), (⟨"DecimalDeskModel", "load", "(I)V"⟩, 21), (⟨"DecimalDeskModel", "times", "(I)Z"⟩, 21), (⟨"DecimalDeskModel", "loadUnder", "(II)V"⟩, 21), (⟨"DecimalDeskModel", "beginQuotient", "()V"⟩, 21), (⟨"DecimalDeskModel", "nextFigure", "(I)I"⟩, 21), (⟨"DecimalDeskModel", "reaches", "()Z"⟩, 21), (⟨"DecimalDeskModel", "takeAway", "()V"⟩, 21), (⟨"DecimalDeskModel", "append", "(I)V"⟩, 21), (⟨"DecimalDeskModel", "isLeft", "()Z"⟩, 21), (⟨"DecimalDeskModel", "cut", "(II)Z"⟩, 21), (⟨"DecimalDeskModel", "grows", "(II)I"⟩, 21), (⟨"DecimalDeskModel", "isMore", "(I)Z"⟩, 21), (⟨"DecimalDeskModel", "toPrecision", "(IJII)V"⟩, 21), (⟨"DecimalDeskModel", "needed", "()I"⟩, 21)]
theorem lw_r3 : ∀ q ∈ lw_privs_3, lw_okq q := List.forall_mem_cons.mpr ⟨lw_p32, List.forall_mem_cons.mpr ⟨lw_p33, List.forall_mem_cons.mpr ⟨lw_p34, List.forall_mem_cons.mpr ⟨lw_p35, List.forall_mem_cons.mpr ⟨lw_p36, List.forall_mem_cons.mpr ⟨lw_p37, List.forall_mem_cons.mpr ⟨lw_p38, List.forall_mem_cons.mpr ⟨lw_p39, List.forall_mem_cons.mpr ⟨lw_p40, List.forall_mem_cons.mpr ⟨lw_p41, List.forall_mem_cons.mpr ⟨lw_p42, List.forall_mem_cons.mpr ⟨lw_p43, List.forall_mem_cons.mpr ⟨lw_p44, List.forall_mem_cons.mpr ⟨lw_p45, List.forall_mem_cons.mpr ⟨lw_p46, List.forall_mem_cons.mpr ⟨lw_p47, fun _ h => absurd h List.not_mem_nil⟩⟩⟩⟩⟩⟩⟩⟩⟩⟩⟩⟩⟩⟩⟩⟩
theorem lw_p48 : lw_okq (⟨"DecimalDeskModel", "lengthen", "(J)V"⟩, 21) := ⟨⟨by decide +kernel, by decide +kernel⟩, List.mem_of_getElem? (i := 822) (by decide +kernel), List.mem_of_getElem? (i := 1038) (by decide +kernel), List.mem_of_getElem? (i := 1039) (by decide +kernel)⟩
theorem lw_p49 : lw_okq (⟨"DecimalDeskModel", "bring", "(JII)V"⟩, 21) := ⟨⟨by decide +kernel, by decide +kernel⟩, List.mem_of_getElem? (i := 822) (by decide +kernel), List.mem_of_getElem? (i := 1046) (by decide +kernel), List.mem_of_getElem? (i := 1047) (by decide +kernel)⟩
theorem lw_p50 : lw_okq (⟨"DecimalDeskModel", "nextRoot", "(II)V"⟩, 21) := ⟨⟨by decide +kernel, by decide +kernel⟩, List.mem_of_getElem? (i := 822) (by decide +kernel), List.mem_of_getElem? (i := 1054) (by decide +kernel), List.mem_of_getElem? (i := 1055) (by decide +kernel)⟩
theorem lw_p51 : lw_okq (⟨"DecimalDeskModel", "takesRoot", "(I)Z"⟩, 21) := ⟨⟨by decide +kernel, by decide +kernel⟩, List.mem_of_getElem? (i := 822) (by decide +kernel), List.mem_of_getElem? (i := 1058) (by decide +kernel), List.mem_of_getElem? (i := 1059) (by decide +kernel)⟩
theorem lw_p52 : lw_okq (⟨"DecimalDeskModel", "print", "(I)V"⟩, 21) := ⟨⟨by decide +kernel, by decide +kernel⟩, List.mem_of_getElem? (i := 822) (by decide +kernel), List.mem_of_getElem? (i := 1090) (by decide +kernel), List.mem_of_getElem? (i := 1091) (by decide +kernel)⟩
theorem lw_p53 : lw_okq (⟨"DecimalDeskModel", "figures", "(IIII)V"⟩, 21) := ⟨⟨by decide +kernel, by decide +kernel⟩, List.mem_of_getElem? (i := 822) (by decide +kernel), List.mem_of_getElem? (i := 1094) (by decide +kernel), List.mem_of_getElem? (i := 1095) (by decide +kernel)⟩
theorem lw_p54 : lw_okq (⟨"DecimalDeskModel", "exponent", "(I)V"⟩, 21) := ⟨⟨by decide +kernel, by decide +kernel⟩, List.mem_of_getElem? (i := 822) (by decide +kernel), List.mem_of_getElem? (i := 1098) (by decide +kernel), List.mem_of_getElem? (i := 1099) (by decide +kernel)⟩
def lw_privs_4 : List (MethodName × Nat) := [(⟨"DecimalDeskModel", "lengthen", "(J)V"⟩, 21), (⟨"DecimalDeskModel", "bring", "(JII)V"⟩, 21), (⟨"DecimalDeskModel", "nextRoot", "(II)V"⟩, 21), (⟨"DecimalDeskModel", "takesRoot", "(I)Z"⟩, 21), (⟨"DecimalDeskModel", "print", "(I)V"⟩, 21), (⟨"DecimalDeskModel", "figures", "(IIII)V"⟩, 21), (⟨"DecimalDeskModel", "exponent", "(I)V"⟩, 21)]
theorem lw_r4 : ∀ q ∈ lw_privs_4, lw_okq q := List.forall_mem_cons.mpr ⟨lw_p48, List.forall_mem_cons.mpr ⟨lw_p49, List.forall_mem_cons.mpr ⟨lw_p50, List.forall_mem_cons.mpr ⟨lw_p51, List.forall_mem_cons.mpr ⟨lw_p52, List.forall_mem_cons.mpr ⟨lw_p53, List.forall_mem_cons.mpr ⟨lw_p54, fun _ h => absurd h List.not_mem_nil⟩⟩⟩⟩⟩⟩⟩
def lw_privs : List (MethodName × Nat) := lw_privs_1 ++ (lw_privs_2 ++ (lw_privs_3 ++ (lw_privs_4)))
def lw_tbl : List Cond := k2_sels lw_privs ++ tables_1
theorem lw_privs_ok : ∀ q ∈ lw_privs, lw_okq q := by
  show ∀ q ∈ lw_privs_1 ++ (lw_privs_2 ++ (lw_privs_3 ++ (lw_privs_4))), lw_okq q
  exact List.forall_mem_append.mpr ⟨lw_r1, List.forall_mem_append.mpr ⟨lw_r2, List.forall_mem_append.mpr ⟨lw_r3, lw_r4⟩⟩⟩
end
section
/-! names of classes and fields (written by names.py) -/
def zR0 : String := "DecimalDesk"
def zT0 : u_T := fun k => match k with
  | 0 => ("DecimalDesk", "registers", "[LDecimalDesk$Decimal;", true)
  | 1 => ("DecimalDesk", "draft", "LDecimalDesk$Draft;", true)
  | 2 => ("DecimalDesk", "text", "LDecimalDesk$Text;", true)
  | 3 => ("DecimalDesk", "divider", "LDecimalDesk$Divider;", true)
  | 4 => ("DecimalDesk", "rooter", "LDecimalDesk$Rooter;", true)
  | 5 => ("DecimalDesk", "rough", "LDecimalDesk$Rough;", true)
  | 6 => ("DecimalDesk", "other", "LDecimalDesk$Natural;", true)
  | _ => ("DecimalDesk", "outcome", "LDecimalDesk$Natural;", true)
def zy0 : Nat → FieldType := fun k => match k with
  | 0 => .array (.object "DecimalDesk$Decimal")
  | 1 => .object "DecimalDesk$Draft"
  | 2 => .object "DecimalDesk$Text"
  | 3 => .object "DecimalDesk$Divider"
  | 4 => .object "DecimalDesk$Rooter"
  | 5 => .object "DecimalDesk$Rough"
  | 6 => .object "DecimalDesk$Natural"
  | _ => .object "DecimalDesk$Natural"
def zR1 : String := "DecimalDesk$Decimal"
def zT1 : u_T := fun k => match k with
  | 0 => ("DecimalDesk$Decimal", "number", "LDecimalDesk$Natural;", true)
  | 1 => ("DecimalDesk$Decimal", "negative", "Z", false)
  | _ => ("DecimalDesk$Decimal", "scale", "I", false)
def zy1 : Nat → FieldType := fun k => match k with
  | 0 => .object "DecimalDesk$Natural"
  | 1 => .boolean
  | _ => .int
def zR2 : String := "DecimalDesk$Divider"
def zT2 : u_T := fun k => match k with
  | _ => ("DecimalDesk$Divider", "divisor", "LDecimalDesk$Natural;", true)
def zy2 : Nat → FieldType := fun k => match k with
  | _ => .object "DecimalDesk$Natural"
def zR3 : String := "DecimalDesk$Draft"
def zT3 : u_T := fun k => match k with
  | 0 => ("DecimalDesk$Draft", "chars", "[C", true)
  | 1 => ("DecimalDesk$Draft", "count", "I", false)
  | 2 => ("DecimalDesk$Draft", "negative", "Z", false)
  | 3 => ("DecimalDesk$Draft", "firstDigit", "I", false)
  | 4 => ("DecimalDesk$Draft", "endOfDigits", "I", false)
  | 5 => ("DecimalDesk$Draft", "digits", "I", false)
  | 6 => ("DecimalDesk$Draft", "digitsBehindPoint", "I", false)
  | _ => ("DecimalDesk$Draft", "exponent", "J", false)
def zy3 : Nat → FieldType := fun k => match k with
  | 0 => .array .char
  | 1 => .int
  | 2 => .boolean
  | 3 => .int
  | 4 => .int
  | 5 => .int
  | 6 => .int
  | _ => .long
def zR4 : String := "DecimalDesk$Natural"
def zT4 : u_T := fun k => match k with
  | 0 => ("DecimalDesk$Natural", "limbs", "[I", true)
  | _ => ("DecimalDesk$Natural", "size", "I", false)
def zy4 : Nat → FieldType := fun k => match k with
  | 0 => .array .int
  | _ => .int
def zR5 : String := "DecimalDesk$Rooter"
def zT5 : u_T := fun k => match k with
  | 0 => ("DecimalDesk$Rooter", "divider", "LDecimalDesk$Divider;", true)
  | 1 => ("DecimalDesk$Rooter", "head", "LDecimalDesk$Natural;", true)
  | 2 => ("DecimalDesk$Rooter", "rest", "LDecimalDesk$Natural;", true)
  | _ => ("DecimalDesk$Rooter", "ratio", "LDecimalDesk$Natural;", true)
def zy5 : Nat → FieldType := fun k => match k with
  | 0 => .object "DecimalDesk$Divider"
  | 1 => .object "DecimalDesk$Natural"
  | 2 => .object "DecimalDesk$Natural"
  | _ => .object "DecimalDesk$Natural"
def zR6 : String := "DecimalDesk$Rough"
def zT6 : u_T := fun k => match k with
  | 0 => ("DecimalDesk$Rough", "number", "LDecimalDesk$Natural;", true)
  | 1 => ("DecimalDesk$Rough", "negative", "Z", false)
  | 2 => ("DecimalDesk$Rough", "scale", "I", false)
  | _ => ("DecimalDesk$Rough", "lost", "Z", false)
def zy6 : Nat → FieldType := fun k => match k with
  | 0 => .object "DecimalDesk$Natural"
  | 1 => .boolean
  | 2 => .int
  | _ => .boolean
def zR7 : String := "DecimalDesk$Text"
def zT7 : u_T := fun k => match k with
  | 0 => ("DecimalDesk$Text", "chars", "[C", false)
  | _ => ("DecimalDesk$Text", "length", "I", false)
def zy7 : Nat → FieldType := fun k => match k with
  | 0 => .array .char
  | _ => .int
def zR8 : String := "DecimalDeskModel"
def zT8 : u_T := fun k => match k with
  | 0 => ("DecimalDeskModel", "thrown", "I", false)
  | 1 => ("DecimalDeskModel", "draft", "[I", true)
  | 2 => ("DecimalDeskModel", "length", "I", false)
  | 3 => ("DecimalDeskModel", "kept", "[I", true)
  | 4 => ("DecimalDeskModel", "many", "[I", true)
  | 5 => ("DecimalDeskModel", "minus", "[Z", true)
  | 6 => ("DecimalDeskModel", "scales", "[I", true)
  | 7 => ("DecimalDeskModel", "row", "[I", true)
  | 8 => ("DecimalDeskModel", "size", "I", false)
  | 9 => ("DecimalDeskModel", "scale", "J", false)
  | 10 => ("DecimalDeskModel", "more", "Z", false)
  | 11 => ("DecimalDeskModel", "below", "Z", false)
  | 12 => ("DecimalDeskModel", "top", "[I", true)
  | 13 => ("DecimalDeskModel", "topSize", "I", false)
  | 14 => ("DecimalDeskModel", "under", "[I", true)
  | 15 => ("DecimalDeskModel", "underSize", "I", false)
  | 16 => ("DecimalDeskModel", "left", "[I", true)
  | 17 => ("DecimalDeskModel", "leftSize", "I", false)
  | 18 => ("DecimalDeskModel", "paper", "[I", true)
  | 19 => ("DecimalDeskModel", "printed", "I", false)
  | _ => ("DecimalDeskModel", "fault", "I", false)
def zy8 : Nat → FieldType := fun k => match k with
  | 0 => .int
  | 1 => .array .int
  | 2 => .int
  | 3 => .array .int
  | 4 => .array .int
  | 5 => .array .boolean
  | 6 => .array .int
  | 7 => .array .int
  | 8 => .int
  | 9 => .long
  | 10 => .boolean
  | 11 => .boolean
  | 12 => .array .int
  | 13 => .int
  | 14 => .array .int
  | 15 => .int
  | 16 => .array .int
  | 17 => .int
  | 18 => .array .int
  | 19 => .int
  | _ => .int
def zR9 : String := "java/lang/IllegalArgumentException"
def zT9 : u_T := fun _ => ("", "", "", false)
def zR10 : String := "java/lang/IllegalStateException"
def zT10 : u_T := fun _ => ("", "", "", false)
def zR11 : String := "java/lang/ArithmeticException"
def zT11 : u_T := fun _ => ("", "", "", false)
def zR12 : String := "java/lang/IndexOutOfBoundsException"
def zT12 : u_T := fun _ => ("", "", "", false)
def zd_cl : List vw_C := [(zR0, zT0, 8), (zR1, zT1, 3), (zR2, zT2, 1), (zR3, zT3, 8), (zR4, zT4, 2), (zR5, zT5, 4), (zR6, zT6, 4), (zR7, zT7, 2), (zR8, zT8, 21), (zR9, zT9, 0), (zR10, zT10, 0), (zR11, zT11, 0), (zR12, zT12, 0)]
def zd_ty : List FieldType := [.int, .char, .boolean, .long, .object "DecimalDesk$Decimal"]
def zd_CB : Nat := 601024
def zd_SB : Nat := 7293034
/-! THE ABSTRACT MACHINE: cells by address, one walk judgement for all methods, both outcomes -/
/-- a cell: an object (its class's number, its fields); a row of ints (its kind, how long, what); a row of longs; a row of references -/
abbrev zd_C : Type := (Nat × List Value) ⊕ ((Nat × Nat × (Nat → Int32)) ⊕ ((Nat × (Nat → Int64)) ⊕ (Nat × (Nat → Option Nat))))
/-- cells made since the start, their slots, what they hold by address -/
abbrev zd_H : Type := Nat × Nat × (Nat → zd_C)
/-- an outcome: a value, or an exception (its address, its class's number) -/
abbrev zd_O : Type := Option Value ⊕ (Nat × Nat)
/-- the start: its state, the script's address, the classes' numbers, their slots, the array classes' numbers, the table's address -/
abbrev zd_B : Type := State × Nat × (Nat → ClassId) × (Nat → Nat → Nat) × (Nat → ClassId) × Nat
abbrev zd_s0 (B : zd_B) : State := B.1
abbrev zd_b0 (B : zd_B) : Nat := B.1.heap.size
abbrev zd_ar (B : zd_B) : Array Value := #[Value.ref B.2.1]
abbrev zd_dC (B : zd_B) : Nat → ClassId := B.2.2.1
abbrev zd_dI (B : zd_B) : Nat → Nat → Nat := B.2.2.2.1
abbrev zd_aK (B : zd_B) : Nat → ClassId := B.2.2.2.2.1
abbrev zd_tT (B : zd_B) : Nat := B.2.2.2.2.2
/-- a method: name, bytes, locals, what it returns, frames and words that it may nest, its handlers -/
abbrev zd_Y : Type := MethodName × ByteArray × Nat × Option FieldType × Nat × Nat × List (Nat × Nat × Nat × Nat)
abbrev zd_yn (y : zd_Y) : MethodName := y.1
abbrev zd_yb (y : zd_Y) : ByteArray := y.2.1
abbrev zd_yl (y : zd_Y) : Nat := y.2.2.1
abbrev zd_yr (y : zd_Y) : Option FieldType := y.2.2.2.1
abbrev zd_yf (y : zd_Y) : Nat := y.2.2.2.2.1
abbrev zd_yw (y : zd_Y) : Nat := y.2.2.2.2.2.1
abbrev zd_yh (y : zd_Y) : List (Nat × Nat × Nat × Nat) := y.2.2.2.2.2.2
def zd_set (h : zd_H) (a : Nat) (c : zd_C) : zd_H := (h.1, h.2.1, fun q => if q = a then c else h.2.2 q)
def zd_push (h : zd_H) (a : Nat) (c : zd_C) (n : Nat) : zd_H := (h.1 + 1, h.2.1 + n, fun q => if q = a then c else h.2.2 q)
/-- what a cell is on the heap -/
def zd_at (B : zd_B) (H : Heap) (a : Nat) (c : zd_C) : Prop := match c with
  | .inl o => ∃ r : vw_C, zd_cl[o.1]? = some r ∧ t_OB a (zd_dC B o.1) r.2.2 (zd_dI B o.1) H (vp_V o.2)
  | .inr (.inl x) => H[a]? = some (arrV (zd_aK B x.1) x.2.1 (fun j => .int (x.2.2 j)))
  | .inr (.inr (.inl x)) => H[a]? = some (arrV (zd_aK B 3) x.1 (fun j => .long (x.2 j)))
  | .inr (.inr (.inr x)) => H[a]? = some (arrV (zd_aK B 4) x.1 (fun j => va_rf (x.2 j)))
def zd_lv (B : zd_B) (h : zd_H) (a : Nat) : Prop := zd_b0 B ≤ a ∧ a < zd_b0 B + h.1
/-- the heap is what h says -/
def zd_R (B : zd_B) (h : zd_H) (H : Heap) : Prop := H.size = zd_b0 B + h.1 ∧ (∀ a, zd_lv B h a → zd_at B H a (h.2.2 a)) ∧ ∀ q, q < zd_b0 B → H[q]? = (zd_s0 B).heap[q]?
/-- an object of class ci with the fields fs -/
def zd_Ob (B : zd_B) (h : zd_H) (a ci : Nat) (fs : List Value) : Prop := zd_lv B h a ∧ h.2.2 a = .inl (ci, fs)
def zd_Ai (B : zd_B) (h : zd_H) (a k n : Nat) (f : Nat → Int32) : Prop := zd_lv B h a ∧ h.2.2 a = .inr (.inl (k, n, f))
def zd_Al (B : zd_B) (h : zd_H) (a n : Nat) (f : Nat → Int64) : Prop := zd_lv B h a ∧ h.2.2 a = .inr (.inr (.inl (n, f)))
def zd_Ar (B : zd_B) (h : zd_H) (a n : Nat) (f : Nat → Option Nat) : Prop := zd_lv B h a ∧ h.2.2 a = .inr (.inr (.inr (n, f)))
/-- a row of ints that was there at the start, and that nobody writes -/
def zd_Ol (B : zd_B) (a n : Nat) (f : Nat → Int32) : Prop := ∃ cell : Cell, (zd_s0 B).heap[a]? = some cell ∧ (zd_s0 B).isArrayOf cell .int ∧ cell.vm ≠ .unknown ∧ cell.slots.size.toInt32 = Int32.ofNat n ∧ n ≤ cell.slots.size ∧ ∀ j, j < n → cell.slots[j]? = some (.int (f j))
/-- the locals: place by place what is known of them -/
abbrev zd_V : Type := List (Option Value)
def zd_Lh (arr : Array Slot) (n : Nat) (ls : zd_V) : Prop := arr.size = n ∧ lv_wf arr ∧ ∀ (i : Nat) (v : Value), ls[i]? = some (some v) → arr[i]? = some (.val v)
def zd_cut (ls : zd_V) (i : Nat) : zd_V := match i with
  | 0 => ls
  | j + 1 => match ls[j]? with
    | some (some v) => cond (Nat.beq v.category 2) (ls.set j none) ls
    | _ => ls
def zd_st1 (ls : zd_V) (i : Nat) (v : Value) : zd_V := (zd_cut ls i).set i (some v)
def zd_st2 (ls : zd_V) (i : Nat) (v : Value) : zd_V := ((zd_cut ls i).set i (some v)).set (i + 1) none
def zd_Oe (x : zd_O) (o : Outcome) : Prop := match x with
  | .inl v => o = .returned v
  | .inr q => o = .threw q.1
/-- where a method's walk ends -/
def zd_F (B : zd_B) (s : State) (below : List Frame) (c0 n0 : Nat) (Q : zd_O → zd_H → Prop) : State → Prop := fun t =>
  ∃ (o : Outcome) (x : zd_O) (h : zd_H), t.status = .running ∧ Ended t below o ∧ zd_Oe x o ∧ Q x h ∧ (∀ q, x = .inr q → ∃ fs, zd_Ob B h q.1 q.2 fs) ∧ (c0 ≤ h.1 ∧ n0 ≤ h.2.1 ∧ h.1 ≤ zd_CB ∧ h.2.1 ≤ zd_SB) ∧ zd_R B h t.heap ∧ s.WarmedH t.vm ∧
    ∃ L : List Loc, (∀ q ∈ L, zd_b0 B ≤ q.base) ∧ s.sameButNew ({ t with vm := s.vm } : State) L (h.1 - c0) (h.2.1 - n0)
/-- what holds all along a method's walk -/
def zd_X (B : zd_B) (y : zd_Y) (p : Program) (R : Room) (s : State) (m : MethodId) (meth : Method) (c : Code) (c0 n0 : Nat) : Prop :=
  p.tables.exec = Jvm.exec ∧ c.code = zd_yb y ∧ c.maxLocals = zd_yl y ∧ meth.sig.returnType = zd_yr y ∧ meth.locks = false ∧ s.methodNamed? (zd_yn y) = some m ∧ s.vm.method? m = some meth ∧ (zd_s0 B).WarmedH s.vm ∧
  (c.exceptionTable.toList.map (fun x => (x.startPc, x.endPc, x.handlerPc, x.catchType)) = zd_yh y) ∧ zd_yf y ≤ R.frames ∧ zd_yw y ≤ R.locals ∧ zd_CB ≤ R.cells + c0 ∧ zd_SB ≤ R.slots + n0 ∧ s.heap.size = zd_b0 B + c0
/-- THE WALK: from pc, with these locals, this stack, this heap, the method y comes to an end that Q allows -/
def zd_W (l : Launch) (B : zd_B) (y : zd_Y) (pc : Nat) (ls : zd_V) (st : List Value) (h : zd_H) (Q : zd_O → zd_H → Prop) : Prop :=
  ∀ (p : Program) (e : Env) (R : Room) (s : State) (m : MethodId) (args : Array Value) (below : List Frame) (meth : Method) (c : Code) (c0 n0 : Nat), zd_X B y p R s m meth c c0 n0 →
    (c0 ≤ h.1 ∧ n0 ≤ h.2.1 ∧ h.1 ≤ zd_CB ∧ h.2.1 ≤ zd_SB) → ∀ (H : Heap) (locs : List Loc) (arr : Array Slot), zd_R B h H → (∀ q ∈ locs, zd_b0 B ≤ q.base) → zd_Lh arr (zd_yl y) ls →
    W p l e R s m args below meth c H locs (h.1 - c0) (h.2.1 - n0) (zd_F B s below c0 n0 Q) (F0 m pc arr st)
/-- a call's places, from the arguments on -/
def zd_ent : List Value → zd_V
  | [] => []
  | v :: r => some v :: cond (Nat.beq v.category 2) (none :: zd_ent r) (zd_ent r)
def zd_pad (n : Nat) (ls : zd_V) : zd_V := ls ++ List.replicate (n - ls.length) none
/-- a method called with these arguments -/
def zd_M (l : Launch) (B : zd_B) (y : zd_Y) (as : List Value) (h : zd_H) (Q : zd_O → zd_H → Prop) : Prop := zd_W l B y 0 (zd_pad (zd_yl y) (zd_ent as)) [] h Q
abbrev zd_K : Type := Nat → zd_V → List Value → zd_H → Prop
/-- an instruction: from what holds behind it to what must hold before it -/
abbrev zd_S : Type := zd_K → zd_V → List Value → zd_H → (zd_O → zd_H → Prop) → Prop
def zd_ok (l : Launch) (B : zd_B) (y : zd_Y) (pc : Nat) (f : zd_S) : Prop := ∀ (K : zd_K) (ls : zd_V) (st : List Value) (h : zd_H) (Q : zd_O → zd_H → Prop), (∀ pc' ls' st' h', K pc' ls' st' h' → zd_W l B y pc' ls' st' h' Q) → f K ls st h Q → zd_W l B y pc ls st h Q
def zd_lk : List (Nat × zd_S) → Nat → Option zd_S
  | [], _ => none
  | q :: r, pc => cond (Nat.beq q.1 pc) (some q.2) (zd_lk r pc)
def zd_isin : List Nat → Nat → Bool
  | [], _ => false
  | q :: r, pc => cond (Nat.beq q pc) true (zd_isin r pc)
/-- up to n instructions on, or up to a place of 'stop' -/
def zd_b (l : Launch) (B : zd_B) (y : zd_Y) (cd : List (Nat × zd_S)) (stop : List Nat) (Q : zd_O → zd_H → Prop) (n : Nat) : zd_K :=
  @Nat.rec (fun _ => zd_K) (fun pc ls st h => zd_W l B y pc ls st h Q ∧ True) (fun _ ih pc ls st h => cond (zd_isin stop pc) (zd_W l B y pc ls st h Q ∧ True) (match zd_lk cd pc with
    | some f => f ih ls st h Q
    | none => False)) n
/-- the locals written out -/
def zd_fl (ls : zd_V) (k : zd_V → Prop) : Prop := @List.rec (Option Value) (fun _ => (zd_V → Prop) → Prop) (fun k => k []) (fun x _ ih k => ih (fun s => k (x :: s))) ls k
theorem zd_fl_eq {ls : zd_V} {k : zd_V → Prop} (q : zd_fl ls k) : k ls := by
  induction ls generalizing k with
  | nil => exact q
  | cons x r ih => exact ih (k := fun s => k (x :: s)) q
/-- the same, the first instruction in any case -/
def zd_g (l : Launch) (B : zd_B) (y : zd_Y) (cd : List (Nat × zd_S)) (stop : List Nat) (n : Nat) : zd_V → List Value → zd_H → (zd_O → zd_H → Prop) → Nat → Prop := fun ls st h Q pc => zd_fl ls (fun ls =>
  match zd_lk cd pc with
    | some f => f (zd_b l B y cd stop Q n) ls st h Q
    | none => False)
theorem zd_lk_in {cd : List (Nat × zd_S)} {pc : Nat} {f : zd_S} (h : zd_lk cd pc = some f) : (pc, f) ∈ cd := by
  induction cd with
  | nil => cases h
  | cons q r ih =>
    unfold zd_lk at h
    cases hq : Nat.beq q.1 pc with
    | true =>
      rw [hq] at h
      have e1 : q.2 = f := Option.some.inj h
      have e2 : q.1 = pc := Nat.eq_of_beq_eq_true hq
      rw [← e1, ← e2]
      exact List.mem_cons_self
    | false =>
      rw [hq] at h
      exact List.mem_cons_of_mem _ (ih h)
theorem zd_b_ok {l : Launch} {B : zd_B} {y : zd_Y} {cd : List (Nat × zd_S)} (hcd : ∀ q ∈ cd, zd_ok l B y q.1 q.2) {stop : List Nat} {Q : zd_O → zd_H → Prop} (n : Nat) :
    ∀ pc ls st h, zd_b l B y cd stop Q n pc ls st h → zd_W l B y pc ls st h Q := by
  induction n with
  | zero => exact fun pc ls st h q => q.1
  | succ n ih =>
    intro pc ls st h q
    have q' : cond (zd_isin stop pc) (zd_W l B y pc ls st h Q ∧ True) (match zd_lk cd pc with
      | some f => f (zd_b l B y cd stop Q n) ls st h Q
      | none => False) := q
    cases hs : zd_isin stop pc with
    | true => rw [hs] at q'; exact q'.1
    | false =>
      rw [hs] at q'
      have q2 : (match zd_lk cd pc with
        | some f => f (zd_b l B y cd stop Q n) ls st h Q
        | none => False) := q'
      cases hf : zd_lk cd pc with
      | none => rw [hf] at q2; exact q2.elim
      | some f =>
        rw [hf] at q2
        exact hcd _ (zd_lk_in hf) _ ls st h Q ih q2
theorem zd_go {l : Launch} {B : zd_B} {y : zd_Y} {cd : List (Nat × zd_S)} (hcd : ∀ q ∈ cd, zd_ok l B y q.1 q.2) (stop : List Nat) (n : Nat) {Q : zd_O → zd_H → Prop} {pc : Nat} {ls : zd_V} {st : List Value} {h : zd_H}
    (q : zd_g l B y cd stop n ls st h Q pc) : zd_W l B y pc ls st h Q := by
  unfold zd_g at q
  have q : (match zd_lk cd pc with
    | some f => f (zd_b l B y cd stop Q n) ls st h Q
    | none => False) := zd_fl_eq q
  cases hf : zd_lk cd pc with
  | none => rw [hf] at q; exact q.elim
  | some f =>
    rw [hf] at q
    exact hcd _ (zd_lk_in hf) _ ls st h Q (zd_b_ok hcd n) q
/-- more may be known of the end -/
theorem zd_W.post {l : Launch} {B : zd_B} {y : zd_Y} {pc : Nat} {ls : zd_V} {st : List Value} {h : zd_H} {Q Q' : zd_O → zd_H → Prop} (k : zd_W l B y pc ls st h Q) (hq : ∀ x g, Q x g → Q' x g) : zd_W l B y pc ls st h Q' := by
  intro p e R s m args below meth c c0 n0 hX hc H locs arr hR hL hA T hT X
  obtain ⟨t, a, o, x, g, b1, b2, b3, b4, b5⟩ := k p e R s m args below meth c c0 n0 hX hc H locs arr hR hL hA T hT X
  exact ⟨t, a, o, x, g, b1, b2, b3, hq x g b4, b5⟩
theorem zd_M.post {l : Launch} {B : zd_B} {y : zd_Y} {as : List Value} {h : zd_H} {Q Q' : zd_O → zd_H → Prop} (k : zd_M l B y as h Q) (hq : ∀ x g, Q x g → Q' x g) : zd_M l B y as h Q' := zd_W.post k hq
/-- less may be known of the locals -/
theorem zd_W.less {l : Launch} {B : zd_B} {y : zd_Y} {pc : Nat} {ls ls' : zd_V} {st : List Value} {h : zd_H} {Q : zd_O → zd_H → Prop} (k : zd_W l B y pc ls' st h Q) (hl : ∀ (i : Nat) (v : Value), ls'[i]? = some (some v) → ls[i]? = some (some v)) : zd_W l B y pc ls st h Q := by
  intro p e R s m args below meth c c0 n0 hX hc H locs arr hR hL hA
  exact k p e R s m args below meth c c0 n0 hX hc H locs arr hR hL ⟨hA.1, hA.2.1, fun i v q => hA.2.2 i v (hl i v q)⟩
/-! the locals -/
def zd_lp (ls : zd_V) : List (Nat × Value) := (List.range ls.length).filterMap (fun i => match ls[i]? with
  | some (some v) => some (i, v)
  | _ => none)
theorem zd_lp_mem {ls : zd_V} {i : Nat} {v : Value} : (i, v) ∈ zd_lp ls ↔ ls[i]? = some (some v) := by
  unfold zd_lp
  rw [List.mem_filterMap]
  constructor
  · rintro ⟨j, -, hj⟩
    split at hj
    · rename_i w hw
      cases hj
      exact hw
    · cases hj
  · intro h
    refine ⟨i, List.mem_range.mpr (List.getElem?_eq_some_iff.mp h).1, ?_⟩
    rw [h]
theorem zd_Lh.has {arr : Array Slot} {n : Nat} {ls : zd_V} (h : zd_Lh arr n ls) : lv_has arr n (zd_lp ls) := ⟨h.1, h.2.1, fun q hq => h.2.2 q.1 q.2 (zd_lp_mem.mp hq)⟩
theorem zd_cut_get {ls : zd_V} {i j : Nat} {w : Value} (h : (zd_cut ls i)[j]? = some (some w)) : ls[j]? = some (some w) ∧ ¬ (j + 1 = i ∧ w.category = 2) := by
  unfold zd_cut at h
  split at h
  · exact ⟨h, fun q => by omega⟩
  · rename_i k
    split at h
    · rename_i v hv
      cases hc : Nat.beq v.category 2 with
      | true =>
        rw [hc] at h
        have h' : (ls.set k none)[j]? = some (some w) := h
        rw [List.getElem?_set] at h'
        split at h'
        · split at h'
          · cases h'
          · cases h'
        · rename_i hk
          exact ⟨h', fun q => hk (by omega)⟩
      | false =>
        rw [hc] at h
        have h' : ls[j]? = some (some w) := h
        refine ⟨h', fun q => ?_⟩
        have e1 : j = k := by omega
        rw [e1, hv] at h'
        cases h'
        rw [q.2] at hc
        cases hc
    · rename_i hn
      refine ⟨h, fun q => ?_⟩
      have e1 : j = k := by omega
      rw [e1] at h
      exact hn w h
theorem zd_Lh.st1 {arr' : Array Slot} {n i : Nat} {v : Value} {ls : zd_V} (hl : lv_has arr' n ((i, v) :: (zd_lp ls).filter (fun q => !(q.1 == i) && !(q.1 + 1 == i && q.2.category == 2)))) : zd_Lh arr' n (zd_st1 ls i v) := by
  refine ⟨hl.1, hl.2.1, fun j w hj => ?_⟩
  unfold zd_st1 at hj
  rw [List.getElem?_set] at hj
  split at hj
  · rename_i hij
    split at hj
    · cases hj
      rw [← hij]
      exact hl.2.2 (i, v) List.mem_cons_self
    · cases hj
  · rename_i hij
    obtain ⟨h1, h2⟩ := zd_cut_get hj
    refine hl.2.2 (j, w) (List.mem_cons_of_mem _ (List.mem_filter.mpr ⟨zd_lp_mem.mpr h1, ?_⟩))
    have e1 : (j == i) = false := by simp; omega
    have e2 : (j + 1 == i && w.category == 2) = false := by
      cases hq : (j + 1 == i && w.category == 2) with
      | false => rfl
      | true =>
        simp at hq
        exact absurd hq h2
    simp only [e1, e2]
    rfl
theorem zd_Lh.st2 {arr' : Array Slot} {n i : Nat} {v : Value} {ls : zd_V} (hl : lv_has arr' n ((i, v) :: (zd_lp ls).filter (fun q => !(q.1 == i) && (!(q.1 == i + 1) && !(q.1 + 1 == i && q.2.category == 2))))) : zd_Lh arr' n (zd_st2 ls i v) := by
  refine ⟨hl.1, hl.2.1, fun j w hj => ?_⟩
  unfold zd_st2 at hj
  rw [List.getElem?_set] at hj
  split at hj
  · split at hj
    · cases hj
    · cases hj
  · rename_i hij1
    rw [List.getElem?_set] at hj
    split at hj
    · rename_i hij
      split at hj
      · cases hj
        rw [← hij]
        exact hl.2.2 (i, v) List.mem_cons_self
      · cases hj
    · rename_i hij
      obtain ⟨h1, h2⟩ := zd_cut_get hj
      refine hl.2.2 (j, w) (List.mem_cons_of_mem _ (List.mem_filter.mpr ⟨zd_lp_mem.mpr h1, ?_⟩))
      have e1 : (j == i) = false := by simp; omega
      have e3 : (j == i + 1) = false := by simp; omega
      have e2 : (j + 1 == i && w.category == 2) = false := by
        cases hq : (j + 1 == i && w.category == 2) with
        | false => rfl
        | true =>
          simp at hq
          exact absurd hq h2
      simp only [e1, e2, e3]
      rfl
theorem zd_ent_in {as : List Value} : ∀ {i j : Nat} {v : Value}, (zd_ent as)[j]? = some (some v) → (i + j, v) ∈ lv_args i as := by
  induction as with
  | nil => intro i j v h; simp [zd_ent] at h
  | cons a r ih =>
    intro i j v h
    unfold zd_ent at h
    unfold lv_args
    cases j with
    | zero =>
      simp at h
      rw [h]
      exact List.mem_cons_self
    | succ j =>
      rw [List.getElem?_cons_succ] at h
      refine List.mem_cons_of_mem _ ?_
      cases hc : Nat.beq a.category 2 with
      | true =>
        rw [hc] at h
        have hc' : a.category = 2 := Nat.eq_of_beq_eq_true hc
        rw [if_pos hc']
        cases j with
        | zero => simp at h
        | succ j =>
          have h' : (zd_ent r)[j]? = some (some v) := by simpa using h
          have := ih (i := i + 2) h'
          rw [show i + (j + 1 + 1) = i + 2 + j by omega]
          exact this
      | false =>
        rw [hc] at h
        have hc' : ¬ a.category = 2 := fun q => by rw [q] at hc; cases hc
        rw [if_neg hc']
        have h' : (zd_ent r)[j]? = some (some v) := h
        have := ih (i := i + 1) h'
        rw [show i + (j + 1) = i + 1 + j by omega]
        exact this
theorem zd_Lh.entry (as : List Value) {n : Nat} (h : (lg_sl as).length ≤ n) : zd_Lh ((lg_sl as ++ List.replicate (n - (lg_sl as).length) Slot.unset).toArray) n (zd_pad n (zd_ent as)) := by
  have hl := lv_entry as h
  refine ⟨hl.1, hl.2.1, fun i v hi => ?_⟩
  unfold zd_pad at hi
  by_cases hlt : i < (zd_ent as).length
  · rw [List.getElem?_append_left hlt] at hi
    have := hl.2.2 _ (zd_ent_in (i := 0) hi)
    simpa using this
  · rw [List.getElem?_append_right (by omega), List.getElem?_replicate] at hi
    split at hi
    · cases hi
    · cases hi
end
section
/-! the plain instructions (written by gen_ops.py) -/
def oc_iadd (nx : Nat) : zd_S := fun K ls st h _ => match st with
  | .int y :: .int x :: r => K nx ls (.int (x + y) :: r) h
  | _ => False
theorem ok_iadd {l : Launch} {B : zd_B} {y : zd_Y} {pc : Nat} (hd : decode (zd_yb y) pc = .ok (.iadd, 1)) : zd_ok l B y pc (oc_iadd (pc + 1)) := by
  intro K ls st h Q hK q
  unfold oc_iadd at q
  split at q
  · intro p e R s m args below meth c c0 n0 hX hc H locs arr hR hL hA
    exact lv_iadd hX.1 hX.2.1 hd (hK _ _ _ _ q p e R s m args below meth c c0 n0 hX hc H locs arr hR hL hA)
  · exact q.elim
def oc_isub (nx : Nat) : zd_S := fun K ls st h _ => match st with
  | .int y :: .int x :: r => K nx ls (.int (x - y) :: r) h
  | _ => False
theorem ok_isub {l : Launch} {B : zd_B} {y : zd_Y} {pc : Nat} (hd : decode (zd_yb y) pc = .ok (.isub, 1)) : zd_ok l B y pc (oc_isub (pc + 1)) := by
  intro K ls st h Q hK q
  unfold oc_isub at q
  split at q
  · intro p e R s m args below meth c c0 n0 hX hc H locs arr hR hL hA
    exact lv_isub hX.1 hX.2.1 hd (hK _ _ _ _ q p e R s m args below meth c c0 n0 hX hc H locs arr hR hL hA)
  · exact q.elim
def oc_imul (nx : Nat) : zd_S := fun K ls st h _ => match st with
  | .int y :: .int x :: r => K nx ls (.int (x * y) :: r) h
  | _ => False
theorem ok_imul {l : Launch} {B : zd_B} {y : zd_Y} {pc : Nat} (hd : decode (zd_yb y) pc = .ok (.imul, 1)) : zd_ok l B y pc (oc_imul (pc + 1)) := by
  intro K ls st h Q hK q
  unfold oc_imul at q
  split at q
  · intro p e R s m args below meth c c0 n0 hX hc H locs arr hR hL hA
    exact lv_imul hX.1 hX.2.1 hd (hK _ _ _ _ q p e R s m args below meth c c0 n0 hX hc H locs arr hR hL hA)
  · exact q.elim
def oc_iand (nx : Nat) : zd_S := fun K ls st h _ => match st with
  | .int y :: .int x :: r => K nx ls (.int (x &&& y) :: r) h
  | _ => False
theorem ok_iand {l : Launch} {B : zd_B} {y : zd_Y} {pc : Nat} (hd : decode (zd_yb y) pc = .ok (.iand, 1)) : zd_ok l B y pc (oc_iand (pc + 1)) := by
  intro K ls st h Q hK q
  unfold oc_iand at q
  split at q
  · intro p e R s m args below meth c c0 n0 hX hc H locs arr hR hL hA
    exact lv_iand hX.1 hX.2.1 hd (hK _ _ _ _ q p e R s m args below meth c c0 n0 hX hc H locs arr hR hL hA)
  · exact q.elim
def oc_ior (nx : Nat) : zd_S := fun K ls st h _ => match st with
  | .int y :: .int x :: r => K nx ls (.int (x ||| y) :: r) h
  | _ => False
theorem ok_ior {l : Launch} {B : zd_B} {y : zd_Y} {pc : Nat} (hd : decode (zd_yb y) pc = .ok (.ior, 1)) : zd_ok l B y pc (oc_ior (pc + 1)) := by
  intro K ls st h Q hK q
  unfold oc_ior at q
  split at q
  · intro p e R s m args below meth c c0 n0 hX hc H locs arr hR hL hA
    exact lv_ior hX.1 hX.2.1 hd (hK _ _ _ _ q p e R s m args below meth c c0 n0 hX hc H locs arr hR hL hA)
  · exact q.elim
def oc_ixor (nx : Nat) : zd_S := fun K ls st h _ => match st with
  | .int y :: .int x :: r => K nx ls (.int (x ^^^ y) :: r) h
  | _ => False
theorem ok_ixor {l : Launch} {B : zd_B} {y : zd_Y} {pc : Nat} (hd : decode (zd_yb y) pc = .ok (.ixor, 1)) : zd_ok l B y pc (oc_ixor (pc + 1)) := by
  intro K ls st h Q hK q
  unfold oc_ixor at q
  split at q
  · intro p e R s m args below meth c c0 n0 hX hc H locs arr hR hL hA
    exact lv_ixor hX.1 hX.2.1 hd (hK _ _ _ _ q p e R s m args below meth c c0 n0 hX hc H locs arr hR hL hA)
  · exact q.elim
def oc_ladd (nx : Nat) : zd_S := fun K ls st h _ => match st with
  | .long y :: .long x :: r => K nx ls (.long (x + y) :: r) h
  | _ => False
theorem ok_ladd {l : Launch} {B : zd_B} {y : zd_Y} {pc : Nat} (hd : decode (zd_yb y) pc = .ok (.ladd, 1)) : zd_ok l B y pc (oc_ladd (pc + 1)) := by
  intro K ls st h Q hK q
  unfold oc_ladd at q
  split at q
  · intro p e R s m args below meth c c0 n0 hX hc H locs arr hR hL hA
    exact lv_ladd hX.1 hX.2.1 hd (hK _ _ _ _ q p e R s m args below meth c c0 n0 hX hc H locs arr hR hL hA)
  · exact q.elim
def oc_lsub (nx : Nat) : zd_S := fun K ls st h _ => match st with
  | .long y :: .long x :: r => K nx ls (.long (x - y) :: r) h
  | _ => False
theorem ok_lsub {l : Launch} {B : zd_B} {y : zd_Y} {pc : Nat} (hd : decode (zd_yb y) pc = .ok (.lsub, 1)) : zd_ok l B y pc (oc_lsub (pc + 1)) := by
  intro K ls st h Q hK q
  unfold oc_lsub at q
  split at q
  · intro p e R s m args below meth c c0 n0 hX hc H locs arr hR hL hA
    exact lv_lsub hX.1 hX.2.1 hd (hK _ _ _ _ q p e R s m args below meth c c0 n0 hX hc H locs arr hR hL hA)
  · exact q.elim
def oc_lmul (nx : Nat) : zd_S := fun K ls st h _ => match st with
  | .long y :: .long x :: r => K nx ls (.long (x * y) :: r) h
  | _ => False
theorem ok_lmul {l : Launch} {B : zd_B} {y : zd_Y} {pc : Nat} (hd : decode (zd_yb y) pc = .ok (.lmul, 1)) : zd_ok l B y pc (oc_lmul (pc + 1)) := by
  intro K ls st h Q hK q
  unfold oc_lmul at q
  split at q
  · intro p e R s m args below meth c c0 n0 hX hc H locs arr hR hL hA
    exact lv_lmul hX.1 hX.2.1 hd (hK _ _ _ _ q p e R s m args below meth c c0 n0 hX hc H locs arr hR hL hA)
  · exact q.elim
def oc_land (nx : Nat) : zd_S := fun K ls st h _ => match st with
  | .long y :: .long x :: r => K nx ls (.long (x &&& y) :: r) h
  | _ => False
theorem ok_land {l : Launch} {B : zd_B} {y : zd_Y} {pc : Nat} (hd : decode (zd_yb y) pc = .ok (.land, 1)) : zd_ok l B y pc (oc_land (pc + 1)) := by
  intro K ls st h Q hK q
  unfold oc_land at q
  split at q
  · intro p e R s m args below meth c c0 n0 hX hc H locs arr hR hL hA
    exact lv_land hX.1 hX.2.1 hd (hK _ _ _ _ q p e R s m args below meth c c0 n0 hX hc H locs arr hR hL hA)
  · exact q.elim
def oc_lor (nx : Nat) : zd_S := fun K ls st h _ => match st with
  | .long y :: .long x :: r => K nx ls (.long (x ||| y) :: r) h
  | _ => False
theorem ok_lor {l : Launch} {B : zd_B} {y : zd_Y} {pc : Nat} (hd : decode (zd_yb y) pc = .ok (.lor, 1)) : zd_ok l B y pc (oc_lor (pc + 1)) := by
  intro K ls st h Q hK q
  unfold oc_lor at q
  split at q
  · intro p e R s m args below meth c c0 n0 hX hc H locs arr hR hL hA
    exact lv_lor hX.1 hX.2.1 hd (hK _ _ _ _ q p e R s m args below meth c c0 n0 hX hc H locs arr hR hL hA)
  · exact q.elim
def oc_lxor (nx : Nat) : zd_S := fun K ls st h _ => match st with
  | .long y :: .long x :: r => K nx ls (.long (x ^^^ y) :: r) h
  | _ => False
theorem ok_lxor {l : Launch} {B : zd_B} {y : zd_Y} {pc : Nat} (hd : decode (zd_yb y) pc = .ok (.lxor, 1)) : zd_ok l B y pc (oc_lxor (pc + 1)) := by
  intro K ls st h Q hK q
  unfold oc_lxor at q
  split at q
  · intro p e R s m args below meth c c0 n0 hX hc H locs arr hR hL hA
    exact lv_lxor hX.1 hX.2.1 hd (hK _ _ _ _ q p e R s m args below meth c c0 n0 hX hc H locs arr hR hL hA)
  · exact q.elim
def oc_idiv (nx : Nat) : zd_S := fun K ls st h _ => match st with
  | .int y :: .int x :: r => ¬ y = 0 ∧ K nx ls (.int (x / y) :: r) h
  | _ => False
theorem ok_idiv {l : Launch} {B : zd_B} {y : zd_Y} {pc : Nat} (hd : decode (zd_yb y) pc = .ok (.idiv, 1)) : zd_ok l B y pc (oc_idiv (pc + 1)) := by
  intro K ls st h Q hK q
  unfold oc_idiv at q
  split at q
  · intro p e R s m args below meth c c0 n0 hX hc H locs arr hR hL hA
    exact lv_idiv hX.1 hX.2.1 hd q.1 (hK _ _ _ _ q.2 p e R s m args below meth c c0 n0 hX hc H locs arr hR hL hA)
  · exact q.elim
def oc_irem (nx : Nat) : zd_S := fun K ls st h _ => match st with
  | .int y :: .int x :: r => ¬ y = 0 ∧ K nx ls (.int (x - x / y * y) :: r) h
  | _ => False
theorem ok_irem {l : Launch} {B : zd_B} {y : zd_Y} {pc : Nat} (hd : decode (zd_yb y) pc = .ok (.irem, 1)) : zd_ok l B y pc (oc_irem (pc + 1)) := by
  intro K ls st h Q hK q
  unfold oc_irem at q
  split at q
  · intro p e R s m args below meth c c0 n0 hX hc H locs arr hR hL hA
    exact lv_irem hX.1 hX.2.1 hd q.1 (hK _ _ _ _ q.2 p e R s m args below meth c c0 n0 hX hc H locs arr hR hL hA)
  · exact q.elim
def oc_ldiv (nx : Nat) : zd_S := fun K ls st h _ => match st with
  | .long y :: .long x :: r => ¬ y = 0 ∧ K nx ls (.long (x / y) :: r) h
  | _ => False
theorem ok_ldiv {l : Launch} {B : zd_B} {y : zd_Y} {pc : Nat} (hd : decode (zd_yb y) pc = .ok (.ldiv, 1)) : zd_ok l B y pc (oc_ldiv (pc + 1)) := by
  intro K ls st h Q hK q
  unfold oc_ldiv at q
  split at q
  · intro p e R s m args below meth c c0 n0 hX hc H locs arr hR hL hA
    exact lv_ldiv hX.1 hX.2.1 hd q.1 (hK _ _ _ _ q.2 p e R s m args below meth c c0 n0 hX hc H locs arr hR hL hA)
  · exact q.elim
def oc_lrem (nx : Nat) : zd_S := fun K ls st h _ => match st with
  | .long y :: .long x :: r => ¬ y = 0 ∧ K nx ls (.long (x - x / y * y) :: r) h
  | _ => False
theorem ok_lrem {l : Launch} {B : zd_B} {y : zd_Y} {pc : Nat} (hd : decode (zd_yb y) pc = .ok (.lrem, 1)) : zd_ok l B y pc (oc_lrem (pc + 1)) := by
  intro K ls st h Q hK q
  unfold oc_lrem at q
  split at q
  · intro p e R s m args below meth c c0 n0 hX hc H locs arr hR hL hA
    exact lv_lrem hX.1 hX.2.1 hd q.1 (hK _ _ _ _ q.2 p e R s m args below meth c c0 n0 hX hc H locs arr hR hL hA)
  · exact q.elim
def oc_ineg (nx : Nat) : zd_S := fun K ls st h _ => match st with
  | .int x :: r => K nx ls (.int (-x) :: r) h
  | _ => False
theorem ok_ineg {l : Launch} {B : zd_B} {y : zd_Y} {pc : Nat} (hd : decode (zd_yb y) pc = .ok (.ineg, 1)) : zd_ok l B y pc (oc_ineg (pc + 1)) := by
  intro K ls st h Q hK q
  unfold oc_ineg at q
  split at q
  · intro p e R s m args below meth c c0 n0 hX hc H locs arr hR hL hA
    exact lv_ineg hX.1 hX.2.1 hd (hK _ _ _ _ q p e R s m args below meth c c0 n0 hX hc H locs arr hR hL hA)
  · exact q.elim
def oc_lneg (nx : Nat) : zd_S := fun K ls st h _ => match st with
  | .long x :: r => K nx ls (.long (-x) :: r) h
  | _ => False
theorem ok_lneg {l : Launch} {B : zd_B} {y : zd_Y} {pc : Nat} (hd : decode (zd_yb y) pc = .ok (.lneg, 1)) : zd_ok l B y pc (oc_lneg (pc + 1)) := by
  intro K ls st h Q hK q
  unfold oc_lneg at q
  split at q
  · intro p e R s m args below meth c c0 n0 hX hc H locs arr hR hL hA
    exact lv_lneg hX.1 hX.2.1 hd (hK _ _ _ _ q p e R s m args below meth c c0 n0 hX hc H locs arr hR hL hA)
  · exact q.elim
def oc_ishl (nx : Nat) : zd_S := fun K ls st h _ => match st with
  | .int y :: .int x :: r => K nx ls (.int (x <<< (y &&& 31)) :: r) h
  | _ => False
theorem ok_ishl {l : Launch} {B : zd_B} {y : zd_Y} {pc : Nat} (hd : decode (zd_yb y) pc = .ok (.ishl, 1)) : zd_ok l B y pc (oc_ishl (pc + 1)) := by
  intro K ls st h Q hK q
  unfold oc_ishl at q
  split at q
  · intro p e R s m args below meth c c0 n0 hX hc H locs arr hR hL hA
    exact lv_ishl hX.1 hX.2.1 hd (hK _ _ _ _ q p e R s m args below meth c c0 n0 hX hc H locs arr hR hL hA)
  · exact q.elim
def oc_ishr (nx : Nat) : zd_S := fun K ls st h _ => match st with
  | .int y :: .int x :: r => K nx ls (.int (x >>> (y &&& 31)) :: r) h
  | _ => False
theorem ok_ishr {l : Launch} {B : zd_B} {y : zd_Y} {pc : Nat} (hd : decode (zd_yb y) pc = .ok (.ishr, 1)) : zd_ok l B y pc (oc_ishr (pc + 1)) := by
  intro K ls st h Q hK q
  unfold oc_ishr at q
  split at q
  · intro p e R s m args below meth c c0 n0 hX hc H locs arr hR hL hA
    exact lv_ishr hX.1 hX.2.1 hd (hK _ _ _ _ q p e R s m args below meth c c0 n0 hX hc H locs arr hR hL hA)
  · exact q.elim
def oc_iushr (nx : Nat) : zd_S := fun K ls st h _ => match st with
  | .int y :: .int x :: r => K nx ls (.int (x.toUInt32 >>> (y.toUInt32 &&& Int32.toUInt32 31)).toInt32 :: r) h
  | _ => False
theorem ok_iushr {l : Launch} {B : zd_B} {y : zd_Y} {pc : Nat} (hd : decode (zd_yb y) pc = .ok (.iushr, 1)) : zd_ok l B y pc (oc_iushr (pc + 1)) := by
  intro K ls st h Q hK q
  unfold oc_iushr at q
  split at q
  · intro p e R s m args below meth c c0 n0 hX hc H locs arr hR hL hA
    exact lv_iushr hX.1 hX.2.1 hd rfl (hK _ _ _ _ q p e R s m args below meth c c0 n0 hX hc H locs arr hR hL hA)
  · exact q.elim
def oc_lushr (nx : Nat) : zd_S := fun K ls st h _ => match st with
  | .int y :: .long x :: r => K nx ls (.long (x.toUInt64 >>> (y.toInt64.toUInt64 &&& Int64.toUInt64 63)).toInt64 :: r) h
  | _ => False
theorem ok_lushr {l : Launch} {B : zd_B} {y : zd_Y} {pc : Nat} (hd : decode (zd_yb y) pc = .ok (.lushr, 1)) : zd_ok l B y pc (oc_lushr (pc + 1)) := by
  intro K ls st h Q hK q
  unfold oc_lushr at q
  split at q
  · intro p e R s m args below meth c c0 n0 hX hc H locs arr hR hL hA
    exact lv_lushr hX.1 hX.2.1 hd rfl (hK _ _ _ _ q p e R s m args below meth c c0 n0 hX hc H locs arr hR hL hA)
  · exact q.elim
def oc_lshl (nx : Nat) : zd_S := fun K ls st h _ => match st with
  | .int y :: .long x :: r => K nx ls (.long (x <<< (y.toInt64 &&& 63)) :: r) h
  | _ => False
theorem ok_lshl {l : Launch} {B : zd_B} {y : zd_Y} {pc : Nat} (hd : decode (zd_yb y) pc = .ok (.lshl, 1)) : zd_ok l B y pc (oc_lshl (pc + 1)) := by
  intro K ls st h Q hK q
  unfold oc_lshl at q
  split at q
  · intro p e R s m args below meth c c0 n0 hX hc H locs arr hR hL hA
    exact lv_lshl hX.1 hX.2.1 hd rfl (hK _ _ _ _ q p e R s m args below meth c c0 n0 hX hc H locs arr hR hL hA)
  · exact q.elim
def oc_lshr (nx : Nat) : zd_S := fun K ls st h _ => match st with
  | .int y :: .long x :: r => K nx ls (.long (x >>> (y.toInt64 &&& 63)) :: r) h
  | _ => False
theorem ok_lshr {l : Launch} {B : zd_B} {y : zd_Y} {pc : Nat} (hd : decode (zd_yb y) pc = .ok (.lshr, 1)) : zd_ok l B y pc (oc_lshr (pc + 1)) := by
  intro K ls st h Q hK q
  unfold oc_lshr at q
  split at q
  · intro p e R s m args below meth c c0 n0 hX hc H locs arr hR hL hA
    exact lv_lshr hX.1 hX.2.1 hd rfl (hK _ _ _ _ q p e R s m args below meth c c0 n0 hX hc H locs arr hR hL hA)
  · exact q.elim
def oc_i2l (nx : Nat) : zd_S := fun K ls st h _ => match st with
  | .int x :: r => K nx ls (.long x.toInt64 :: r) h
  | _ => False
theorem ok_i2l {l : Launch} {B : zd_B} {y : zd_Y} {pc : Nat} (hd : decode (zd_yb y) pc = .ok (.i2l, 1)) : zd_ok l B y pc (oc_i2l (pc + 1)) := by
  intro K ls st h Q hK q
  unfold oc_i2l at q
  split at q
  · intro p e R s m args below meth c c0 n0 hX hc H locs arr hR hL hA
    exact lv_i2l hX.1 hX.2.1 hd rfl (hK _ _ _ _ q p e R s m args below meth c c0 n0 hX hc H locs arr hR hL hA)
  · exact q.elim
def oc_l2i (nx : Nat) : zd_S := fun K ls st h _ => match st with
  | .long x :: r => K nx ls (.int x.toInt32 :: r) h
  | _ => False
theorem ok_l2i {l : Launch} {B : zd_B} {y : zd_Y} {pc : Nat} (hd : decode (zd_yb y) pc = .ok (.l2i, 1)) : zd_ok l B y pc (oc_l2i (pc + 1)) := by
  intro K ls st h Q hK q
  unfold oc_l2i at q
  split at q
  · intro p e R s m args below meth c c0 n0 hX hc H locs arr hR hL hA
    exact lv_l2i hX.1 hX.2.1 hd rfl (hK _ _ _ _ q p e R s m args below meth c c0 n0 hX hc H locs arr hR hL hA)
  · exact q.elim
def oc_i2c (nx : Nat) : zd_S := fun K ls st h _ => match st with
  | .int x :: r => K nx ls (.int (x.toUInt32 % 65536).toInt32 :: r) h
  | _ => False
theorem ok_i2c {l : Launch} {B : zd_B} {y : zd_Y} {pc : Nat} (hd : decode (zd_yb y) pc = .ok (.i2c, 1)) : zd_ok l B y pc (oc_i2c (pc + 1)) := by
  intro K ls st h Q hK q
  unfold oc_i2c at q
  split at q
  · intro p e R s m args below meth c c0 n0 hX hc H locs arr hR hL hA
    exact lv_i2c hX.1 hX.2.1 hd rfl (hK _ _ _ _ q p e R s m args below meth c c0 n0 hX hc H locs arr hR hL hA)
  · exact q.elim
def oc_lcmp (nx : Nat) : zd_S := fun K ls st h _ => match st with
  | .long y :: .long x :: r => K nx ls (.int (lg_cmp x y) :: r) h
  | _ => False
theorem ok_lcmp {l : Launch} {B : zd_B} {y : zd_Y} {pc : Nat} (hd : decode (zd_yb y) pc = .ok (.lcmp, 1)) : zd_ok l B y pc (oc_lcmp (pc + 1)) := by
  intro K ls st h Q hK q
  unfold oc_lcmp at q
  split at q
  · intro p e R s m args below meth c c0 n0 hX hc H locs arr hR hL hA
    exact W.lcmp hX.1 hX.2.1 hd (hK _ _ _ _ q p e R s m args below meth c c0 n0 hX hc H locs arr hR hL hA)
  · exact q.elim
def oc_dup (nx : Nat) : zd_S := fun K ls st h _ => match st with
  | .int x :: r => K nx ls (.int x :: .int x :: r) h
  | .ref x :: r => K nx ls (.ref x :: .ref x :: r) h
  | _ => False
theorem ok_dup {l : Launch} {B : zd_B} {y : zd_Y} {pc : Nat} (hd : decode (zd_yb y) pc = .ok (.dup, 1)) : zd_ok l B y pc (oc_dup (pc + 1)) := by
  intro K ls st h Q hK q
  unfold oc_dup at q
  split at q
  · intro p e R s m args below meth c c0 n0 hX hc H locs arr hR hL hA
    exact lv_dup hX.1 hX.2.1 hd rfl (hK _ _ _ _ q p e R s m args below meth c c0 n0 hX hc H locs arr hR hL hA)
  · intro p e R s m args below meth c c0 n0 hX hc H locs arr hR hL hA
    exact lv_dup hX.1 hX.2.1 hd rfl (hK _ _ _ _ q p e R s m args below meth c c0 n0 hX hc H locs arr hR hL hA)
  · exact q.elim
def oc_pop (nx : Nat) : zd_S := fun K ls st h _ => match st with
  | .int x :: r => K nx ls r h
  | .ref x :: r => K nx ls r h
  | _ => False
theorem ok_pop {l : Launch} {B : zd_B} {y : zd_Y} {pc : Nat} (hd : decode (zd_yb y) pc = .ok (.pop, 1)) : zd_ok l B y pc (oc_pop (pc + 1)) := by
  intro K ls st h Q hK q
  unfold oc_pop at q
  split at q
  · intro p e R s m args below meth c c0 n0 hX hc H locs arr hR hL hA
    exact lv_pop hX.1 hX.2.1 hd rfl (hK _ _ _ _ q p e R s m args below meth c c0 n0 hX hc H locs arr hR hL hA)
  · intro p e R s m args below meth c c0 n0 hX hc H locs arr hR hL hA
    exact lv_pop hX.1 hX.2.1 hd rfl (hK _ _ _ _ q p e R s m args below meth c c0 n0 hX hc H locs arr hR hL hA)
  · exact q.elim
def oc_dup_x1 (nx : Nat) : zd_S := fun K ls st h _ => match st with
  | .int x :: .ref z :: r => K nx ls (.int x :: .ref z :: .int x :: r) h
  | .int x :: .int z :: r => K nx ls (.int x :: .int z :: .int x :: r) h
  | _ => False
theorem ok_dup_x1 {l : Launch} {B : zd_B} {y : zd_Y} {pc : Nat} (hd : decode (zd_yb y) pc = .ok (.dup_x1, 1)) : zd_ok l B y pc (oc_dup_x1 (pc + 1)) := by
  intro K ls st h Q hK q
  unfold oc_dup_x1 at q
  split at q
  · intro p e R s m args below meth c c0 n0 hX hc H locs arr hR hL hA
    exact lv_dup_x1 hX.1 hX.2.1 hd rfl rfl (hK _ _ _ _ q p e R s m args below meth c c0 n0 hX hc H locs arr hR hL hA)
  · intro p e R s m args below meth c c0 n0 hX hc H locs arr hR hL hA
    exact lv_dup_x1 hX.1 hX.2.1 hd rfl rfl (hK _ _ _ _ q p e R s m args below meth c c0 n0 hX hc H locs arr hR hL hA)
  · exact q.elim
def oc_dup2 (nx : Nat) : zd_S := fun K ls st h _ => match st with
  | .int x :: .ref z :: r => K nx ls (.int x :: .ref z :: .int x :: .ref z :: r) h
  | .int x :: .int z :: r => K nx ls (.int x :: .int z :: .int x :: .int z :: r) h
  | .long x :: r => K nx ls (.long x :: .long x :: r) h
  | _ => False
theorem ok_dup2 {l : Launch} {B : zd_B} {y : zd_Y} {pc : Nat} (hd : decode (zd_yb y) pc = .ok (.dup2, 1)) : zd_ok l B y pc (oc_dup2 (pc + 1)) := by
  intro K ls st h Q hK q
  unfold oc_dup2 at q
  split at q
  · intro p e R s m args below meth c c0 n0 hX hc H locs arr hR hL hA
    exact lv_dup2_11 hX.1 hX.2.1 hd rfl rfl (hK _ _ _ _ q p e R s m args below meth c c0 n0 hX hc H locs arr hR hL hA)
  · intro p e R s m args below meth c c0 n0 hX hc H locs arr hR hL hA
    exact lv_dup2_11 hX.1 hX.2.1 hd rfl rfl (hK _ _ _ _ q p e R s m args below meth c c0 n0 hX hc H locs arr hR hL hA)
  · intro p e R s m args below meth c c0 n0 hX hc H locs arr hR hL hA
    exact lv_dup2_2 hX.1 hX.2.1 hd rfl (hK _ _ _ _ q p e R s m args below meth c c0 n0 hX hc H locs arr hR hL hA)
  · exact q.elim
def oc_ci (v : Int32) (nx : Nat) : zd_S := fun K ls st h _ => K nx ls (.int v :: st) h
def oc_cl (v : Int64) (nx : Nat) : zd_S := fun K ls st h _ => K nx ls (.long v :: st) h
theorem ok_iconst {l : Launch} {B : zd_B} {y : zd_Y} {pc : Nat} {n : Int} {v : Int32} (hd : decode (zd_yb y) pc = .ok (.iconst n, 1)) (hv : Int32.ofInt n = v) : zd_ok l B y pc (oc_ci v (pc + 1)) := by
  intro K ls st h Q hK q
  intro p e R s m args below meth c c0 n0 hX hc H locs arr hR hL hA
  exact lv_iconst hX.1 hX.2.1 hd hv (hK _ _ _ _ q p e R s m args below meth c c0 n0 hX hc H locs arr hR hL hA)
theorem ok_bipush {l : Launch} {B : zd_B} {y : zd_Y} {pc : Nat} {n : Int} {v : Int32} (hd : decode (zd_yb y) pc = .ok (.bipush n, 2)) (hv : (Int8.ofInt n).toInt32 = v) : zd_ok l B y pc (oc_ci v (pc + 2)) := by
  intro K ls st h Q hK q
  intro p e R s m args below meth c c0 n0 hX hc H locs arr hR hL hA
  exact lv_bipush hX.1 hX.2.1 hd hv (hK _ _ _ _ q p e R s m args below meth c c0 n0 hX hc H locs arr hR hL hA)
theorem ok_sipush {l : Launch} {B : zd_B} {y : zd_Y} {pc : Nat} {n : Int} {v : Int32} (hd : decode (zd_yb y) pc = .ok (.sipush n, 3)) (hv : (Int16.ofInt n).toInt32 = v) : zd_ok l B y pc (oc_ci v (pc + 3)) := by
  intro K ls st h Q hK q
  intro p e R s m args below meth c c0 n0 hX hc H locs arr hR hL hA
  exact lv_sipush hX.1 hX.2.1 hd hv (hK _ _ _ _ q p e R s m args below meth c c0 n0 hX hc H locs arr hR hL hA)
theorem ok_lconst {l : Launch} {B : zd_B} {y : zd_Y} {pc : Nat} {n : Fin 2} {v : Int64} (hd : decode (zd_yb y) pc = .ok (.lconst n, 1)) (hv : Int64.ofNat (n : Nat) = v) : zd_ok l B y pc (oc_cl v (pc + 1)) := by
  intro K ls st h Q hK q
  intro p e R s m args below meth c c0 n0 hX hc H locs arr hR hL hA
  exact lv_lconst hX.1 hX.2.1 hd hv (hK _ _ _ _ q p e R s m args below meth c c0 n0 hX hc H locs arr hR hL hA)
def oc_iload (i nx : Nat) : zd_S := fun K ls st h _ => match ls[i]? with
  | some (some (.int x)) => K nx ls (.int x :: st) h
  | _ => False
theorem ok_iload_n {l : Launch} {B : zd_B} {y : zd_Y} {pc i : Nat} {k : Fin 4} (hi : (k : Nat) = i) (hd : decode (zd_yb y) pc = .ok (.iload_n k, 1)) : zd_ok l B y pc (oc_iload i (pc + 1)) := by
  intro K ls st h Q hK q
  unfold oc_iload at q
  split at q
  · rename_i hv
    intro p e R s m args below meth c c0 n0 hX hc H locs arr hR hL hA
    exact lv_iload_n hX.1 hX.2.1 hd hi (hA.2.2 _ _ hv) (hK _ _ _ _ q p e R s m args below meth c c0 n0 hX hc H locs arr hR hL hA)
  · exact q.elim
theorem ok_iload {l : Launch} {B : zd_B} {y : zd_Y} {pc i : Nat} (hd : decode (zd_yb y) pc = .ok (.iload i, 2)) : zd_ok l B y pc (oc_iload i (pc + 2)) := by
  intro K ls st h Q hK q
  unfold oc_iload at q
  split at q
  · rename_i hv
    intro p e R s m args below meth c c0 n0 hX hc H locs arr hR hL hA
    exact lv_iload hX.1 hX.2.1 hd (hA.2.2 _ _ hv) (hK _ _ _ _ q p e R s m args below meth c c0 n0 hX hc H locs arr hR hL hA)
  · exact q.elim
def oc_lload (i nx : Nat) : zd_S := fun K ls st h _ => match ls[i]? with
  | some (some (.long x)) => K nx ls (.long x :: st) h
  | _ => False
theorem ok_lload_n {l : Launch} {B : zd_B} {y : zd_Y} {pc i : Nat} {k : Fin 4} (hi : (k : Nat) = i) (hd : decode (zd_yb y) pc = .ok (.lload_n k, 1)) : zd_ok l B y pc (oc_lload i (pc + 1)) := by
  intro K ls st h Q hK q
  unfold oc_lload at q
  split at q
  · rename_i hv
    intro p e R s m args below meth c c0 n0 hX hc H locs arr hR hL hA
    exact lv_lload_n hX.1 hX.2.1 hd hi (hA.2.2 _ _ hv) (hK _ _ _ _ q p e R s m args below meth c c0 n0 hX hc H locs arr hR hL hA)
  · exact q.elim
theorem ok_lload {l : Launch} {B : zd_B} {y : zd_Y} {pc i : Nat} (hd : decode (zd_yb y) pc = .ok (.lload i, 2)) : zd_ok l B y pc (oc_lload i (pc + 2)) := by
  intro K ls st h Q hK q
  unfold oc_lload at q
  split at q
  · rename_i hv
    intro p e R s m args below meth c c0 n0 hX hc H locs arr hR hL hA
    exact lv_lload hX.1 hX.2.1 hd (hA.2.2 _ _ hv) (hK _ _ _ _ q p e R s m args below meth c c0 n0 hX hc H locs arr hR hL hA)
  · exact q.elim
def oc_aload (i nx : Nat) : zd_S := fun K ls st h _ => match ls[i]? with
  | some (some (.ref x)) => K nx ls (.ref x :: st) h
  | _ => False
theorem ok_aload_n {l : Launch} {B : zd_B} {y : zd_Y} {pc i : Nat} {k : Fin 4} (hi : (k : Nat) = i) (hd : decode (zd_yb y) pc = .ok (.aload_n k, 1)) : zd_ok l B y pc (oc_aload i (pc + 1)) := by
  intro K ls st h Q hK q
  unfold oc_aload at q
  split at q
  · rename_i hv
    intro p e R s m args below meth c c0 n0 hX hc H locs arr hR hL hA
    exact lv_aload_n hX.1 hX.2.1 hd hi (hA.2.2 _ _ hv) (hK _ _ _ _ q p e R s m args below meth c c0 n0 hX hc H locs arr hR hL hA)
  · exact q.elim
theorem ok_aload {l : Launch} {B : zd_B} {y : zd_Y} {pc i : Nat} (hd : decode (zd_yb y) pc = .ok (.aload i, 2)) : zd_ok l B y pc (oc_aload i (pc + 2)) := by
  intro K ls st h Q hK q
  unfold oc_aload at q
  split at q
  · rename_i hv
    intro p e R s m args below meth c c0 n0 hX hc H locs arr hR hL hA
    exact lv_aload hX.1 hX.2.1 hd (hA.2.2 _ _ hv) (hK _ _ _ _ q p e R s m args below meth c c0 n0 hX hc H locs arr hR hL hA)
  · exact q.elim
def oc_istore (i nx : Nat) : zd_S := fun K ls st h _ => match st with
  | .int x :: r => zd_fl (zd_st1 ls i (.int x)) (fun w => K nx w r h)
  | _ => False
theorem ok_istore_n {l : Launch} {B : zd_B} {y : zd_Y} {pc i : Nat} {k : Fin 4} (hi : (k : Nat) = i) (hd : decode (zd_yb y) pc = .ok (.istore_n k, 1)) (hn : i < zd_yl y) : zd_ok l B y pc (oc_istore i (pc + 1)) := by
  intro K ls st h Q hK q
  unfold oc_istore at q
  split at q
  · intro p e R s m args below meth c c0 n0 hX hc H locs arr hR hL hA
    exact lv_istore_n (lv := zd_lp ls) hX.1 hX.2.1 hd hi hA.has hn rfl (fun arr' hl' => hK _ _ _ _ (zd_fl_eq q) p e R s m args below meth c c0 n0 hX hc H locs arr' hR hL (zd_Lh.st1 hl'))
  · exact q.elim
theorem ok_istore {l : Launch} {B : zd_B} {y : zd_Y} {pc i : Nat} (hd : decode (zd_yb y) pc = .ok (.istore i, 2)) (hn : i < zd_yl y) : zd_ok l B y pc (oc_istore i (pc + 2)) := by
  intro K ls st h Q hK q
  unfold oc_istore at q
  split at q
  · intro p e R s m args below meth c c0 n0 hX hc H locs arr hR hL hA
    exact lv_istore (lv := zd_lp ls) hX.1 hX.2.1 hd hA.has hn rfl (fun arr' hl' => hK _ _ _ _ (zd_fl_eq q) p e R s m args below meth c c0 n0 hX hc H locs arr' hR hL (zd_Lh.st1 hl'))
  · exact q.elim
def oc_lstore (i nx : Nat) : zd_S := fun K ls st h _ => match st with
  | .long x :: r => zd_fl (zd_st2 ls i (.long x)) (fun w => K nx w r h)
  | _ => False
theorem ok_lstore_n {l : Launch} {B : zd_B} {y : zd_Y} {pc i : Nat} {k : Fin 4} (hi : (k : Nat) = i) (hd : decode (zd_yb y) pc = .ok (.lstore_n k, 1)) (hn : i + 1 < zd_yl y) : zd_ok l B y pc (oc_lstore i (pc + 1)) := by
  intro K ls st h Q hK q
  unfold oc_lstore at q
  split at q
  · intro p e R s m args below meth c c0 n0 hX hc H locs arr hR hL hA
    exact lv_lstore_n (lv := zd_lp ls) hX.1 hX.2.1 hd hi hA.has hn rfl (fun arr' hl' => hK _ _ _ _ (zd_fl_eq q) p e R s m args below meth c c0 n0 hX hc H locs arr' hR hL (zd_Lh.st2 hl'))
  · exact q.elim
theorem ok_lstore {l : Launch} {B : zd_B} {y : zd_Y} {pc i : Nat} (hd : decode (zd_yb y) pc = .ok (.lstore i, 2)) (hn : i + 1 < zd_yl y) : zd_ok l B y pc (oc_lstore i (pc + 2)) := by
  intro K ls st h Q hK q
  unfold oc_lstore at q
  split at q
  · intro p e R s m args below meth c c0 n0 hX hc H locs arr hR hL hA
    exact lv_lstore (lv := zd_lp ls) hX.1 hX.2.1 hd hA.has hn rfl (fun arr' hl' => hK _ _ _ _ (zd_fl_eq q) p e R s m args below meth c c0 n0 hX hc H locs arr' hR hL (zd_Lh.st2 hl'))
  · exact q.elim
def oc_astore (i nx : Nat) : zd_S := fun K ls st h _ => match st with
  | .ref x :: r => zd_fl (zd_st1 ls i (.ref x)) (fun w => K nx w r h)
  | _ => False
theorem ok_astore_n {l : Launch} {B : zd_B} {y : zd_Y} {pc i : Nat} {k : Fin 4} (hi : (k : Nat) = i) (hd : decode (zd_yb y) pc = .ok (.astore_n k, 1)) (hn : i < zd_yl y) : zd_ok l B y pc (oc_astore i (pc + 1)) := by
  intro K ls st h Q hK q
  unfold oc_astore at q
  split at q
  · intro p e R s m args below meth c c0 n0 hX hc H locs arr hR hL hA
    exact lv_astore_n (lv := zd_lp ls) hX.1 hX.2.1 hd hi hA.has hn rfl (fun arr' hl' => hK _ _ _ _ (zd_fl_eq q) p e R s m args below meth c c0 n0 hX hc H locs arr' hR hL (zd_Lh.st1 hl'))
  · exact q.elim
theorem ok_astore {l : Launch} {B : zd_B} {y : zd_Y} {pc i : Nat} (hd : decode (zd_yb y) pc = .ok (.astore i, 2)) (hn : i < zd_yl y) : zd_ok l B y pc (oc_astore i (pc + 2)) := by
  intro K ls st h Q hK q
  unfold oc_astore at q
  split at q
  · intro p e R s m args below meth c c0 n0 hX hc H locs arr hR hL hA
    exact lv_astore (lv := zd_lp ls) hX.1 hX.2.1 hd hA.has hn rfl (fun arr' hl' => hK _ _ _ _ (zd_fl_eq q) p e R s m args below meth c c0 n0 hX hc H locs arr' hR hL (zd_Lh.st1 hl'))
  · exact q.elim
def oc_iinc (i : Nat) (d : Int32) (nx : Nat) : zd_S := fun K ls st h _ => match ls[i]? with
  | some (some (.int x)) => zd_fl (zd_st1 ls i (.int (x + d))) (fun w => K nx w st h)
  | _ => False
theorem ok_iinc {l : Launch} {B : zd_B} {y : zd_Y} {pc i : Nat} {n : Int} {d : Int32} (hd : decode (zd_yb y) pc = .ok (.iinc i n, 3)) (hn : i < zd_yl y) (hv : Int32.ofInt n = d) : zd_ok l B y pc (oc_iinc i d (pc + 3)) := by
  intro K ls st h Q hK q
  unfold oc_iinc at q
  split at q
  · rename_i x hx
    intro p e R s m args below meth c c0 n0 hX hc H locs arr hR hL hA
    obtain ⟨k, hk⟩ := List.getElem?_of_mem (zd_lp_mem.mpr hx)
    exact lv_iinc (lv := zd_lp ls) hX.1 hX.2.1 hd hA.has hk (by rw [hv]) hn rfl (fun arr' hl' => hK _ _ _ _ (zd_fl_eq q) p e R s m args below meth c c0 n0 hX hc H locs arr' hR hL (zd_Lh.st1 hl'))
  · exact q.elim
def oc_if_eq (tgt nx : Nat) : zd_S := fun K ls st h _ => match st with
  | .int x :: r => (x = 0 → K tgt ls r h) ∧ (¬ x = 0 → K nx ls r h)
  | _ => False
theorem ok_if_eq {l : Launch} {B : zd_B} {y : zd_Y} {pc tgt : Nat} {off : Int} (hd : decode (zd_yb y) pc = .ok (.ifCond .eq off, 3)) (ht : (pc : Int) + off = (tgt : Int)) : zd_ok l B y pc (oc_if_eq tgt (pc + 3)) := by
  intro K ls st h Q hK q
  unfold oc_if_eq at q
  split at q
  · intro p e R s m args below meth c c0 n0 hX hc H locs arr hR hL hA
    exact lv_if_eq hX.1 hX.2.1 hd ht (fun z => hK _ _ _ _ (q.1 z) p e R s m args below meth c c0 n0 hX hc H locs arr hR hL hA) (fun z => hK _ _ _ _ (q.2 z) p e R s m args below meth c c0 n0 hX hc H locs arr hR hL hA)
  · exact q.elim
def oc_icmp_eq (tgt nx : Nat) : zd_S := fun K ls st h _ => match st with
  | .int y :: .int x :: r => (x = y → K tgt ls r h) ∧ (¬ x = y → K nx ls r h)
  | _ => False
theorem ok_icmp_eq {l : Launch} {B : zd_B} {y : zd_Y} {pc tgt : Nat} {off : Int} (hd : decode (zd_yb y) pc = .ok (.if_icmp .eq off, 3)) (ht : (pc : Int) + off = (tgt : Int)) : zd_ok l B y pc (oc_icmp_eq tgt (pc + 3)) := by
  intro K ls st h Q hK q
  unfold oc_icmp_eq at q
  split at q
  · intro p e R s m args below meth c c0 n0 hX hc H locs arr hR hL hA
    exact lv_icmp_eq hX.1 hX.2.1 hd ht (fun z => hK _ _ _ _ (q.1 z) p e R s m args below meth c c0 n0 hX hc H locs arr hR hL hA) (fun z => hK _ _ _ _ (q.2 z) p e R s m args below meth c c0 n0 hX hc H locs arr hR hL hA)
  · exact q.elim
def oc_if_ne (tgt nx : Nat) : zd_S := fun K ls st h _ => match st with
  | .int x :: r => (¬ x = 0 → K tgt ls r h) ∧ (x = 0 → K nx ls r h)
  | _ => False
theorem ok_if_ne {l : Launch} {B : zd_B} {y : zd_Y} {pc tgt : Nat} {off : Int} (hd : decode (zd_yb y) pc = .ok (.ifCond .ne off, 3)) (ht : (pc : Int) + off = (tgt : Int)) : zd_ok l B y pc (oc_if_ne tgt (pc + 3)) := by
  intro K ls st h Q hK q
  unfold oc_if_ne at q
  split at q
  · intro p e R s m args below meth c c0 n0 hX hc H locs arr hR hL hA
    exact lv_if_ne hX.1 hX.2.1 hd ht (fun z => hK _ _ _ _ (q.1 z) p e R s m args below meth c c0 n0 hX hc H locs arr hR hL hA) (fun z => hK _ _ _ _ (q.2 z) p e R s m args below meth c c0 n0 hX hc H locs arr hR hL hA)
  · exact q.elim
def oc_icmp_ne (tgt nx : Nat) : zd_S := fun K ls st h _ => match st with
  | .int y :: .int x :: r => (¬ x = y → K tgt ls r h) ∧ (x = y → K nx ls r h)
  | _ => False
theorem ok_icmp_ne {l : Launch} {B : zd_B} {y : zd_Y} {pc tgt : Nat} {off : Int} (hd : decode (zd_yb y) pc = .ok (.if_icmp .ne off, 3)) (ht : (pc : Int) + off = (tgt : Int)) : zd_ok l B y pc (oc_icmp_ne tgt (pc + 3)) := by
  intro K ls st h Q hK q
  unfold oc_icmp_ne at q
  split at q
  · intro p e R s m args below meth c c0 n0 hX hc H locs arr hR hL hA
    exact lv_icmp_ne hX.1 hX.2.1 hd ht (fun z => hK _ _ _ _ (q.1 z) p e R s m args below meth c c0 n0 hX hc H locs arr hR hL hA) (fun z => hK _ _ _ _ (q.2 z) p e R s m args below meth c c0 n0 hX hc H locs arr hR hL hA)
  · exact q.elim
def oc_if_lt (tgt nx : Nat) : zd_S := fun K ls st h _ => match st with
  | .int x :: r => (x < 0 → K tgt ls r h) ∧ (¬ x < 0 → K nx ls r h)
  | _ => False
theorem ok_if_lt {l : Launch} {B : zd_B} {y : zd_Y} {pc tgt : Nat} {off : Int} (hd : decode (zd_yb y) pc = .ok (.ifCond .lt off, 3)) (ht : (pc : Int) + off = (tgt : Int)) : zd_ok l B y pc (oc_if_lt tgt (pc + 3)) := by
  intro K ls st h Q hK q
  unfold oc_if_lt at q
  split at q
  · intro p e R s m args below meth c c0 n0 hX hc H locs arr hR hL hA
    exact lv_if_lt hX.1 hX.2.1 hd ht (fun z => hK _ _ _ _ (q.1 z) p e R s m args below meth c c0 n0 hX hc H locs arr hR hL hA) (fun z => hK _ _ _ _ (q.2 z) p e R s m args below meth c c0 n0 hX hc H locs arr hR hL hA)
  · exact q.elim
def oc_icmp_lt (tgt nx : Nat) : zd_S := fun K ls st h _ => match st with
  | .int y :: .int x :: r => (x < y → K tgt ls r h) ∧ (¬ x < y → K nx ls r h)
  | _ => False
theorem ok_icmp_lt {l : Launch} {B : zd_B} {y : zd_Y} {pc tgt : Nat} {off : Int} (hd : decode (zd_yb y) pc = .ok (.if_icmp .lt off, 3)) (ht : (pc : Int) + off = (tgt : Int)) : zd_ok l B y pc (oc_icmp_lt tgt (pc + 3)) := by
  intro K ls st h Q hK q
  unfold oc_icmp_lt at q
  split at q
  · intro p e R s m args below meth c c0 n0 hX hc H locs arr hR hL hA
    exact lv_icmp_lt hX.1 hX.2.1 hd ht (fun z => hK _ _ _ _ (q.1 z) p e R s m args below meth c c0 n0 hX hc H locs arr hR hL hA) (fun z => hK _ _ _ _ (q.2 z) p e R s m args below meth c c0 n0 hX hc H locs arr hR hL hA)
  · exact q.elim
def oc_if_ge (tgt nx : Nat) : zd_S := fun K ls st h _ => match st with
  | .int x :: r => (0 ≤ x → K tgt ls r h) ∧ (¬ 0 ≤ x → K nx ls r h)
  | _ => False
theorem ok_if_ge {l : Launch} {B : zd_B} {y : zd_Y} {pc tgt : Nat} {off : Int} (hd : decode (zd_yb y) pc = .ok (.ifCond .ge off, 3)) (ht : (pc : Int) + off = (tgt : Int)) : zd_ok l B y pc (oc_if_ge tgt (pc + 3)) := by
  intro K ls st h Q hK q
  unfold oc_if_ge at q
  split at q
  · intro p e R s m args below meth c c0 n0 hX hc H locs arr hR hL hA
    exact lv_if_ge hX.1 hX.2.1 hd ht (fun z => hK _ _ _ _ (q.1 z) p e R s m args below meth c c0 n0 hX hc H locs arr hR hL hA) (fun z => hK _ _ _ _ (q.2 z) p e R s m args below meth c c0 n0 hX hc H locs arr hR hL hA)
  · exact q.elim
def oc_icmp_ge (tgt nx : Nat) : zd_S := fun K ls st h _ => match st with
  | .int y :: .int x :: r => (y ≤ x → K tgt ls r h) ∧ (¬ y ≤ x → K nx ls r h)
  | _ => False
theorem ok_icmp_ge {l : Launch} {B : zd_B} {y : zd_Y} {pc tgt : Nat} {off : Int} (hd : decode (zd_yb y) pc = .ok (.if_icmp .ge off, 3)) (ht : (pc : Int) + off = (tgt : Int)) : zd_ok l B y pc (oc_icmp_ge tgt (pc + 3)) := by
  intro K ls st h Q hK q
  unfold oc_icmp_ge at q
  split at q
  · intro p e R s m args below meth c c0 n0 hX hc H locs arr hR hL hA
    exact lv_icmp_ge hX.1 hX.2.1 hd ht (fun z => hK _ _ _ _ (q.1 z) p e R s m args below meth c c0 n0 hX hc H locs arr hR hL hA) (fun z => hK _ _ _ _ (q.2 z) p e R s m args below meth c c0 n0 hX hc H locs arr hR hL hA)
  · exact q.elim
def oc_if_gt (tgt nx : Nat) : zd_S := fun K ls st h _ => match st with
  | .int x :: r => (0 < x → K tgt ls r h) ∧ (¬ 0 < x → K nx ls r h)
  | _ => False
theorem ok_if_gt {l : Launch} {B : zd_B} {y : zd_Y} {pc tgt : Nat} {off : Int} (hd : decode (zd_yb y) pc = .ok (.ifCond .gt off, 3)) (ht : (pc : Int) + off = (tgt : Int)) : zd_ok l B y pc (oc_if_gt tgt (pc + 3)) := by
  intro K ls st h Q hK q
  unfold oc_if_gt at q
  split at q
  · intro p e R s m args below meth c c0 n0 hX hc H locs arr hR hL hA
    exact lv_if_gt hX.1 hX.2.1 hd ht (fun z => hK _ _ _ _ (q.1 z) p e R s m args below meth c c0 n0 hX hc H locs arr hR hL hA) (fun z => hK _ _ _ _ (q.2 z) p e R s m args below meth c c0 n0 hX hc H locs arr hR hL hA)
  · exact q.elim
def oc_icmp_gt (tgt nx : Nat) : zd_S := fun K ls st h _ => match st with
  | .int y :: .int x :: r => (y < x → K tgt ls r h) ∧ (¬ y < x → K nx ls r h)
  | _ => False
theorem ok_icmp_gt {l : Launch} {B : zd_B} {y : zd_Y} {pc tgt : Nat} {off : Int} (hd : decode (zd_yb y) pc = .ok (.if_icmp .gt off, 3)) (ht : (pc : Int) + off = (tgt : Int)) : zd_ok l B y pc (oc_icmp_gt tgt (pc + 3)) := by
  intro K ls st h Q hK q
  unfold oc_icmp_gt at q
  split at q
  · intro p e R s m args below meth c c0 n0 hX hc H locs arr hR hL hA
    exact lv_icmp_gt hX.1 hX.2.1 hd ht (fun z => hK _ _ _ _ (q.1 z) p e R s m args below meth c c0 n0 hX hc H locs arr hR hL hA) (fun z => hK _ _ _ _ (q.2 z) p e R s m args below meth c c0 n0 hX hc H locs arr hR hL hA)
  · exact q.elim
def oc_if_le (tgt nx : Nat) : zd_S := fun K ls st h _ => match st with
  | .int x :: r => (x ≤ 0 → K tgt ls r h) ∧ (¬ x ≤ 0 → K nx ls r h)
  | _ => False
theorem ok_if_le {l : Launch} {B : zd_B} {y : zd_Y} {pc tgt : Nat} {off : Int} (hd : decode (zd_yb y) pc = .ok (.ifCond .le off, 3)) (ht : (pc : Int) + off = (tgt : Int)) : zd_ok l B y pc (oc_if_le tgt (pc + 3)) := by
  intro K ls st h Q hK q
  unfold oc_if_le at q
  split at q
  · intro p e R s m args below meth c c0 n0 hX hc H locs arr hR hL hA
    exact lv_if_le hX.1 hX.2.1 hd ht (fun z => hK _ _ _ _ (q.1 z) p e R s m args below meth c c0 n0 hX hc H locs arr hR hL hA) (fun z => hK _ _ _ _ (q.2 z) p e R s m args below meth c c0 n0 hX hc H locs arr hR hL hA)
  · exact q.elim
def oc_icmp_le (tgt nx : Nat) : zd_S := fun K ls st h _ => match st with
  | .int y :: .int x :: r => (x ≤ y → K tgt ls r h) ∧ (¬ x ≤ y → K nx ls r h)
  | _ => False
theorem ok_icmp_le {l : Launch} {B : zd_B} {y : zd_Y} {pc tgt : Nat} {off : Int} (hd : decode (zd_yb y) pc = .ok (.if_icmp .le off, 3)) (ht : (pc : Int) + off = (tgt : Int)) : zd_ok l B y pc (oc_icmp_le tgt (pc + 3)) := by
  intro K ls st h Q hK q
  unfold oc_icmp_le at q
  split at q
  · intro p e R s m args below meth c c0 n0 hX hc H locs arr hR hL hA
    exact lv_icmp_le hX.1 hX.2.1 hd ht (fun z => hK _ _ _ _ (q.1 z) p e R s m args below meth c c0 n0 hX hc H locs arr hR hL hA) (fun z => hK _ _ _ _ (q.2 z) p e R s m args below meth c c0 n0 hX hc H locs arr hR hL hA)
  · exact q.elim
def oc_goto (tgt : Nat) : zd_S := fun K ls st h _ => K tgt ls st h
theorem ok_goto {l : Launch} {B : zd_B} {y : zd_Y} {pc tgt : Nat} {off : Int} (hd : decode (zd_yb y) pc = .ok (.goto off, 3)) (ht : (pc : Int) + off = (tgt : Int)) : zd_ok l B y pc (oc_goto tgt) := by
  intro K ls st h Q hK q
  intro p e R s m args below meth c c0 n0 hX hc H locs arr hR hL hA
  exact lv_goto hX.1 hX.2.1 hd ht (hK _ _ _ _ q p e R s m args below meth c c0 n0 hX hc H locs arr hR hL hA)
end
section
/-! the heap's instructions -/
def zd_tens : Nat → Int32 := fun i => nI (10 ^ i)
/-- the words on the heap that a throw needs -/
def zd_hw : List Cond := [.isRef (.static "java/lang/Throwable" "UNASSIGNED_STACK" "[Ljava/lang/StackTraceElement;"), .isRef (.static "java/lang/Throwable" "SUPPRESSED_SENTINEL" "Ljava/util/List;"), .laysStatic "java/lang/Throwable" "UNASSIGNED_STACK" "[Ljava/lang/StackTraceElement;", .laysStatic "java/lang/Throwable" "SUPPRESSED_SENTINEL" "Ljava/util/List;"]
/-- what is given at the start -/
def zd_G (B : zd_B) : Prop := (∀ w ∈ lw_tbl, w.before (zd_ar B) (zd_s0 B) = true) ∧ (∀ (ci : Nat) (q : vw_C), zd_cl[ci]? = some q → u_Kn (zd_s0 B) q.1 q.2.1 q.2.2 (zd_dC B ci) (zd_dI B ci)) ∧
  (∀ (k : Nat) (ty : FieldType), zd_ty[k]? = some ty → ArrOfT (zd_s0 B) (zd_aK B k) ty ∧ va_RA (zd_s0 B) (zd_aK B k) ty) ∧
  va_Z "DecimalDesk" "TENS" "[I" (.ref (zd_tT B)) (fun q => zd_b0 B ≤ q) (zd_s0 B) (zd_s0 B).heap ∧ zd_Ol B (zd_tT B) 10 zd_tens ∧
  (∀ (own : String) (k : Nat) (tx : String), Cond.stringRef own k tx ∈ lw_tbl → ∃ a, vk_R own k tx a (zd_s0 B)) ∧
  (∀ w ∈ zd_hw, w.before (zd_ar B) (zd_s0 B) = true)
theorem zd_at.kept {B : zd_B} {H H1 : Heap} {a : Nat} {c : zd_C} (h : zd_at B H a c) (e : H1[a]? = H[a]?) : zd_at B H1 a c := by
  unfold zd_at at h ⊢
  split at h
  · obtain ⟨r, h1, h2⟩ := h
    exact ⟨r, h1, h2.kept e⟩
  · rw [e]; exact h
  · rw [e]; exact h
  · rw [e]; exact h
theorem zd_R.set {B : zd_B} {h : zd_H} {H H1 : Heap} {a : Nat} {c : zd_C} (hR : zd_R B h H) (ha : zd_lv B h a) (hc : zd_at B H1 a c) (hz : H1.size = H.size) (ho : ∀ q, q ≠ a → H1[q]? = H[q]?) : zd_R B (zd_set h a c) H1 := by
  refine ⟨hz.trans hR.1, fun q hq => ?_, fun q hq => ?_⟩
  · show zd_at B H1 q (if q = a then c else h.2.2 q)
    by_cases e : q = a
    · rw [if_pos e, e]; exact hc
    · rw [if_neg e]; exact (hR.2.1 q hq).kept (ho q e)
  · rw [ho q (fun e => by have := ha.1; omega)]
    exact hR.2.2 q hq
theorem zd_R.push {B : zd_B} {h : zd_H} {H H1 : Heap} {a n : Nat} {c : zd_C} (hR : zd_R B h H) (ha : H.size = a) (hc : zd_at B H1 a c) (hz : H1.size = a + 1) (ho : ∀ q, q < a → H1[q]? = H[q]?) : zd_R B (zd_push h a c n) H1 := by
  have e0 : a = zd_b0 B + h.1 := ha.symm.trans hR.1
  refine ⟨by show H1.size = zd_b0 B + (h.1 + 1); omega, fun q hq => ?_, fun q hq => ?_⟩
  · have h1 : zd_b0 B ≤ q := hq.1
    have h2 : q < zd_b0 B + (h.1 + 1) := hq.2
    show zd_at B H1 q (if q = a then c else h.2.2 q)
    by_cases e : q = a
    · rw [if_pos e, e]; exact hc
    · rw [if_neg e]; exact (hR.2.1 q ⟨h1, by omega⟩).kept (ho q (by omega))
  · rw [ho q (by omega)]
    exact hR.2.2 q hq
section ZH
variable {l : Launch} {B : zd_B} {y : zd_Y} {pc : Nat} {p : Program} {R : Room} {s : State} {m : MethodId} {meth : Method} {c : Code} {c0 n0 : Nat}
theorem zd_wd (hG : zd_G B) (hX : zd_X B y p R s m meth c c0 n0) {w : Cond} (hw : w ∈ lw_tbl) (hg : (w.onTables && w.keeps) = true ∨ ∃ ty, w = .arrayClass ty) (args : Array Value) : w.before args s = true := word_at hX.2.2.2.2.2.2.2.1 hg (hG.1 w hw)
theorem zd_own (hX : zd_X B y p R s m meth c c0 n0) : s.vm.findClass (zd_yn y).cls = some m.cls := findClass_of_methodNamed hX.2.2.2.2.2.1
theorem zd_kn (hG : zd_G B) (hX : zd_X B y p R s m meth c c0 n0) : va_K (zd_dC B, zd_dI B) zd_cl [] s := ⟨fun ci q hq => u_Kn_moved hX.2.2.2.2.2.2.2.1.alike (hG.2.1 ci q hq), fun k q h => by simp at h⟩
theorem zd_R.ob {h : zd_H} {H : Heap} {a ci : Nat} {fs : List Value} (hR : zd_R B h H) (ho : zd_Ob B h a ci fs) : va_P (zd_dC B, zd_dI B) zd_cl [(a, .inr (ci, fs))] H := by
  intro k q hq
  cases k with
  | zero =>
    cases hq
    have := hR.2.1 a ho.1
    rw [ho.2] at this
    exact this
  | succ k => simp at hq
def zd_lay (C : String) (T : u_T) (N : Nat) : Prop := ∀ w ∈ u_ws C T N, w ∈ lw_tbl ∧ (w.onTables && w.keeps) = true
def oc_getf (B : zd_B) (ci k nx : Nat) : zd_S := fun K ls st h _ => match st with
  | .ref a :: r => ∃ fs, zd_Ob B h a ci fs ∧ (match fs[k]? with
    | some v => K nx ls (v :: r) h
    | none => False)
  | _ => False
theorem ok_getf (hG : zd_G B) {C : String} {T : u_T} {N ci k idx : Nat} (hcl : zd_cl[ci]? = some (C, T, N)) (hlay : zd_lay C T N) (hk : k < N) (hl : Cond.fieldLink (zd_yn y).cls idx (T k).1 (T k).2.1 (T k).2.2.1 ∈ lw_tbl) (hd : decode (zd_yb y) pc = .ok (.getfield idx, 3)) : zd_ok l B y pc (oc_getf B ci k (pc + 3)) := by
  intro K ls st h Q hK q
  unfold oc_getf at q
  split at q
  · rename_i a r
    obtain ⟨fs, ho, q⟩ := q
    split at q
    · rename_i v hv
      intro p e R s m args below meth c c0 n0 hX hc H locs arr hR hL hA
      exact va_get (D := (zd_dC B, zd_dI B)) (cl := zd_cl) (ws := [(a, .inr (ci, fs))]) (tys := []) (own := (zd_yn y).cls) (ref := (T k).1) (Ts := u_ws C T N) hX.1 hX.2.1 (fun w hw => zd_wd hG hX (hlay w hw).1 (Or.inl (hlay w hw).2) args) (fun w hw => hw) (zd_own hX) (zd_kn hG hX) (hR.ob ho) 0 rfl hcl k hk
        (zd_wd hG hX hl (Or.inl (by first | rfl | simp [Cond.onTables, Cond.keeps, Cond.steady])) args) (fun x hx => hx) hv hd (hK _ _ _ _ q p e R s m args below meth c c0 n0 hX hc H locs arr hR hL hA)
    · exact q.elim
  · exact q.elim
def zd_nest (own : String) (idx : Nat) (r n d : String) : Prop := ∃ host, Cond.fieldLinkNest own idx r n d host ∈ lw_tbl
theorem ok_getfN (hG : zd_G B) {C : String} {T : u_T} {N ci k idx : Nat} (hcl : zd_cl[ci]? = some (C, T, N)) (hlay : zd_lay C T N) (hk : k < N) {host : String} (hl : Cond.fieldLinkNest (zd_yn y).cls idx (T k).1 (T k).2.1 (T k).2.2.1 host ∈ lw_tbl) (hd : decode (zd_yb y) pc = .ok (.getfield idx, 3)) : zd_ok l B y pc (oc_getf B ci k (pc + 3)) := by
  intro K ls st h Q hK q
  unfold oc_getf at q
  split at q
  · rename_i a r
    obtain ⟨fs, ho, q⟩ := q
    split at q
    · rename_i v hv
      intro p e R s m args below meth c c0 n0 hX hc H locs arr hR hL hA
      exact va_getN (D := (zd_dC B, zd_dI B)) (cl := zd_cl) (ws := [(a, .inr (ci, fs))]) (tys := []) (own := (zd_yn y).cls) (ref := (T k).1) (host := host) (Ts := u_ws C T N) hX.1 hX.2.1 (fun w hw => zd_wd hG hX (hlay w hw).1 (Or.inl (hlay w hw).2) args) (fun w hw => hw) (zd_own hX) (zd_kn hG hX) (hR.ob ho) 0 rfl hcl k hk
        (va_Nw.use rfl (va_Nw.warmF hX.2.2.2.2.2.2.2.1 (va_Nw.of rfl (hG.1 _ hl)))) (fun x hx => hx) hv hd (hK _ _ _ _ q p e R s m args below meth c c0 n0 hX hc H locs arr hR hL hA)
    · exact q.elim
  · exact q.elim
/-- what a class's table must be for a store -/
def zd_tab (T : u_T) (ty : Nat → FieldType) (N : Nat) : Prop := (∀ k, k < N → parseFieldDescriptor (T k).2.2.1 = some (ty k)) ∧ ∀ a, a < N → ∀ b, b < N → a ≠ b → (T a).2.1 ≠ (T b).2.1
def oc_putf (B : zd_B) (ty : FieldType) (ci k nx : Nat) : zd_S := fun K ls st h _ => match st with
  | v :: .ref a :: r => ∃ fs, zd_Ob B h a ci fs ∧ k < fs.length ∧ (narrow ty v = v ∧ fits ty v = true) ∧ K nx ls r (zd_set h a (.inl (ci, fs.set k v)))
  | _ => False
theorem ok_putf (hG : zd_G B) {C : String} {T : u_T} {ty : Nat → FieldType} {N ci k idx : Nat} (hcl : zd_cl[ci]? = some (C, T, N)) (hlay : zd_lay C T N) (htab : zd_tab T ty N) (hk : k < N) (hl : Cond.fieldLink (zd_yn y).cls idx (T k).1 (T k).2.1 (T k).2.2.1 ∈ lw_tbl) (hfin : (T k).2.2.2 = false) (hd : decode (zd_yb y) pc = .ok (.putfield idx, 3)) : zd_ok l B y pc (oc_putf B (ty k) ci k (pc + 3)) := by
  intro K ls st h Q hK q
  unfold oc_putf at q
  split at q
  · rename_i v a r
    obtain ⟨fs, ho, hlen, ⟨hn, hfit⟩, q⟩ := q
    intro p e R s m args below meth c c0 n0 hX hc H locs arr hR hL hA
    have hts : ∀ w ∈ u_ws C T N, w.before args s = true := fun w hw => zd_wd hG hX (hlay w hw).1 (Or.inl (hlay w hw).2) args
    have hKn := zd_kn hG hX
    have hap := va_apart (own := (zd_yn y).cls) (args := args) hts (fun w hw => hw) ty htab.1 htab.2 hKn hcl
    obtain ⟨rr, h1, cell, q1, q2, q3, q4⟩ := hR.ob ho 0 _ rfl
    have hr : rr = (C, T, N) := Option.some.inj (h1.symm.trans hcl)
    subst hr
    obtain ⟨hS, hfc, kC, hkC, hkind⟩ := hKn.1 ci _ hcl
    obtain ⟨cf, kf, fi, f, hi, hsl⟩ := hS k hk
    have hlay' := hts _ (u_in_lay hk)
    unfold u_lay at hlay'
    rw [if_neg (by rw [hfin]; decide)] at hlay'
    have hst := (u_facts hfc hkC (u_lays hts (fun w hw => hw) hk) hi).1
    have h6 := u_store hfc hkC hkind hlay' hi (htab.1 k hk) hn hfit
    refine W.putK hX.1 hX.2.1 (f := f) ⟨zd_own hX, zd_wd hG hX hl (Or.inl (by first | rfl | simp [Cond.onTables, Cond.keeps, Cond.steady])) args, ⟨_, _, _, hi⟩, hst⟩ (by rw [q2]; exact h6) q1 q3 (by rw [hsl]; exact k2_hasslot (q4 k hk)) rfl rfl hd fun H' e1 e2 e3 => ?_
    rw [hsl] at e1 ⊢
    refine hK _ _ _ _ q p e R s m args below meth c c0 n0 hX hc H' _ arr (hR.set ho.1 ?_ e2 e3) ?_ hA
    · exact ⟨_, hcl, t_OB.to (V := updV (vp_V fs) k v) ⟨_, e1, q2, q3, t_set q4 hap hk v⟩ (fun j _ => vp_updV_set hlen v j)⟩
    · intro x hx
      rcases List.mem_append.mp hx with hx | hx
      · exact hL x hx
      · rw [List.mem_singleton.mp hx]; exact ho.1.1
  · exact q.elim
theorem ok_putfF (hG : zd_G B) {C : String} {T : u_T} {ty : Nat → FieldType} {N ci k idx : Nat} (hcl : zd_cl[ci]? = some (C, T, N)) (hlay : zd_lay C T N) (htab : zd_tab T ty N) (hk : k < N) (hl : Cond.fieldLink (zd_yn y).cls idx (T k).1 (T k).2.1 (T k).2.2.1 ∈ lw_tbl) (hfin : (T k).2.2.2 = true) (hin : (zd_yn y).name = "<init>") (hdecl : (T k).1 = (zd_yn y).cls) (hd : decode (zd_yb y) pc = .ok (.putfield idx, 3)) : zd_ok l B y pc (oc_putf B (ty k) ci k (pc + 3)) := by
  intro K ls st h Q hK q
  unfold oc_putf at q
  split at q
  · rename_i v a r
    obtain ⟨fs, ho, hlen, ⟨hn, hfit⟩, q⟩ := q
    intro p e R s m args below meth c c0 n0 hX hc H locs arr hR hL hA
    have hts : ∀ w ∈ u_ws C T N, w.before args s = true := fun w hw => zd_wd hG hX (hlay w hw).1 (Or.inl (hlay w hw).2) args
    have hKn := zd_kn hG hX
    have hap := va_apart (own := (zd_yn y).cls) (args := args) hts (fun w hw => hw) ty htab.1 htab.2 hKn hcl
    obtain ⟨rr, h1, cell, q1, q2, q3, q4⟩ := hR.ob ho 0 _ rfl
    have hr : rr = (C, T, N) := Option.some.inj (h1.symm.trans hcl)
    subst hr
    obtain ⟨hS, hfc, kC, hkC, hkind⟩ := hKn.1 ci _ hcl
    obtain ⟨cf, kf, fi, f, hi, hsl⟩ := hS k hk
    have hlay' := hts _ (u_in_lay hk)
    unfold u_lay at hlay'
    rw [if_pos hfin] at hlay'
    have hst := (u_facts hfc hkC (u_lays hts (fun w hw => hw) hk) hi).1
    have hcf : m.cls = cf := by
      obtain ⟨_, _, c', _, _, _, -, -, hf', -, -, -, hown2, -⟩ := Cond.laysFinal_spec hlay'
      have e1 : c' = cf := by have := hi.symm.trans hf'; simp at this; exact this.1.symm
      rw [hdecl] at hown2
      rw [← e1]; exact Option.some.inj ((zd_own hX).symm.trans hown2)
    have h6 := u_fits hfc hkC hkind (Or.inr hlay') hi (htab.1 k hk) hn hfit
    have hname : meth.name = "<init>" := ((name_of_methodNamed hX.2.2.2.2.2.1 hX.2.2.2.2.2.2.1).1).trans hin
    refine W.putFinK hX.1 hX.2.1 (zd_own hX) (zd_wd hG hX hl (Or.inl (by first | rfl | simp [Cond.onTables, Cond.keeps, Cond.steady])) args) hi hst hcf hname (by rw [q2]; exact h6) q1 q3 (by rw [hsl]; exact k2_hasslot (q4 k hk)) rfl rfl hd fun H' e1 e2 e3 => ?_
    rw [hsl] at e1 ⊢
    refine hK _ _ _ _ q p e R s m args below meth c c0 n0 hX hc H' _ arr (hR.set ho.1 ?_ e2 e3) ?_ hA
    · exact ⟨_, hcl, t_OB.to (V := updV (vp_V fs) k v) ⟨_, e1, q2, q3, t_set q4 hap hk v⟩ (fun j _ => vp_updV_set hlen v j)⟩
    · intro x hx
      rcases List.mem_append.mp hx with hx | hx
      · exact hL x hx
      · rw [List.mem_singleton.mp hx]; exact ho.1.1
  · exact q.elim
theorem zd_arr (hG : zd_G B) (hX : zd_X B y p R s m meth c c0 n0) {k : Nat} {ty : FieldType} (hk : zd_ty[k]? = some ty) : ArrOfT s (zd_aK B k) ty := arrOfT_moved hX.2.2.2.2.2.2.2.1.alike (hG.2.2.1 k ty hk).1
def oc_iaload (B : zd_B) (nx : Nat) : zd_S := fun K ls st h _ => match st with
  | .int i :: .ref a :: r => ∃ n f, (zd_Ai B h a 0 n f ∨ zd_Ol B a n f) ∧ vp_in i n ∧ K nx ls (.int (f i.toNatClampNeg) :: r) h
  | _ => False
theorem ok_iaload (hG : zd_G B) (hd : decode (zd_yb y) pc = .ok (.iaload, 1)) : zd_ok l B y pc (oc_iaload B (pc + 1)) := by
  intro K ls st h Q hK q
  unfold oc_iaload at q
  split at q
  · rename_i i a r
    obtain ⟨n, f, ho, hin, q⟩ := q
    intro p e R s m args below meth c c0 n0 hX hc H locs arr hR hL hA
    have hlt : i.toNatClampNeg < n := Nat.not_le.mp fun z => hin (Or.inr z)
    have kk := hK _ _ _ _ q p e R s m args below meth c c0 n0 hX hc H locs arr hR hL hA
    rcases ho with ho | ho
    · have hcell : H[a]? = some (arrV (zd_aK B 0) n (fun j => .int (f j))) := by
        have := hR.2.1 a ho.1
        rw [ho.2] at this
        exact this
      exact W.iald hX.1 hX.2.1 hcell (zd_arr hG hX (k := 0) rfl n _) (fun z => by cases z) (by rw [arrV_size]; exact hin) (arrV_read _ _ hlt) rfl rfl hd kk
    · obtain ⟨cell, a1, a2, a3, a4, a5, a6⟩ := ho
      have hla : a < zd_b0 B := (Array.getElem?_eq_some_iff.mp a1).1
      have hcell : H[a]? = some cell := (hR.2.2 a hla).trans a1
      refine W.iald hX.1 hX.2.1 hcell (State.isArrayOf_alike hX.2.2.2.2.2.2.2.1.alike a2) a3 (fun z => ?_) (a6 _ hlt) rfl rfl hd kk
      rcases z with z | z
      · exact hin (Or.inl z)
      · omega
  · exact q.elim
def oc_iastore (B : zd_B) (nx : Nat) : zd_S := fun K ls st h _ => match st with
  | .int x :: .int i :: .ref a :: r => ∃ n f, zd_Ai B h a 0 n f ∧ vp_in i n ∧ K nx ls r (zd_set h a (.inr (.inl (0, n, upd f i.toNatClampNeg x))))
  | _ => False
theorem zd_updV (f : Nat → Int32) (k : Nat) (x : Int32) : updV (fun j => Value.int (f j)) k (.int x) = fun j => .int (upd f k x j) := by
  funext j
  unfold updV upd
  split <;> rfl
theorem ok_iastore (hG : zd_G B) (hd : decode (zd_yb y) pc = .ok (.iastore, 1)) : zd_ok l B y pc (oc_iastore B (pc + 1)) := by
  intro K ls st h Q hK q
  unfold oc_iastore at q
  split at q
  · rename_i x i a r
    obtain ⟨n, f, ho, hin, q⟩ := q
    intro p e R s m args below meth c c0 n0 hX hc H locs arr hR hL hA
    have hcell : H[a]? = some (arrV (zd_aK B 0) n (fun j => .int (f j))) := by
      have := hR.2.1 a ho.1
      rw [ho.2] at this
      exact this
    refine W.iast hX.1 hX.2.1 hcell (zd_arr hG hX (k := 0) rfl n _) (fun z => by cases z) (by rw [arrV_size]; exact hin) rfl rfl hd fun H' e1 e2 e3 => ?_
    rw [arrV_store, zd_updV] at e1
    refine hK _ _ _ _ q p e R s m args below meth c c0 n0 hX hc H' _ arr (hR.set ho.1 e1 e2 e3) ?_ hA
    intro z hz
    rcases List.mem_append.mp hz with hz | hz
    · exact hL z hz
    · rw [List.mem_singleton.mp hz]; exact ho.1.1
  · exact q.elim
end ZH
end
section
/-! ends, throws, calls -/
theorem zd_weak {tb : Tables} {e : Env} {mid below : List Frame} {a b : State} (h : Steps tb e (mid ++ below) a b) : Steps tb e below a b := by
  obtain ⟨n, hn, hw⟩ := h
  refine ⟨n, hn, fun k hk => ?_⟩
  obtain ⟨above, h1, h2, h3⟩ := hw k hk
  refine ⟨above ++ mid, by rw [h1, List.append_assoc], by simp [h2], fun x hx => ?_⟩
  cases above with
  | nil => exact h2 rfl
  | cons f r =>
    simp at hx
    obtain ⟨e1, e2, -⟩ := hx
    exact h3 x (by rw [e1, e2])
section ZE
variable {l : Launch} {B : zd_B} {y : zd_Y} {pc : Nat}
def oc_iret (ty : FieldType) : zd_S := fun _ _ st h Q => match st with
  | [.int x] => narrow ty (.int x) = .int x ∧ Q (.inl (some (.int x))) h ∧ True
  | _ => False
theorem ok_iret {ty : FieldType} (hr0 : zd_yr y = some ty) (hd : decode (zd_yb y) pc = .ok (.ireturn, 1)) : zd_ok l B y pc (oc_iret ty) := by
  intro K ls st h Q hK q
  unfold oc_iret at q
  split at q
  · rename_i x
    obtain ⟨hn, hq, -⟩ := q
    intro p e R s m args below meth c c0 n0 hX hc H locs arr hR hL hA T hT X
    have hr : meth.sig.returnType = some ty := hX.2.2.2.1.trans hr0
    obtain ⟨fs, hret, hrun, hended, hW, hframe⟩ := X.leave (v := some (.int x)) (fun z => by rw [hr] at z; cases z) hX.2.2.2.2.1
    have hmeth' : T.vm.method? m = some meth := X.method'
    have hexec := hX.1
    have hb := hX.2.1
    refine ⟨T.setFrames fs, ?_, .returned (some (.int x)), .inl (some (.int x)), h, hrun, hended, rfl, hq, (fun z e => by cases e), hc, by show zd_R B h T.heap; rw [hT]; exact hR, hW, locs, hL, hframe⟩
    jvm_step X.here [X.here.top, hexec, hb, hd, hmeth', hr, hn]
    (try refine ⟨rfl, ?_⟩); (try refine ⟨rfl, ?_⟩)
    first | (intro acts; rw [hret _ acts rfl rfl rfl]) | rw [hret _ _ rfl rfl rfl]
    exact Steps.refl _
  · exact q.elim
def oc_lret : zd_S := fun _ _ st h Q => match st with
  | [.long x] => Q (.inl (some (.long x))) h ∧ True
  | _ => False
theorem ok_lret (hr0 : zd_yr y = some .long) (hd : decode (zd_yb y) pc = .ok (.lreturn, 1)) : zd_ok l B y pc oc_lret := by
  intro K ls st h Q hK q
  unfold oc_lret at q
  split at q
  · rename_i x
    obtain ⟨hq, -⟩ := q
    intro p e R s m args below meth c c0 n0 hX hc H locs arr hR hL hA T hT X
    have hr : meth.sig.returnType = some .long := hX.2.2.2.1.trans hr0
    obtain ⟨fs, hret, hrun, hended, hW, hframe⟩ := X.leave (v := some (.long x)) (fun z => by rw [hr] at z; cases z) hX.2.2.2.2.1
    have hmeth' : T.vm.method? m = some meth := X.method'
    have hexec := hX.1
    have hb := hX.2.1
    refine ⟨T.setFrames fs, ?_, .returned (some (.long x)), .inl (some (.long x)), h, hrun, hended, rfl, hq, (fun z e => by cases e), hc, by show zd_R B h T.heap; rw [hT]; exact hR, hW, locs, hL, hframe⟩
    jvm_step X.here [X.here.top, hexec, hb, hd, hmeth', hr, narrow]
    (try refine ⟨rfl, ?_⟩); (try refine ⟨rfl, ?_⟩)
    first | (intro acts; rw [hret _ acts rfl rfl rfl]) | rw [hret _ _ rfl rfl rfl]
    exact Steps.refl _
  · exact q.elim
def oc_vret : zd_S := fun _ _ st h Q => match st with
  | [] => Q (.inl none) h ∧ True
  | _ => False
theorem ok_vret (hr0 : zd_yr y = none) (hd : decode (zd_yb y) pc = .ok (.return_, 1)) : zd_ok l B y pc oc_vret := by
  intro K ls st h Q hK q
  unfold oc_vret at q
  split at q
  · obtain ⟨hq, -⟩ := q
    intro p e R s m args below meth c c0 n0 hX hc H locs arr hR hL hA T hT X
    have hr : meth.sig.returnType = none := hX.2.2.2.1.trans hr0
    obtain ⟨fs, hret, hrun, hended, hW, hframe⟩ := X.leave (v := none) (fun _ => rfl) hX.2.2.2.2.1
    have hmeth' : T.vm.method? m = some meth := X.method'
    have hexec := hX.1
    have hb := hX.2.1
    refine ⟨T.setFrames fs, ?_, .returned none, .inl none, h, hrun, hended, rfl, hq, (fun z e => by cases e), hc, by show zd_R B h T.heap; rw [hT]; exact hR, hW, locs, hL, hframe⟩
    jvm_step X.here [X.here.top, hexec, hb, hd, hmeth', hr]
    (try refine ⟨rfl, ?_⟩); (try refine ⟨rfl, ?_⟩)
    first | (intro acts; rw [hret _ acts rfl rfl rfl]) | rw [hret _ _ rfl rfl rfl]
    exact Steps.refl _
  · exact q.elim
theorem zd_nohand {p : Program} {R : Room} {s : State} {m : MethodId} {meth : Method} {c : Code} {c0 n0 : Nat} (hX : zd_X B y p R s m meth c c0 n0) (hh : zd_yh y = []) (pc : Nat) : ∀ x ∈ c.exceptionTable.toList, covers x pc = false := by
  have h := hX.2.2.2.2.2.2.2.2.1
  rw [hh] at h
  rw [List.map_eq_nil_iff] at h
  rw [h]
  intro x hx
  cases hx
def oc_athrow (B : zd_B) : zd_S := fun _ _ st h Q => match st with
  | .ref a :: _ => ∃ ci fs, zd_Ob B h a ci fs ∧ Q (.inr (a, ci)) h
  | _ => False
theorem ok_athrow (hh : zd_yh y = []) (hd : decode (zd_yb y) pc = .ok (.athrow, 1)) : zd_ok l B y pc (oc_athrow B) := by
  intro K ls st h Q hK q
  unfold oc_athrow at q
  split at q
  · rename_i a r
    obtain ⟨ci, fs, ho, hq⟩ := q
    intro p e R s m args below meth c c0 n0 hX hc H locs arr hR hL hA T hT X
    obtain ⟨hs, h1, h2, h3, h4⟩ := X.athrowLeaves hX.1 (g := F0 m pc arr (.ref a :: r)) rfl rfl rfl (zd_nohand hX hh pc) rfl (by rw [hX.2.1]; exact hd) hX.2.2.2.2.1
    exact ⟨_, hs, .threw a, .inr (a, ci), h, h1, h2, rfl, hq, (fun z e => by cases e; exact ⟨fs, ho⟩), hc, by show zd_R B h T.heap; rw [hT]; exact hR, h3, locs, hL, h4⟩
  · exact q.elim
/-- what a callee must be in the tables -/
def zd_cw (y : zd_Y) : Cond := match zd_yh y with
  | [] => .code (zd_yn y) (zd_yb y) (zd_yl y) (zd_yr y)
  | hs => .codeWith (zd_yn y) (zd_yb y) (zd_yl y) (zd_yr y) hs
theorem zd_cw_spec {y : zd_Y} {args : Array Value} {s : State} {m : MethodId} (hn : s.methodNamed? (zd_yn y) = some m) (h : (zd_cw y).before args s = true) :
    ∃ meth c, s.vm.method? m = some meth ∧ meth.code = some c ∧ c.code = zd_yb y ∧ c.maxLocals = zd_yl y ∧ meth.sig.returnType = zd_yr y ∧ meth.locks = false ∧ (c.exceptionTable.toList.map (fun x => (x.startPc, x.endPc, x.handlerPc, x.catchType)) = zd_yh y) ∧ parseMethodDescriptor (zd_yn y).desc = some meth.sig := by
  unfold zd_cw at h
  split at h
  · rename_i hh
    obtain ⟨meth, c, h1, h2, h3, h4, h5, h6, h7, h8⟩ := Cond.code_spec hn h
    refine ⟨meth, c, h1, h2, h3, h4, h5, h6, ?_, h8⟩
    have : c.exceptionTable.toList = [] := by simpa using h7
    rw [this, hh]
    rfl
  · obtain ⟨m', meth, c, h0, h1, h2, h3, h4, h5, h6, h7, h8⟩ := Cond.codeWith_spec h
    cases hn.symm.trans h0
    exact ⟨meth, c, h1, h2, h3, h4, h6, h7, h5, h8⟩
theorem zd_cw_good (y : zd_Y) : ((zd_cw y).onTables && (zd_cw y).keeps) = true := by
  unfold zd_cw
  split <;> first | rfl | simp [Cond.onTables, Cond.keeps, Cond.steady]
/-- THE CALL: the callee's walk, both outcomes -/
theorem zd_core {y2 : zd_Y} (hG : zd_G B) {p : Program} {e : Env} {R : Room} {s : State} {m : MethodId} {args : Array Value} {below : List Frame} {meth : Method} {c : Code} {c0 n0 : Nat} {T : State} {locs : List Loc} {h : zd_H} {arr : Array Slot} {rest : List Value}
    (hX : zd_X B y p R s m meth c c0 n0) (hc : c0 ≤ h.1 ∧ n0 ≤ h.2.1 ∧ h.1 ≤ zd_CB ∧ h.2.1 ≤ zd_SB) (hR : zd_R B h T.heap) (hL : ∀ q ∈ locs, zd_b0 B ≤ q.base) (hA : arr.size = zd_yl y)
    (X : Stand p l e R s m args below meth c T locs (h.1 - c0) (h.2.1 - n0)) {ig : Instr} (hd : decode (zd_yb y) pc = .ok (ig, 3))
    (hcw : zd_cw y2 ∈ lw_tbl) (hpl : plainFor (zd_yn y2) = true) {mk : MethodId} (hnamed : s.methodNamed? (zd_yn y2) = some mk) {as : List Value} (has : (lg_sl as).length ≤ zd_yl y2)
    (hfr : zd_yf y2 + 1 ≤ zd_yf y) (hwo : 8 + (zd_yl y2 + 11) + zd_yw y2 ≤ zd_yw y) (hst : (rest.map fun v => v.category).sum ≤ 8)
    {Q2 : zd_O → zd_H → Prop} (hM : zd_M l B y2 as h Q2) :
    ∃ (x : zd_O) (g : zd_H) (T' : State) (locs' : List Loc), Q2 x g ∧ (∀ q, x = .inr q → ∃ fs, zd_Ob B g q.1 q.2 fs) ∧ (c0 ≤ g.1 ∧ n0 ≤ g.2.1 ∧ g.1 ≤ zd_CB ∧ g.2.1 ≤ zd_SB) ∧ zd_R B g T'.heap ∧ (∀ q ∈ locs', zd_b0 B ≤ q.base) ∧
      Stand p l e R s m args below meth c T' locs' (g.1 - c0) (g.2.1 - n0) ∧
      (∀ v, x = .inl v → Steps p.tables e below (doInvoke e (T.setTop (F0 m pc arr rest)) [] mk as.toArray).1 (T'.setTop (F0 m (pc + 3) arr (v.toList ++ rest)))) ∧
      (∀ q, x = .inr q → Steps p.tables e below (doInvoke e (T.setTop (F0 m pc arr rest)) [] mk as.toArray).1 ((T'.setTop (F0 m pc arr rest)).pushFrame (.throwing q.1))) := by
  have hdg : decode c.code (F0 m pc arr rest).pc = .ok (ig, 3) := by rw [hX.2.1]; exact hd
  have hcode : (zd_cw y2).before args s = true := zd_wd hG hX hcw (Or.inl (zd_cw_good y2)) args
  obtain ⟨methk, ck, h1, h2, h3, h4, h5, h6, h7, h8⟩ := zd_cw_spec hnamed hcode
  have hmT : T.vm.method? mk = some methk := by rw [X.warmed.alike.method?]; exact h1
  have hnT : T.methodNamed? (zd_yn y2) = some mk := X.named hnamed
  have hpk : T.plainMethod mk := State.plainMethod.of_named hpl hnT hmT
  obtain ⟨Y, hin⟩ := X.into (g := F0 m pc arr rest) rfl (hA.trans hX.2.2.1.symm) hdg as.toArray (R' := { frames := zd_yf y2, cells := zd_CB - h.1, slots := zd_SB - h.2.1, locals := zd_yw y2 }) hmT h2 h6 hpk
    (by show zd_yf y2 + 1 ≤ R.frames; have := hX.2.2.2.2.2.2.2.2.2.1; omega)
    (by show 2 * 0 + (rest.map fun v => v.category).sum + (ck.maxLocals + 11) + zd_yw y2 ≤ R.locals; have := hX.2.2.2.2.2.2.2.2.2.2.1; rw [h4]; omega)
    (by show h.1 - c0 + (zd_CB - h.1) ≤ R.cells; have := hX.2.2.2.2.2.2.2.2.2.2.2.1; omega)
    (by show h.2.1 - n0 + (zd_SB - h.2.1) ≤ R.slots; have := hX.2.2.2.2.2.2.2.2.2.2.2.2.1; omega)
  have hX2 : zd_X B y2 p { frames := zd_yf y2, cells := zd_CB - h.1, slots := zd_SB - h.2.1, locals := zd_yw y2 } (T.calling (F0 m pc arr rest) mk as.toArray) mk methk ck h.1 h.2.1 :=
    ⟨hX.1, h3, h4, h5, h6, hnT, hmT, State.WarmedH.trans hX.2.2.2.2.2.2.2.1 X.warmed, h7, Nat.le_refl _, Nat.le_refl _, by show zd_CB ≤ zd_CB - h.1 + h.1; omega, by show zd_SB ≤ zd_SB - h.2.1 + h.2.1; omega, by show T.heap.size = _; exact hR.1⟩
  have k := hM p e _ _ mk as.toArray (.java (F0 m pc arr rest) :: below) methk ck h.1 h.2.1 hX2 ⟨Nat.le_refl _, Nat.le_refl _, hc.2.2.1, hc.2.2.2⟩ T.heap [] _ hR (fun q hq => by cases hq) (zd_Lh.entry as has)
  rw [Nat.sub_self, Nat.sub_self] at k
  obtain ⟨t, hs, o, x, g, b1, b2, b3, b4, b5, b6, b7, b8, L, b9, b10⟩ := k ((T.setTop (F0 m pc arr rest)).pushFrame (.java (entryFrame mk as.toArray ck.maxLocals))) rfl Y
  have hs' : Steps p.tables e below (doInvoke e (T.setTop (F0 m pc arr rest)) [] mk as.toArray).1 t := by
    rw [h4, lg_entry_eq] at hs
    rw [hin [], h4, lg_entry_eq]
    exact zd_weak (mid := [.java (F0 m pc arr rest)]) hs
  have hLL : ∀ q ∈ locs ++ L, zd_b0 B ≤ q.base := fun q hq => by
    rcases List.mem_append.mp hq with hq | hq
    · exact hL q hq
    · exact b9 q hq
  cases x with
  | inl v =>
    have ho : o = .returned v := b3
    subst ho
    obtain ⟨T', X', hW', hsame', ht⟩ := X.outOf (g := F0 m pc arr rest) rfl hdg b2 b8 b10
    have hheap : T'.heap = t.heap := by rw [ht]; rfl
    refine ⟨.inl v, g, T', locs ++ L, b4, b5, ⟨by omega, by omega, b6.2.2.1, b6.2.2.2⟩, by rw [hheap]; exact b7, hLL, ?_, fun w hw => ?_, fun q hq => by cases hq⟩
    · have e1 : h.1 - c0 + (g.1 - h.1) = g.1 - c0 := by omega
      have e2 : h.2.1 - n0 + (g.2.1 - h.2.1) = g.2.1 - n0 := by omega
      rw [e1, e2] at X'
      exact X'
    · cases hw
      rw [ht] at hs'
      exact hs'
  | inr z =>
    have ho : o = .threw z.1 := b3
    subst ho
    obtain ⟨T', X', hW', hsame', ht⟩ := X.outOfThrown (g := F0 m pc arr rest) rfl b2 b8 b10
    have hheap : T'.heap = t.heap := by rw [ht]; exact (Stand.throwing_heap T' _ _).symm
    refine ⟨.inr z, g, T', locs ++ L, b4, b5, ⟨by omega, by omega, b6.2.2.1, b6.2.2.2⟩, by rw [hheap]; exact b7, hLL, ?_, fun w hw => by (cases hw), fun q hq => ?_⟩
    · have e1 : h.1 - c0 + (g.1 - h.1) = g.1 - c0 := by omega
      have e2 : h.2.1 - n0 + (g.2.1 - h.2.1) = g.2.1 - n0 := by omega
      rw [e1, e2] at X'
      exact X'
    · cases hq
      rw [ht] at hs'
      exact hs'
/-- behind the call: on with the value, or out with the exception -/
theorem zd_after (hh : zd_yh y = []) {p : Program} {e : Env} {R : Room} {s : State} {m : MethodId} {args : Array Value} {below : List Frame} {meth : Method} {c : Code} {c0 n0 : Nat} {arr : Array Slot} {rest : List Value} {ls : zd_V} {K : zd_K} {Q : zd_O → zd_H → Prop}
    (hX : zd_X B y p R s m meth c c0 n0) (hA : zd_Lh arr (zd_yl y) ls) (hK : ∀ pc' ls' st' h', K pc' ls' st' h' → zd_W l B y pc' ls' st' h' Q) {inv : State}
    (hc : ∃ (x : zd_O) (g : zd_H) (T' : State) (locs' : List Loc), (match x with
        | .inl v => K (pc + 3) ls (v.toList ++ rest) g
        | .inr q => Q (.inr q) g) ∧ (∀ q, x = .inr q → ∃ fs, zd_Ob B g q.1 q.2 fs) ∧ (c0 ≤ g.1 ∧ n0 ≤ g.2.1 ∧ g.1 ≤ zd_CB ∧ g.2.1 ≤ zd_SB) ∧ zd_R B g T'.heap ∧ (∀ q ∈ locs', zd_b0 B ≤ q.base) ∧
      Stand p l e R s m args below meth c T' locs' (g.1 - c0) (g.2.1 - n0) ∧
      (∀ v, x = .inl v → Steps p.tables e below inv (T'.setTop (F0 m (pc + 3) arr (v.toList ++ rest)))) ∧
      (∀ q, x = .inr q → Steps p.tables e below inv ((T'.setTop (F0 m pc arr rest)).pushFrame (.throwing q.1)))) :
    ∃ t, Steps p.tables e below inv t ∧ zd_F B s below c0 n0 Q t := by
  obtain ⟨x, g, T', locs', hq, hx, hb, hR, hL, X', hi, ho⟩ := hc
  cases x with
  | inl v =>
    obtain ⟨t, a1, a2⟩ := hK _ _ _ _ hq p e R s m args below meth c c0 n0 hX hb T'.heap locs' arr hR hL hA T' rfl X'
    exact ⟨t, (hi v rfl).trans a1, a2⟩
  | inr z =>
    obtain ⟨hs, h1, h2, h3, h4⟩ := X'.leaveThrown z.1 (g := F0 m pc arr rest) rfl rfl rfl (zd_nohand hX hh pc) hX.2.2.2.2.1
    exact ⟨_, (ho z rfl).trans hs, .threw z.1, .inr z, g, h1, h2, rfl, hq, hx, hb, hR, h3, locs', hL, h4⟩
def zd_cont (K : zd_K) (Q : zd_O → zd_H → Prop) (nx : Nat) (ls : zd_V) (rest : List Value) : zd_O → zd_H → Prop := fun x g => match x with
  | .inl v => K nx ls (v.toList ++ rest) g
  | .inr q => Q (.inr q) g
/-- a static method, n arguments -/
def oc_calls (l : Launch) (B : zd_B) (y2 : zd_Y) (n nx : Nat) : zd_S := fun K ls st h Q => ((st.take n).length = n ∧ ((st.drop n).map fun v => v.category).sum ≤ 8 ∧ (lg_sl (st.take n).reverse).length ≤ zd_yl y2) ∧ zd_M l B y2 (st.take n).reverse h (zd_cont K Q nx ls (st.drop n))
/-- the static facts of a call -/
def zd_cf (y y2 : zd_Y) (n : Nat) : Prop := zd_cw y2 ∈ lw_tbl ∧ plainFor (zd_yn y2) = true ∧ zd_yf y2 + 1 ≤ zd_yf y ∧ 8 + (zd_yl y2 + 11) + zd_yw y2 ≤ zd_yw y ∧ ((zd_yn y2).cls ≠ "java/lang/invoke/MethodHandle" ∧ (zd_yn y2).cls ≠ "java/lang/invoke/VarHandle") ∧ (parseMethodDescriptor (zd_yn y2).desc).map (fun d => d.parameters.length) = some n
theorem zd_cf_len {y y2 : zd_Y} {n : Nat} (h : zd_cf y y2 n) {as : List Value} (ha : as.length = n) : ∀ sig, parseMethodDescriptor (zd_yn y2).desc = some sig → as.length = sig.parameters.length := by
  intro sig hs
  have := h.2.2.2.2.2
  rw [hs] at this
  rw [ha]
  exact (Option.some.inj this).symm
theorem ok_calls (hG : zd_G B) {y2 : zd_Y} {n idx : Nat} (hf : zd_cf y y2 n) (hh : zd_yh y = []) (hl : Cond.methodLink (zd_yn y).cls idx (zd_yn y2) ∈ lw_tbl) (hs : Cond.static (zd_yn y2) ∈ lw_tbl) (hi : Cond.initialized (zd_yn y2).cls ∈ lw_tbl) (hd : decode (zd_yb y) pc = .ok (.invokestatic idx, 3)) : zd_ok l B y pc (oc_calls l B y2 n (pc + 3)) := by
  intro K ls st h Q hK q
  obtain ⟨⟨hn, hst, has⟩, hM⟩ := q
  intro p e R s m args below meth c c0 n0 hX hc H locs arr hR hL hA T hT X
  subst hT
  have hcode : (zd_cw y2).before args s = true := zd_wd hG hX hf.1 (Or.inl (zd_cw_good y2)) args
  have hlink := zd_wd hG hX hl (Or.inl (by first | rfl | simp [Cond.onTables, Cond.keeps, Cond.steady])) args
  have hstat := zd_wd hG hX hs (Or.inl (by first | rfl | simp [Cond.onTables, Cond.keeps, Cond.steady])) args
  have hinit := zd_wd hG hX hi (Or.inl (by first | rfl | simp [Cond.onTables, Cond.keeps, Cond.steady])) args
  obtain ⟨mk, hnamed⟩ : ∃ mk, s.methodNamed? (zd_yn y2) = some mk := by
    unfold zd_cw at hcode
    split at hcode
    · exact Cond.code_named hcode
    · obtain ⟨m', -, -, h0, -⟩ := Cond.codeWith_spec hcode
      exact ⟨m', h0⟩
  obtain ⟨methM, cM, hmethM, -, -, -, -, -, -, hsigM⟩ := zd_cw_spec hnamed hcode
  have hstatic : methM.isStatic = true := Cond.static_spec hnamed hmethM hstat
  obtain ⟨kP, hkP, -⟩ := className_of_methodNamed hnamed
  have hinitP : kP.init = .initialized := Cond.initialized_spec (findClass_of_methodNamed hnamed) hkP hinit
  have hstack : st = (st.take n).reverse.reverse ++ st.drop n := by rw [List.reverse_reverse, List.take_append_drop]
  obtain ⟨vm₁, X₁, hstep₁⟩ := X.invokestatic hX.1 (zd_own hX) hlink hnamed hmethM hstatic hkP hinitP hf.2.2.2.2.1 (g := F0 m pc arr st) rfl (argsL := (st.take n).reverse) (rest := st.drop n) (zd_cf_len hf (by simpa using hn) _ hsigM) hstack (by rw [hX.2.1]; exact hd)
  obtain ⟨t, a1, a2⟩ := zd_after (pc := pc) (arr := arr) (rest := st.drop n) (inv := (doInvoke e ((T.setVm vm₁).setTop (F0 m pc arr (st.drop n))) [] mk (st.take n).reverse.toArray).1) hh hX hA hK
    (zd_core (pc := pc) (arr := arr) (rest := st.drop n) hG hX hc (T := T.setVm vm₁) hR hL hA.1 X₁ hd hf.1 hf.2.1 hnamed has hf.2.2.1 hf.2.2.2.1 hst hM)
  exact ⟨t, hstep₁ _ fun acts => by rw [doInvoke_state]; exact a1, a2⟩
end ZE
end
section
/-! calls of methods with a receiver, of constructors; nest mates (written by gen_calls.py) -/
section ZV
variable {l : Launch} {B : zd_B} {y : zd_Y} {pc : Nat}
/-- a method of the object under its n arguments -/
def oc_callv (l : Launch) (B : zd_B) (ci : Nat) (y2 : zd_Y) (n nx : Nat) : zd_S := fun K ls st h Q => match st.drop n with
  | .ref a :: rest => (∃ fs, zd_Ob B h a ci fs) ∧ ((st.take n).length = n ∧ (rest.map fun v => v.category).sum ≤ 8 ∧ (lg_sl (.ref a :: (st.take n).reverse)).length ≤ zd_yl y2) ∧ zd_M l B y2 (.ref a :: (st.take n).reverse) h (zd_cont K Q nx ls rest)
  | _ => False
/-- a constructor -/
def oc_calli (l : Launch) (B : zd_B) (y2 : zd_Y) (n nx : Nat) : zd_S := fun K ls st h Q => match st.drop n with
  | .ref a :: rest => ((st.take n).length = n ∧ (rest.map fun v => v.category).sum ≤ 8 ∧ (lg_sl (.ref a :: (st.take n).reverse)).length ≤ zd_yl y2) ∧ zd_M l B y2 (.ref a :: (st.take n).reverse) h (zd_cont K Q nx ls rest)
  | _ => False
theorem ok_callv (hG : zd_G B) {y2 : zd_Y} {n idx ci : Nat} {C : String} {Tt : u_T} {N : Nat} (hcl : zd_cl[ci]? = some (C, Tt, N)) (hf : zd_cf y y2 n) (hh : zd_yh y = []) (hl : Cond.methodLink (zd_yn y).cls idx (zd_yn y2) ∈ lw_tbl) (hin : Cond.instanceMethod (zd_yn y2) ∈ lw_tbl) (hse : Cond.selects C (zd_yn y2) (zd_yn y2) ∈ lw_tbl) (hd : decode (zd_yb y) pc = .ok (.invokevirtual idx, 3)) : zd_ok l B y pc (oc_callv l B ci y2 n (pc + 3)) := by
  intro K ls st h Q hK q
  unfold oc_callv at q
  split at q
  · rename_i a rest hdrop
    obtain ⟨⟨fs, ho⟩, ⟨hn, hst, has⟩, hM⟩ := q
    intro p e R s m args below meth c c0 n0 hX hc H locs arr hR hL hA T hT X
    subst hT
    have hcode : (zd_cw y2).before args s = true := zd_wd hG hX hf.1 (Or.inl (zd_cw_good y2)) args
    have hlink : (Cond.methodLink (zd_yn y).cls idx (zd_yn y2)).before args s = true := zd_wd hG hX hl (Or.inl (by first | rfl | simp [Cond.onTables, Cond.keeps, Cond.steady])) args
    have hinst := zd_wd hG hX hin (Or.inl (by first | rfl | simp [Cond.onTables, Cond.keeps, Cond.steady])) args
    have hsel := zd_wd hG hX hse (Or.inl (by first | rfl | simp [Cond.onTables, Cond.keeps, Cond.steady])) args
    obtain ⟨mk, methM, hnamed, hmethM, hstM, habM⟩ := Cond.instanceMethod_spec hinst
    obtain ⟨methM', cM, hmethM', -, -, -, -, -, -, hsigM⟩ := zd_cw_spec hnamed hcode
    cases hmethM.symm.trans hmethM'
    obtain ⟨rr, h1, cellB, hcell, hclB, hvmB, -⟩ := hR.ob ho 0 _ rfl
    have hr : rr = (C, Tt, N) := Option.some.inj (h1.symm.trans hcl)
    subst hr
    obtain ⟨-, hfc, -⟩ := (zd_kn hG hX).1 ci _ hcl
    obtain ⟨c2, r2, m2, q1, q2, q3, q4, kP, hkP, hkPi⟩ := Cond.selects_spec hsel
    have hcls : s.vm.findClass C = some cellB.cls := by rw [hclB]; exact hfc
    cases hcls.symm.trans q1
    cases (State.methodFound?_of_named hnamed hf.2.2.2.2.1).symm.trans q2
    cases hnamed.symm.trans q3
    have hselP : selectMethod e.platform s.vm cellB.cls mk = .method mk := by rw [Launch.admits_selectMethod X.admits]; exact q4
    have hstack : st = (st.take n).reverse.reverse ++ .ref a :: rest := by rw [List.reverse_reverse, ← hdrop, List.take_append_drop]
    obtain ⟨vm₁, X₁, hstep₁⟩ := X.invokevirtual hX.1 (zd_own hX) hlink hnamed hmethM hstM hkP hkPi hf.2.2.2.2.1 (a := a) (cell := cellB) hcell (fun z hz => by rw [hz] at hvmB; cases hvmB) hselP hmethM habM hkP hkPi (g := F0 m pc arr st) rfl (argsL := (st.take n).reverse) (rest := rest) (zd_cf_len hf (by simpa using hn) _ hsigM) hstack (by rw [hX.2.1]; exact hd)
    have hcore := zd_core (l := l) (y := y) (pc := pc) (arr := arr) (rest := rest) (as := Value.ref a :: (st.take n).reverse) hG hX hc (T := T.setVm vm₁) hR hL hA.1 X₁ hd hf.1 hf.2.1 hnamed has hf.2.2.1 hf.2.2.2.1 hst hM
    obtain ⟨t, a1, a2⟩ := zd_after (pc := pc) (arr := arr) (rest := rest) hh hX hA hK hcore
    exact ⟨t, hstep₁ _ fun acts => by rw [doInvoke_state]; exact a1, a2⟩
  · exact q.elim
theorem ok_calli (hG : zd_G B) {y2 : zd_Y} {n idx : Nat} (hf : zd_cf y y2 n) (hh : zd_yh y = []) (hh2 : zd_yh y2 = []) (hr2 : zd_yr y2 = none) (hy1 : (zd_yn y2).name = "<init>") (hl : Cond.methodLink (zd_yn y).cls idx (zd_yn y2) ∈ lw_tbl) (hin : Cond.instanceMethod (zd_yn y2) ∈ lw_tbl) (hd : decode (zd_yb y) pc = .ok (.invokespecial idx, 3)) : zd_ok l B y pc (oc_calli l B y2 n (pc + 3)) := by
  intro K ls st h Q hK q
  unfold oc_calli at q
  split at q
  · rename_i a rest hdrop
    obtain ⟨⟨hn, hst, has⟩, hM⟩ := q
    intro p e R s m args below meth c c0 n0 hX hc H locs arr hR hL hA T hT X
    subst hT
    have hpl : e.platform.magicAccessors = ({} : Platform).magicAccessors := by rw [X.admits.platform]
    have hcode0 : (zd_cw y2).before args s = true := zd_wd hG hX hf.1 (Or.inl (zd_cw_good y2)) args
    have hcode : (Cond.code (zd_yn y2) (zd_yb y2) (zd_yl y2) none).before args s = true := by
      unfold zd_cw at hcode0
      rw [hh2, hr2] at hcode0
      exact hcode0
    have hlink : (Cond.methodLink (zd_yn y).cls idx (zd_yn y2)).before args s = true := zd_wd hG hX hl (Or.inl (by first | rfl | simp [Cond.onTables, Cond.keeps, Cond.steady])) args
    have hinst := zd_wd hG hX hin (Or.inl (by first | rfl | simp [Cond.onTables, Cond.keeps, Cond.steady])) args
    have hstack : st = (st.take n).reverse.reverse ++ .ref a :: rest := by rw [List.reverse_reverse, ← hdrop, List.take_append_drop]
    obtain ⟨mk, methM, cM, kP, vm₁, hnamed, hmethM, hcodeM, -, hlocalsM, -, hkP, -, hW₁, hstep₁⟩ := Steps.initColdArgs (e := e) X.here hX.1 X.warmed hpl (zd_own hX) hy1 hf.2.2.2.2.1 hlink hinst hcode (f := F0 m pc arr st) rfl (zd_cf_len hf (by simpa using hn)) hstack (by rw [hX.2.1]; exact hd)
    have X₁ := X.noted hW₁
    have hcore := zd_core (l := l) (y := y) (pc := pc) (arr := arr) (rest := rest) (as := Value.ref a :: (st.take n).reverse) hG hX hc (T := T.setVm vm₁) hR hL hA.1 X₁ hd hf.1 hf.2.1 hnamed has hf.2.2.1 hf.2.2.2.1 hst hM
    obtain ⟨t, a1, a2⟩ := zd_after (pc := pc) (arr := arr) (rest := rest) hh hX hA hK hcore
    exact ⟨t, hstep₁ _ fun acts => by rw [doInvoke_state]; exact a1, a2⟩
  · exact q.elim
theorem ok_callvN (hG : zd_G B) {y2 : zd_Y} {n idx ci : Nat} {C : String} {Tt : u_T} {N : Nat} {host : String} (hcl : zd_cl[ci]? = some (C, Tt, N)) (hf : zd_cf y y2 n) (hh : zd_yh y = []) (hl : Cond.methodLinkNest (zd_yn y).cls idx (zd_yn y2) host ∈ lw_tbl) (hin : Cond.instanceMethod (zd_yn y2) ∈ lw_tbl) (hse : Cond.selects C (zd_yn y2) (zd_yn y2) ∈ lw_tbl) (hd : decode (zd_yb y) pc = .ok (.invokevirtual idx, 3)) : zd_ok l B y pc (oc_callv l B ci y2 n (pc + 3)) := by
  intro K ls st h Q hK q
  unfold oc_callv at q
  split at q
  · rename_i a rest hdrop
    obtain ⟨⟨fs, ho⟩, ⟨hn, hst, has⟩, hM⟩ := q
    intro p e R s m args below meth c c0 n0 hX hc H locs arr hR hL hA T hT X
    subst hT
    have hcode : (zd_cw y2).before args s = true := zd_wd hG hX hf.1 (Or.inl (zd_cw_good y2)) args
    have hlink : (Cond.methodLinkNest (zd_yn y).cls idx (zd_yn y2) host).before args s = true := va_Nw.use rfl (va_Nw.warmM hX.2.2.2.2.2.2.2.1 (va_Nw.of rfl (hG.1 _ hl)))
    have hinst := zd_wd hG hX hin (Or.inl (by first | rfl | simp [Cond.onTables, Cond.keeps, Cond.steady])) args
    have hsel := zd_wd hG hX hse (Or.inl (by first | rfl | simp [Cond.onTables, Cond.keeps, Cond.steady])) args
    obtain ⟨mk, methM, hnamed, hmethM, hstM, habM⟩ := Cond.instanceMethod_spec hinst
    obtain ⟨methM', cM, hmethM', -, -, -, -, -, -, hsigM⟩ := zd_cw_spec hnamed hcode
    cases hmethM.symm.trans hmethM'
    obtain ⟨rr, h1, cellB, hcell, hclB, hvmB, -⟩ := hR.ob ho 0 _ rfl
    have hr : rr = (C, Tt, N) := Option.some.inj (h1.symm.trans hcl)
    subst hr
    obtain ⟨-, hfc, -⟩ := (zd_kn hG hX).1 ci _ hcl
    obtain ⟨c2, r2, m2, q1, q2, q3, q4, kP, hkP, hkPi⟩ := Cond.selects_spec hsel
    have hcls : s.vm.findClass C = some cellB.cls := by rw [hclB]; exact hfc
    cases hcls.symm.trans q1
    cases (State.methodFound?_of_named hnamed hf.2.2.2.2.1).symm.trans q2
    cases hnamed.symm.trans q3
    have hselP : selectMethod e.platform s.vm cellB.cls mk = .method mk := by rw [Launch.admits_selectMethod X.admits]; exact q4
    have hstack : st = (st.take n).reverse.reverse ++ .ref a :: rest := by rw [List.reverse_reverse, ← hdrop, List.take_append_drop]
    obtain ⟨vm₁, X₁, hstep₁⟩ := X.invokevirtualNest hX.1 (zd_own hX) hlink hnamed hmethM hstM hkP hkPi hf.2.2.2.2.1 (a := a) (cell := cellB) hcell (fun z hz => by rw [hz] at hvmB; cases hvmB) hselP hmethM habM hkP hkPi (g := F0 m pc arr st) rfl (argsL := (st.take n).reverse) (rest := rest) (zd_cf_len hf (by simpa using hn) _ hsigM) hstack (by rw [hX.2.1]; exact hd)
    have hcore := zd_core (l := l) (y := y) (pc := pc) (arr := arr) (rest := rest) (as := Value.ref a :: (st.take n).reverse) hG hX hc (T := T.setVm vm₁) hR hL hA.1 X₁ hd hf.1 hf.2.1 hnamed has hf.2.2.1 hf.2.2.2.1 hst hM
    obtain ⟨t, a1, a2⟩ := zd_after (pc := pc) (arr := arr) (rest := rest) hh hX hA hK hcore
    exact ⟨t, hstep₁ _ fun acts => by rw [doInvoke_state]; exact a1, a2⟩
  · exact q.elim
theorem ok_calliN (hG : zd_G B) {y2 : zd_Y} {n idx : Nat} {host : String} (hf : zd_cf y y2 n) (hh : zd_yh y = []) (hh2 : zd_yh y2 = []) (hr2 : zd_yr y2 = none) (hy1 : (zd_yn y2).name = "<init>") (hl : Cond.methodLinkNest (zd_yn y).cls idx (zd_yn y2) host ∈ lw_tbl) (hin : Cond.instanceMethod (zd_yn y2) ∈ lw_tbl) (hd : decode (zd_yb y) pc = .ok (.invokespecial idx, 3)) : zd_ok l B y pc (oc_calli l B y2 n (pc + 3)) := by
  intro K ls st h Q hK q
  unfold oc_calli at q
  split at q
  · rename_i a rest hdrop
    obtain ⟨⟨hn, hst, has⟩, hM⟩ := q
    intro p e R s m args below meth c c0 n0 hX hc H locs arr hR hL hA T hT X
    subst hT
    have hpl : e.platform.magicAccessors = ({} : Platform).magicAccessors := by rw [X.admits.platform]
    have hcode0 : (zd_cw y2).before args s = true := zd_wd hG hX hf.1 (Or.inl (zd_cw_good y2)) args
    have hcode : (Cond.code (zd_yn y2) (zd_yb y2) (zd_yl y2) none).before args s = true := by
      unfold zd_cw at hcode0
      rw [hh2, hr2] at hcode0
      exact hcode0
    have hlink : (Cond.methodLinkNest (zd_yn y).cls idx (zd_yn y2) host).before args s = true := va_Nw.use rfl (va_Nw.warmM hX.2.2.2.2.2.2.2.1 (va_Nw.of rfl (hG.1 _ hl)))
    have hinst := zd_wd hG hX hin (Or.inl (by first | rfl | simp [Cond.onTables, Cond.keeps, Cond.steady])) args
    have hstack : st = (st.take n).reverse.reverse ++ .ref a :: rest := by rw [List.reverse_reverse, ← hdrop, List.take_append_drop]
    obtain ⟨mk, methM, cM, kP, vm₁, hnamed, hmethM, hcodeM, -, hlocalsM, -, hkP, -, hW₁, hstep₁⟩ := Steps.initColdArgsNest (e := e) X.here hX.1 X.warmed hpl (zd_own hX) hy1 hf.2.2.2.2.1 hlink hinst hcode (f := F0 m pc arr st) rfl (zd_cf_len hf (by simpa using hn)) hstack (by rw [hX.2.1]; exact hd)
    have X₁ := X.noted hW₁
    have hcore := zd_core (l := l) (y := y) (pc := pc) (arr := arr) (rest := rest) (as := Value.ref a :: (st.take n).reverse) hG hX hc (T := T.setVm vm₁) hR hL hA.1 X₁ hd hf.1 hf.2.1 hnamed has hf.2.2.1 hf.2.2.2.1 hst hM
    obtain ⟨t, a1, a2⟩ := zd_after (pc := pc) (arr := arr) (rest := rest) hh hX hA hK hcore
    exact ⟨t, hstep₁ _ fun acts => by rw [doInvoke_state]; exact a1, a2⟩
  · exact q.elim
theorem ok_callsN (hG : zd_G B) {y2 : zd_Y} {n idx : Nat} {host : String} (hf : zd_cf y y2 n) (hh : zd_yh y = []) (hl : Cond.methodLinkNest (zd_yn y).cls idx (zd_yn y2) host ∈ lw_tbl) (hs : Cond.static (zd_yn y2) ∈ lw_tbl) (hi : Cond.initialized (zd_yn y2).cls ∈ lw_tbl) (hd : decode (zd_yb y) pc = .ok (.invokestatic idx, 3)) : zd_ok l B y pc (oc_calls l B y2 n (pc + 3)) := by
  intro K ls st h Q hK q
  obtain ⟨⟨hn, hst, has⟩, hM⟩ := q
  intro p e R s m args below meth c c0 n0 hX hc H locs arr hR hL hA T hT X
  subst hT
  have hcode : (zd_cw y2).before args s = true := zd_wd hG hX hf.1 (Or.inl (zd_cw_good y2)) args
  have hlink : (Cond.methodLinkNest (zd_yn y).cls idx (zd_yn y2) host).before args s = true := va_Nw.use rfl (va_Nw.warmM hX.2.2.2.2.2.2.2.1 (va_Nw.of rfl (hG.1 _ hl)))
  have hstat := zd_wd hG hX hs (Or.inl (by first | rfl | simp [Cond.onTables, Cond.keeps, Cond.steady])) args
  have hinit := zd_wd hG hX hi (Or.inl (by first | rfl | simp [Cond.onTables, Cond.keeps, Cond.steady])) args
  obtain ⟨mk, hnamed⟩ : ∃ mk, s.methodNamed? (zd_yn y2) = some mk := by
    unfold zd_cw at hcode
    split at hcode
    · exact Cond.code_named hcode
    · obtain ⟨m', -, -, h0, -⟩ := Cond.codeWith_spec hcode
      exact ⟨m', h0⟩
  obtain ⟨methM, cM, hmethM, -, -, -, -, -, -, hsigM⟩ := zd_cw_spec hnamed hcode
  have hstatic : methM.isStatic = true := Cond.static_spec hnamed hmethM hstat
  obtain ⟨kP, hkP, -⟩ := className_of_methodNamed hnamed
  have hinitP : kP.init = .initialized := Cond.initialized_spec (findClass_of_methodNamed hnamed) hkP hinit
  have hstack : st = (st.take n).reverse.reverse ++ st.drop n := by rw [List.reverse_reverse, List.take_append_drop]
  obtain ⟨vm₁, X₁, hstep₁⟩ := X.invokestaticNest hX.1 (zd_own hX) hlink hnamed hmethM hstatic hkP hinitP hf.2.2.2.2.1 (g := F0 m pc arr st) rfl (argsL := (st.take n).reverse) (rest := st.drop n) (zd_cf_len hf (by simpa using hn) _ hsigM) hstack (by rw [hX.2.1]; exact hd)
  obtain ⟨t, a1, a2⟩ := zd_after (pc := pc) (arr := arr) (rest := st.drop n) (inv := (doInvoke e ((T.setVm vm₁).setTop (F0 m pc arr (st.drop n))) [] mk (st.take n).reverse.toArray).1) hh hX hA hK
    (zd_core (pc := pc) (arr := arr) (rest := st.drop n) hG hX hc (T := T.setVm vm₁) hR hL hA.1 X₁ hd hf.1 hf.2.1 hnamed has hf.2.2.1 hf.2.2.2.1 hst hM)
  exact ⟨t, hstep₁ _ fun acts => by rw [doInvoke_state]; exact a1, a2⟩
/-- Object's constructor -/
def oc_oinit (nx : Nat) : zd_S := fun K ls st h _ => match st with
  | .ref _ :: r => (r.map fun v => v.category).sum ≤ 8 ∧ K nx ls r h
  | _ => False
theorem ok_oinit (hG : zd_G B) {idx : Nat} (hl : Cond.methodLink (zd_yn y).cls idx Lib.objectInit ∈ lw_tbl) (hin : Cond.instanceMethod Lib.objectInit ∈ lw_tbl) (hco : Cond.code Lib.objectInit ⟨#[0xb1]⟩ 1 none ∈ lw_tbl) (hf : 1 ≤ zd_yf y) (hw : 20 ≤ zd_yw y) (hd : decode (zd_yb y) pc = .ok (.invokespecial idx, 3)) : zd_ok l B y pc (oc_oinit (pc + 3)) := by
  intro K ls st h Q hK q
  unfold oc_oinit at q
  split at q
  · rename_i a r
    obtain ⟨hs, q⟩ := q
    intro p e R s m args below meth c c0 n0 hX hc H locs arr hR hL hA
    refine W.objInit hX.1 hX.2.1 (zd_own hX) (zd_wd hG hX hl (Or.inl (by first | rfl | simp [Cond.onTables, Cond.keeps, Cond.steady])) args) (zd_wd hG hX hin (Or.inl (by first | rfl | simp [Cond.onTables, Cond.keeps, Cond.steady])) args) (zd_wd hG hX hco (Or.inl (by first | rfl | simp [Cond.onTables, Cond.keeps, Cond.steady])) args) (g := F0 m pc arr (.ref a :: r)) rfl (hA.1.trans hX.2.2.1.symm) rfl hd (by have := hX.2.2.2.2.2.2.2.2.2.1; omega) (by show 2 * 0 + _ + 12 ≤ _; have := hX.2.2.2.2.2.2.2.2.2.2.1; omega) ?_
    exact hK _ _ _ _ q p e R s m args below meth c c0 n0 hX hc H locs arr hR hL hA
  · exact q.elim
end ZV
end
section
/-! numbers: an Int32 and an Int64 by its integer -/
def iI (z : Int) : Int32 := Int32.ofInt z
def lI (z : Int) : Int64 := Int64.ofInt z
def iR (z : Int) : Prop := -2147483648 ≤ z ∧ z < 2147483648
def lR (z : Int) : Prop := -9223372036854775808 ≤ z ∧ z < 9223372036854775808
theorem iI_add (a b : Int) : iI a + iI b = iI (a + b) := (Int32.ofInt_add a b).symm
theorem iI_sub (a b : Int) : iI a - iI b = iI (a - b) := (Int32.ofInt_sub a b).symm
theorem iI_mul (a b : Int) : iI a * iI b = iI (a * b) := (Int32.ofInt_mul a b).symm
theorem iI_neg (a : Int) : -iI a = iI (-a) := Int32.neg_ofInt
theorem lI_add (a b : Int) : lI a + lI b = lI (a + b) := (Int64.ofInt_add a b).symm
theorem lI_sub (a b : Int) : lI a - lI b = lI (a - b) := (Int64.ofInt_sub a b).symm
theorem lI_mul (a b : Int) : lI a * lI b = lI (a * b) := (Int64.ofInt_mul a b).symm
theorem lI_neg (a : Int) : -lI a = lI (-a) := Int64.neg_ofInt
theorem iI_t {a : Int} (h : iR a) : (iI a).toInt = a := Int32.toInt_ofInt_of_le (by have := h.1; omega) (by have := h.2; omega)
theorem lI_t {a : Int} (h : lR a) : (lI a).toInt = a := Int64.toInt_ofInt_of_le (by have := h.1; omega) (by have := h.2; omega)
theorem iI_of (x : Int32) : ∃ z, iR z ∧ x = iI z := ⟨x.toInt, ⟨by have := x.le_toInt; omega, by have := x.toInt_lt; omega⟩, (Int32.ofInt_toInt x).symm⟩
theorem lI_of (x : Int64) : ∃ z, lR z ∧ x = lI z := ⟨x.toInt, ⟨by have := x.le_toInt; omega, by have := x.toInt_lt; omega⟩, (Int64.ofInt_toInt x).symm⟩
theorem iI_lt {a b : Int} (ha : iR a) (hb : iR b) : iI a < iI b ↔ a < b := by rw [Int32.lt_iff_toInt_lt, iI_t ha, iI_t hb]
theorem iI_le {a b : Int} (ha : iR a) (hb : iR b) : iI a ≤ iI b ↔ a ≤ b := by rw [Int32.le_iff_toInt_le, iI_t ha, iI_t hb]
theorem iI_eq {a b : Int} (ha : iR a) (hb : iR b) : iI a = iI b ↔ a = b := by rw [← Int32.toInt_inj, iI_t ha, iI_t hb]
theorem lI_lt {a b : Int} (ha : lR a) (hb : lR b) : lI a < lI b ↔ a < b := by rw [Int64.lt_iff_toInt_lt, lI_t ha, lI_t hb]
theorem lI_le {a b : Int} (ha : lR a) (hb : lR b) : lI a ≤ lI b ↔ a ≤ b := by rw [Int64.le_iff_toInt_le, lI_t ha, lI_t hb]
theorem lI_eq {a b : Int} (ha : lR a) (hb : lR b) : lI a = lI b ↔ a = b := by rw [← Int64.toInt_inj, lI_t ha, lI_t hb]
theorem iI_l {a : Int} (h : iR a) : (iI a).toInt64 = lI a := by
  apply Int64.toInt.inj
  rw [Int32.toInt_toInt64, iI_t h, lI_t ⟨by have := h.1; omega, by have := h.2; omega⟩]
theorem lI_i (a : Int) : (lI a).toInt32 = iI a := Int64.toInt32_ofInt
theorem iI_div {a b : Int} (ha : iR a) (h0 : 0 ≤ a) (hb : iR b) (h1 : 0 < b) : iI a / iI b = iI (a / b) := by
  have hne : iI b ≠ -1 := fun q => by
    have e := iI_t hb
    rw [q] at e
    have : (-1 : Int32).toInt = -1 := by decide
    omega
  have hd : 0 ≤ a / b := Int.ediv_nonneg h0 (by omega)
  have hle : a / b ≤ a := Int.ediv_le_self _ h0
  apply Int32.toInt.inj
  rw [Int32.toInt_div_of_ne_right _ _ hne, iI_t ha, iI_t hb, iI_t ⟨by omega, by have := ha.2; omega⟩, Int.tdiv_eq_ediv_of_nonneg h0]
theorem lI_div {a b : Int} (ha : lR a) (h0 : 0 ≤ a) (hb : lR b) (h1 : 0 < b) : lI a / lI b = lI (a / b) := by
  have hne : lI b ≠ -1 := fun q => by
    have e := lI_t hb
    rw [q] at e
    have : (-1 : Int64).toInt = -1 := by decide
    omega
  have hd : 0 ≤ a / b := Int.ediv_nonneg h0 (by omega)
  have hle : a / b ≤ a := Int.ediv_le_self _ h0
  apply Int64.toInt.inj
  rw [Int64.toInt_div_of_ne_right _ _ hne, lI_t ha, lI_t hb, lI_t ⟨by omega, by have := ha.2; omega⟩, Int.tdiv_eq_ediv_of_nonneg h0]
theorem iI_rem {a b : Int} (ha : iR a) (h0 : 0 ≤ a) (hb : iR b) (h1 : 0 < b) : iI a - iI a / iI b * iI b = iI (a % b) := by
  rw [iI_div ha h0 hb h1, iI_mul, iI_sub]
  congr 1
  have := Int.emod_add_mul_ediv a b
  rw [Int.mul_comm] at this
  omega
theorem lI_rem {a b : Int} (ha : lR a) (h0 : 0 ≤ a) (hb : lR b) (h1 : 0 < b) : lI a - lI a / lI b * lI b = lI (a % b) := by
  rw [lI_div ha h0 hb h1, lI_mul, lI_sub]
  congr 1
  have := Int.emod_add_mul_ediv a b
  rw [Int.mul_comm] at this
  omega
theorem iI_nI (n : Nat) : nI n = iI (n : Int) := (Int32.ofInt_eq_ofNat (n := n)).symm
theorem iI_cl {n : Int} (h0 : 0 ≤ n) (h : n < 2147483648) : (iI n).toNatClampNeg = n.toNat := by
  show (iI n).toInt.toNat = n.toNat
  rw [iI_t ⟨by omega, h⟩]
theorem iI_in {i : Int} {n : Nat} (h0 : 0 ≤ i) (h1 : i < n) (h2 : i < 2147483648) : vp_in (iI i) n := by
  rw [vp_in_iff, iI_t ⟨by omega, h2⟩]
  exact ⟨h0, h1⟩
/-! rows of figures: what number they are, the lowest first -/
def zv (b : Nat) (g : Nat → Nat) : Nat → Nat
  | 0 => 0
  | n + 1 => zv b g n + g n * b ^ n
theorem zv_lt {b : Nat} {g : Nat → Nat} {n : Nat} (h : ∀ i, i < n → g i < b) : zv b g n < b ^ n := by
  induction n with
  | zero => simp [zv]
  | succ n ih =>
    have h1 := ih (fun i hi => h i (by omega))
    have h2 : g n + 1 ≤ b := h n (by omega)
    have h3 : (g n + 1) * b ^ n ≤ b * b ^ n := Nat.mul_le_mul_right _ h2
    show zv b g n + g n * b ^ n < b ^ (n + 1)
    rw [Nat.pow_succ, Nat.mul_comm (b ^ n) b]
    rw [Nat.add_mul, Nat.one_mul] at h3
    omega
theorem zv_congr {b : Nat} {g g' : Nat → Nat} {n : Nat} (h : ∀ i, i < n → g i = g' i) : zv b g n = zv b g' n := by
  induction n with
  | zero => rfl
  | succ n ih =>
    show zv b g n + g n * b ^ n = zv b g' n + g' n * b ^ n
    rw [ih (fun i hi => h i (by omega)), h n (by omega)]
theorem zv_split (b : Nat) (g : Nat → Nat) (m n : Nat) : zv b g (m + n) = zv b g m + b ^ m * zv b (fun i => g (m + i)) n := by
  induction n with
  | zero => simp [zv]
  | succ n ih =>
    show zv b g (m + n) + g (m + n) * b ^ (m + n) = zv b g m + b ^ m * (zv b (fun i => g (m + i)) n + g (m + n) * b ^ n)
    rw [ih, Nat.mul_add, Nat.pow_add, Nat.mul_left_comm]
    omega
theorem zv_zero {b : Nat} {g : Nat → Nat} {n : Nat} (h : ∀ i, i < n → g i = 0) : zv b g n = 0 := by
  induction n with
  | zero => rfl
  | succ n ih =>
    show zv b g n + g n * b ^ n = 0
    rw [ih (fun i hi => h i (by omega)), h n (by omega)]
    simp
/-- one figure changed -/
def zu (g : Nat → Nat) (k v : Nat) : Nat → Nat := fun j => if j = k then v else g j
theorem zu_s {g : Nat → Nat} {k v : Nat} : zu g k v k = v := if_pos rfl
theorem zu_n {g : Nat → Nat} {k v j : Nat} (h : j ≠ k) : zu g k v j = g j := if_neg h
theorem zv_zu {b : Nat} {g : Nat → Nat} {n k v : Nat} (h : k < n) : zv b (zu g k v) n + g k * b ^ k = zv b g n + v * b ^ k := by
  induction n with
  | zero => omega
  | succ n ih =>
    show zv b (zu g k v) n + zu g k v n * b ^ n + g k * b ^ k = zv b g n + g n * b ^ n + v * b ^ k
    by_cases e : k = n
    · subst e
      rw [zu_s, zv_congr (g' := g) (fun i hi => zu_n (by omega))]
      omega
    · rw [zu_n (fun q => e q.symm)]
      have := ih (by omega)
      omega
theorem zv_zu_out {b : Nat} {g : Nat → Nat} {n k v : Nat} (h : n ≤ k) : zv b (zu g k v) n = zv b g n := zv_congr (fun i hi => zu_n (by omega))
theorem upd_nI (g : Nat → Nat) (k v : Nat) : upd (fun i => nI (g i)) k (nI v) = fun i => nI (zu g k v i) := by
  funext j
  unfold upd zu
  split <;> rfl
end
section
/-! more of the heap's instructions: new cells, rows of other kinds, constants, statics, switches -/
section ZN
variable {l : Launch} {B : zd_B} {y : zd_Y} {pc : Nat}
theorem zd_ac {cd : zd_Y} {q : Nat × zd_S} {r : List (Nat × zd_S)} (h : zd_ok l B cd q.1 q.2) (t : ∀ x ∈ r, zd_ok l B cd x.1 x.2) : ∀ x ∈ q :: r, zd_ok l B cd x.1 x.2 := fun x hx => (List.mem_cons.mp hx).elim (fun e => by rw [e]; exact h) (t x)
theorem zd_an {cd : zd_Y} : ∀ x ∈ ([] : List (Nat × zd_S)), zd_ok l B cd x.1 x.2 := fun x hx => by cases hx
theorem zd_dr {bytes : ByteArray} {L : List (Nat × Instr × Nat)} (h : ∀ q ∈ L, decode bytes q.1 = .ok q.2) (i : Nat) {pc n : Nat} {ins : Instr} (e : L[i]? = some (pc, ins, n)) : decode bytes pc = .ok (ins, n) := h (pc, ins, n) (List.mem_of_getElem? e)
def oc_new (B : zd_B) (ci n : Nat) (fs : List Value) (nx : Nat) : zd_S := fun K ls st h _ => h.1 + 1 ≤ zd_CB ∧ h.2.1 + n ≤ zd_SB ∧ K nx ls (.ref (zd_b0 B + h.1) :: st) (zd_push h (zd_b0 B + h.1) (.inl (ci, fs)) n)
theorem ok_new (hG : zd_G B) {C : String} {T : u_T} {ty : Nat → FieldType} {N ci n idx : Nat} {fs : List Value} (hcl : zd_cl[ci]? = some (C, T, N)) (hlay : zd_lay C T N) (htab : zd_tab T ty N) (hk : Cond.classLink (zd_yn y).cls idx C ∈ lw_tbl) (hins : Cond.instantiable C n ∈ lw_tbl) (hini : Cond.initialized C ∈ lw_tbl) (hfs : ∀ j, j < N → defaultValue (ty j) = vp_V fs j) (hd : decode (zd_yb y) pc = .ok (.new idx, 3)) : zd_ok l B y pc (oc_new B ci n fs (pc + 3)) := by
  intro K ls st h Q hK q
  obtain ⟨q1, q2, q3⟩ := q
  intro p e R s m args below meth c c0 n0 hX hc H locs arr hR hL hA
  have hKn := (zd_kn hG hX).1 ci _ hcl
  have hts : ∀ w ∈ u_ws C T N, w.before args s = true := fun w hw => zd_wd hG hX (hlay w hw).1 (Or.inl (hlay w hw).2) args
  have b1 := hX.2.2.2.2.2.2.2.2.2.2.2.1
  have b2 := hX.2.2.2.2.2.2.2.2.2.2.2.2.1
  refine W.newcK hX.1 hX.2.1 (zd_own hX) (zd_wd hG hX hk (Or.inl (by first | rfl | simp [Cond.onTables, Cond.keeps, Cond.steady])) args) (zd_wd hG hX hins (Or.inl (by first | rfl | simp [Cond.onTables, Cond.keeps, Cond.steady])) args) (zd_wd hG hX hini (Or.inl (by first | rfl | simp [Cond.onTables, Cond.keeps, Cond.steady])) args) (g := F0 m pc arr st) rfl hd (by omega) (by omega) hKn.2.1 (h := zd_b0 B + h.1) hR.1 fun H1 kC hkC e1 z1 o1 => ?_
  refine W.cs (cells' := h.1 + 1 - c0) (slots' := h.2.1 + n - n0) (by omega) (by omega) ?_
  exact hK _ _ _ _ q3 p e R s m args below meth c c0 n0 hX ⟨by show c0 ≤ h.1 + 1; omega, by show n0 ≤ h.2.1 + n; omega, q1, q2⟩ H1 locs arr (hR.push hR.1 ⟨_, hcl, (u_born ty hts (fun w hw => hw) hKn hkC e1 htab.1).to hfs⟩ z1 o1) hL hA
theorem zd_ra (hG : zd_G B) {p : Program} {R : Room} {s : State} {m : MethodId} {meth : Method} {c : Code} {c0 n0 : Nat} (hX : zd_X B y p R s m meth c c0 n0) {k : Nat} {ty : FieldType} (hk : zd_ty[k]? = some ty) : va_RA s (zd_aK B k) ty := va_RA.moved hX.2.2.2.2.2.2.2.1.alike (hG.2.2.1 k ty hk).2
def oc_newa (B : zd_B) (kd nx : Nat) : zd_S := fun K ls st h _ => match st with
  | .int n :: r => (¬ n < 0 ∧ n.toNatClampNeg ≤ 100000 ∧ h.1 + 1 ≤ zd_CB ∧ h.2.1 + n.toNatClampNeg ≤ zd_SB) ∧ K nx ls (.ref (zd_b0 B + h.1) :: r) (zd_push h (zd_b0 B + h.1) (.inr (.inl (kd, n.toNatClampNeg, fun _ => 0))) n.toNatClampNeg)
  | _ => False
def oc_newaL (B : zd_B) (nx : Nat) : zd_S := fun K ls st h _ => match st with
  | .int n :: r => (¬ n < 0 ∧ n.toNatClampNeg ≤ 60000 ∧ h.1 + 1 ≤ zd_CB ∧ h.2.1 + n.toNatClampNeg ≤ zd_SB) ∧ K nx ls (.ref (zd_b0 B + h.1) :: r) (zd_push h (zd_b0 B + h.1) (.inr (.inr (.inl (n.toNatClampNeg, fun _ => 0)))) n.toNatClampNeg)
  | _ => False
theorem ok_newa_int (hG : zd_G B) (hw : Cond.arrayClass .int ∈ lw_tbl) (hd : decode (zd_yb y) pc = .ok (.newarray .int, 2)) : zd_ok l B y pc (oc_newa B 0 (pc + 2)) := by
  intro K ls st h Q hK q
  unfold oc_newa at q
  split at q
  · rename_i n r
    obtain ⟨⟨hn, hb, q1, q2⟩, q3⟩ := q
    intro p e R s m args below meth c c0 n0 hX hc H locs arr hR hL hA
    have b1 := hX.2.2.2.2.2.2.2.2.2.2.2.1
    have b2 := hX.2.2.2.2.2.2.2.2.2.2.2.2.1
    refine va_newaK (N := n.toNatClampNeg) hX.1 hX.2.1 (atype := .int) (zd_wd hG hX hw (Or.inr ⟨_, rfl⟩) args) (g := F0 m pc arr (.int n :: r)) rfl hd rfl hn rfl (by show n.toNatClampNeg * 4 ≤ 536870912; omega) (by omega) (by omega) (h := zd_b0 B + h.1) hR.1 fun H1 cA e1 z1 o1 hAr hNm => ?_
    have hcA : cA = zd_aK B 0 := Option.some.inj (hNm.symm.trans (zd_ra hG hX (k := 0) rfl))
    subst hcA
    refine W.cs (cells' := h.1 + 1 - c0) (slots' := h.2.1 + n.toNatClampNeg - n0) (by omega) (by omega) ?_
    exact hK _ _ _ _ q3 p e R s m args below meth c c0 n0 hX ⟨by show c0 ≤ h.1 + 1; omega, by show n0 ≤ h.2.1 + n.toNatClampNeg; omega, q1, q2⟩ H1 locs arr (hR.push hR.1 e1 z1 o1) hL hA
  · exact q.elim
theorem ok_newa_char (hG : zd_G B) (hw : Cond.arrayClass .char ∈ lw_tbl) (hd : decode (zd_yb y) pc = .ok (.newarray .char, 2)) : zd_ok l B y pc (oc_newa B 1 (pc + 2)) := by
  intro K ls st h Q hK q
  unfold oc_newa at q
  split at q
  · rename_i n r
    obtain ⟨⟨hn, hb, q1, q2⟩, q3⟩ := q
    intro p e R s m args below meth c c0 n0 hX hc H locs arr hR hL hA
    have b1 := hX.2.2.2.2.2.2.2.2.2.2.2.1
    have b2 := hX.2.2.2.2.2.2.2.2.2.2.2.2.1
    refine va_newaK (N := n.toNatClampNeg) hX.1 hX.2.1 (atype := .char) (zd_wd hG hX hw (Or.inr ⟨_, rfl⟩) args) (g := F0 m pc arr (.int n :: r)) rfl hd rfl hn rfl (by show n.toNatClampNeg * 2 ≤ 536870912; omega) (by omega) (by omega) (h := zd_b0 B + h.1) hR.1 fun H1 cA e1 z1 o1 hAr hNm => ?_
    have hcA : cA = zd_aK B 1 := Option.some.inj (hNm.symm.trans (zd_ra hG hX (k := 1) rfl))
    subst hcA
    refine W.cs (cells' := h.1 + 1 - c0) (slots' := h.2.1 + n.toNatClampNeg - n0) (by omega) (by omega) ?_
    exact hK _ _ _ _ q3 p e R s m args below meth c c0 n0 hX ⟨by show c0 ≤ h.1 + 1; omega, by show n0 ≤ h.2.1 + n.toNatClampNeg; omega, q1, q2⟩ H1 locs arr (hR.push hR.1 e1 z1 o1) hL hA
  · exact q.elim
theorem ok_newa_boolean (hG : zd_G B) (hw : Cond.arrayClass .boolean ∈ lw_tbl) (hd : decode (zd_yb y) pc = .ok (.newarray .boolean, 2)) : zd_ok l B y pc (oc_newa B 2 (pc + 2)) := by
  intro K ls st h Q hK q
  unfold oc_newa at q
  split at q
  · rename_i n r
    obtain ⟨⟨hn, hb, q1, q2⟩, q3⟩ := q
    intro p e R s m args below meth c c0 n0 hX hc H locs arr hR hL hA
    have b1 := hX.2.2.2.2.2.2.2.2.2.2.2.1
    have b2 := hX.2.2.2.2.2.2.2.2.2.2.2.2.1
    refine va_newaK (N := n.toNatClampNeg) hX.1 hX.2.1 (atype := .boolean) (zd_wd hG hX hw (Or.inr ⟨_, rfl⟩) args) (g := F0 m pc arr (.int n :: r)) rfl hd rfl hn rfl (by show n.toNatClampNeg * 1 ≤ 536870912; omega) (by omega) (by omega) (h := zd_b0 B + h.1) hR.1 fun H1 cA e1 z1 o1 hAr hNm => ?_
    have hcA : cA = zd_aK B 2 := Option.some.inj (hNm.symm.trans (zd_ra hG hX (k := 2) rfl))
    subst hcA
    refine W.cs (cells' := h.1 + 1 - c0) (slots' := h.2.1 + n.toNatClampNeg - n0) (by omega) (by omega) ?_
    exact hK _ _ _ _ q3 p e R s m args below meth c c0 n0 hX ⟨by show c0 ≤ h.1 + 1; omega, by show n0 ≤ h.2.1 + n.toNatClampNeg; omega, q1, q2⟩ H1 locs arr (hR.push hR.1 e1 z1 o1) hL hA
  · exact q.elim
theorem ok_newa_long (hG : zd_G B) (hw : Cond.arrayClass .long ∈ lw_tbl) (hd : decode (zd_yb y) pc = .ok (.newarray .long, 2)) : zd_ok l B y pc (oc_newaL B (pc + 2)) := by
  intro K ls st h Q hK q
  unfold oc_newaL at q
  split at q
  · rename_i n r
    obtain ⟨⟨hn, hb, q1, q2⟩, q3⟩ := q
    intro p e R s m args below meth c c0 n0 hX hc H locs arr hR hL hA
    have b1 := hX.2.2.2.2.2.2.2.2.2.2.2.1
    have b2 := hX.2.2.2.2.2.2.2.2.2.2.2.2.1
    refine va_newaK (N := n.toNatClampNeg) hX.1 hX.2.1 (atype := .long) (zd_wd hG hX hw (Or.inr ⟨_, rfl⟩) args) (g := F0 m pc arr (.int n :: r)) rfl hd rfl hn rfl (by show n.toNatClampNeg * 8 ≤ 536870912; omega) (by omega) (by omega) (h := zd_b0 B + h.1) hR.1 fun H1 cA e1 z1 o1 hAr hNm => ?_
    have hcA : cA = zd_aK B 3 := Option.some.inj (hNm.symm.trans (zd_ra hG hX (k := 3) rfl))
    subst hcA
    refine W.cs (cells' := h.1 + 1 - c0) (slots' := h.2.1 + n.toNatClampNeg - n0) (by omega) (by omega) ?_
    exact hK _ _ _ _ q3 p e R s m args below meth c c0 n0 hX ⟨by show c0 ≤ h.1 + 1; omega, by show n0 ≤ h.2.1 + n.toNatClampNeg; omega, q1, q2⟩ H1 locs arr (hR.push hR.1 e1 z1 o1) hL hA
  · exact q.elim
def oc_anew (B : zd_B) (nx : Nat) : zd_S := fun K ls st h _ => match st with
  | .int n :: r => (¬ n < 0 ∧ n.toNatClampNeg ≤ 100000 ∧ h.1 + 1 ≤ zd_CB ∧ h.2.1 + n.toNatClampNeg ≤ zd_SB) ∧ K nx ls (.ref (zd_b0 B + h.1) :: r) (zd_push h (zd_b0 B + h.1) (.inr (.inr (.inr (n.toNatClampNeg, fun _ => none)))) n.toNatClampNeg)
  | _ => False
def oc_caload (B : zd_B) (nx : Nat) : zd_S := fun K ls st h _ => match st with
  | .int i :: .ref a :: r => ∃ n f, zd_Ai B h a 1 n f ∧ vp_in i n ∧ K nx ls (.int (f i.toNatClampNeg) :: r) h
  | _ => False
theorem ok_caload (hG : zd_G B) (hd : decode (zd_yb y) pc = .ok (.caload, 1)) : zd_ok l B y pc (oc_caload B (pc + 1)) := by
  intro K ls st h Q hK q
  unfold oc_caload at q
  split at q
  · rename_i i a r
    obtain ⟨n, f, ho, hin, q⟩ := q
    intro p e R s m args below meth c c0 n0 hX hc H locs arr hR hL hA
    have hlt : i.toNatClampNeg < n := Nat.not_le.mp fun z => hin (Or.inr z)
    have hcell : H[a]? = some (arrV (zd_aK B 1) n (fun j => .int (f j))) := by
      have := hR.2.1 a ho.1
      rw [ho.2] at this
      exact this
    exact W.cald hX.1 hX.2.1 hcell (zd_arr hG hX (k := 1) rfl n _) (fun z => by cases z) (by rw [arrV_size]; exact hin) (arrV_read _ _ hlt) rfl rfl hd (hK _ _ _ _ q p e R s m args below meth c c0 n0 hX hc H locs arr hR hL hA)
  · exact q.elim
def oc_castore (B : zd_B) (nx : Nat) : zd_S := fun K ls st h _ => match st with
  | .int x :: .int i :: .ref a :: r => ∃ n f, zd_Ai B h a 1 n f ∧ vp_in i n ∧ narrow .char (.int x) = .int x ∧ K nx ls r (zd_set h a (.inr (.inl (1, n, upd f i.toNatClampNeg x))))
  | _ => False
theorem ok_castore (hG : zd_G B) (hd : decode (zd_yb y) pc = .ok (.castore, 1)) : zd_ok l B y pc (oc_castore B (pc + 1)) := by
  intro K ls st h Q hK q
  unfold oc_castore at q
  split at q
  · rename_i x i a r
    obtain ⟨n, f, ho, hin, hnw, q⟩ := q
    intro p e R s m args below meth c c0 n0 hX hc H locs arr hR hL hA
    have hcell : H[a]? = some (arrV (zd_aK B 1) n (fun j => .int (f j))) := by
      have := hR.2.1 a ho.1
      rw [ho.2] at this
      exact this
    refine W.cast hX.1 hX.2.1 hcell (zd_arr hG hX (k := 1) rfl n _) (fun z => by cases z) (by rw [arrV_size]; exact hin) rfl rfl hd fun H' e1 e2 e3 => ?_
    rw [hnw, arrV_store, zd_updV] at e1
    refine hK _ _ _ _ q p e R s m args below meth c c0 n0 hX hc H' _ arr (hR.set ho.1 e1 e2 e3) ?_ hA
    intro z hz
    rcases List.mem_append.mp hz with hz | hz
    · exact hL z hz
    · rw [List.mem_singleton.mp hz]; exact ho.1.1
  · exact q.elim
def oc_baload (B : zd_B) (nx : Nat) : zd_S := fun K ls st h _ => match st with
  | .int i :: .ref a :: r => ∃ n f, zd_Ai B h a 2 n f ∧ vp_in i n ∧ K nx ls (.int (f i.toNatClampNeg) :: r) h
  | _ => False
theorem ok_baload (hG : zd_G B) (hd : decode (zd_yb y) pc = .ok (.baload, 1)) : zd_ok l B y pc (oc_baload B (pc + 1)) := by
  intro K ls st h Q hK q
  unfold oc_baload at q
  split at q
  · rename_i i a r
    obtain ⟨n, f, ho, hin, q⟩ := q
    intro p e R s m args below meth c c0 n0 hX hc H locs arr hR hL hA
    have hlt : i.toNatClampNeg < n := Nat.not_le.mp fun z => hin (Or.inr z)
    have hcell : H[a]? = some (arrV (zd_aK B 2) n (fun j => .int (f j))) := by
      have := hR.2.1 a ho.1
      rw [ho.2] at this
      exact this
    exact W.zald hX.1 hX.2.1 hcell (zd_arr hG hX (k := 2) rfl n _) (fun z => by cases z) (by rw [arrV_size]; exact hin) (arrV_read _ _ hlt) rfl rfl hd (hK _ _ _ _ q p e R s m args below meth c c0 n0 hX hc H locs arr hR hL hA)
  · exact q.elim
def oc_bastore (B : zd_B) (nx : Nat) : zd_S := fun K ls st h _ => match st with
  | .int x :: .int i :: .ref a :: r => ∃ n f, zd_Ai B h a 2 n f ∧ vp_in i n ∧ narrow .boolean (.int x) = .int x ∧ K nx ls r (zd_set h a (.inr (.inl (2, n, upd f i.toNatClampNeg x))))
  | _ => False
theorem ok_bastore (hG : zd_G B) (hd : decode (zd_yb y) pc = .ok (.bastore, 1)) : zd_ok l B y pc (oc_bastore B (pc + 1)) := by
  intro K ls st h Q hK q
  unfold oc_bastore at q
  split at q
  · rename_i x i a r
    obtain ⟨n, f, ho, hin, hnw, q⟩ := q
    intro p e R s m args below meth c c0 n0 hX hc H locs arr hR hL hA
    have hcell : H[a]? = some (arrV (zd_aK B 2) n (fun j => .int (f j))) := by
      have := hR.2.1 a ho.1
      rw [ho.2] at this
      exact this
    refine W.zast hX.1 hX.2.1 hcell (zd_arr hG hX (k := 2) rfl n _) (fun z => by cases z) (by rw [arrV_size]; exact hin) rfl rfl hd fun H' e1 e2 e3 => ?_
    rw [hnw, arrV_store, zd_updV] at e1
    refine hK _ _ _ _ q p e R s m args below meth c c0 n0 hX hc H' _ arr (hR.set ho.1 e1 e2 e3) ?_ hA
    intro z hz
    rcases List.mem_append.mp hz with hz | hz
    · exact hL z hz
    · rw [List.mem_singleton.mp hz]; exact ho.1.1
  · exact q.elim
def oc_laload (B : zd_B) (nx : Nat) : zd_S := fun K ls st h _ => match st with
  | .int i :: .ref a :: r => ∃ n f, zd_Al B h a n f ∧ vp_in i n ∧ K nx ls (.long (f i.toNatClampNeg) :: r) h
  | _ => False
theorem ok_laload (hG : zd_G B) (hd : decode (zd_yb y) pc = .ok (.laload, 1)) : zd_ok l B y pc (oc_laload B (pc + 1)) := by
  intro K ls st h Q hK q
  unfold oc_laload at q
  split at q
  · rename_i i a r
    obtain ⟨n, f, ho, hin, q⟩ := q
    intro p e R s m args below meth c c0 n0 hX hc H locs arr hR hL hA
    have hlt : i.toNatClampNeg < n := Nat.not_le.mp fun z => hin (Or.inr z)
    have hcell : H[a]? = some (arrV (zd_aK B 3) n (fun j => .long (f j))) := by
      have := hR.2.1 a ho.1
      rw [ho.2] at this
      exact this
    exact W.lald hX.1 hX.2.1 hcell (zd_arr hG hX (k := 3) rfl n _) (fun z => by cases z) (by rw [arrV_size]; exact hin) (arrV_read _ _ hlt) rfl rfl hd (hK _ _ _ _ q p e R s m args below meth c c0 n0 hX hc H locs arr hR hL hA)
  · exact q.elim
def oc_lastore (B : zd_B) (nx : Nat) : zd_S := fun K ls st h _ => match st with
  | .long x :: .int i :: .ref a :: r => ∃ n f, zd_Al B h a n f ∧ vp_in i n ∧ K nx ls r (zd_set h a (.inr (.inr (.inl (n, vp_updL f i.toNatClampNeg x)))))
  | _ => False
theorem zd_updVL (f : Nat → Int64) (k : Nat) (x : Int64) : updV (fun j => Value.long (f j)) k (.long x) = fun j => .long (vp_updL f k x j) := by
  funext j
  unfold updV vp_updL
  split <;> rfl
theorem ok_lastore (hG : zd_G B) (hd : decode (zd_yb y) pc = .ok (.lastore, 1)) : zd_ok l B y pc (oc_lastore B (pc + 1)) := by
  intro K ls st h Q hK q
  unfold oc_lastore at q
  split at q
  · rename_i x i a r
    obtain ⟨n, f, ho, hin, q⟩ := q
    intro p e R s m args below meth c c0 n0 hX hc H locs arr hR hL hA
    have hcell : H[a]? = some (arrV (zd_aK B 3) n (fun j => .long (f j))) := by
      have := hR.2.1 a ho.1
      rw [ho.2] at this
      exact this
    refine W.last hX.1 hX.2.1 hcell (zd_arr hG hX (k := 3) rfl n _) (fun z => by cases z) (by rw [arrV_size]; exact hin) rfl rfl hd fun H' e1 e2 e3 => ?_
    rw [arrV_store, zd_updVL] at e1
    refine hK _ _ _ _ q p e R s m args below meth c c0 n0 hX hc H' _ arr (hR.set ho.1 e1 e2 e3) ?_ hA
    intro z hz
    rcases List.mem_append.mp hz with hz | hz
    · exact hL z hz
    · rw [List.mem_singleton.mp hz]; exact ho.1.1
  · exact q.elim
def oc_aaload (B : zd_B) (nx : Nat) : zd_S := fun K ls st h _ => match st with
  | .int i :: .ref a :: r => ∃ n f v, zd_Ar B h a n f ∧ vp_in i n ∧ f i.toNatClampNeg = some v ∧ K nx ls (.ref v :: r) h
  | _ => False
theorem ok_aaload (hG : zd_G B) (hd : decode (zd_yb y) pc = .ok (.aaload, 1)) : zd_ok l B y pc (oc_aaload B (pc + 1)) := by
  intro K ls st h Q hK q
  unfold oc_aaload at q
  split at q
  · rename_i i a r
    obtain ⟨n, f, v, ho, hin, hv, q⟩ := q
    intro p e R s m args below meth c c0 n0 hX hc H locs arr hR hL hA
    have hlt : i.toNatClampNeg < n := Nat.not_le.mp fun z => hin (Or.inr z)
    have kk := hK _ _ _ _ q p e R s m args below meth c c0 n0 hX hc H locs arr hR hL hA
    have hcell : H[a]? = some (arrV (zd_aK B 4) n (fun j => va_rf (f j))) := by
      have := hR.2.1 a ho.1
      rw [ho.2] at this
      exact this
    refine W.aald (ty := .object "DecimalDesk$Decimal") hX.1 hX.2.1 hcell (zd_arr hG hX (k := 4) rfl n _) rfl (fun z => by cases z) (by rw [arrV_size]; exact hin) (v := .ref v) ?_ rfl rfl hd kk
    rw [arrV_read _ _ hlt, hv]
    rfl
  · exact q.elim
def oc_arraylength (B : zd_B) (nx : Nat) : zd_S := fun K ls st h _ => match st with
  | .ref a :: r => ∃ n, ((∃ k f, zd_Ai B h a k n f ∧ k < 3) ∨ ∃ f, zd_Ol B a n f) ∧ K nx ls (.int (nI n) :: r) h
  | _ => False
theorem ok_arraylength (hG : zd_G B) (hd : decode (zd_yb y) pc = .ok (.arraylength, 1)) : zd_ok l B y pc (oc_arraylength B (pc + 1)) := by
  intro K ls st h Q hK q
  unfold oc_arraylength at q
  split at q
  · rename_i a r
    obtain ⟨n, ho, q⟩ := q
    intro p e R s m args below meth c c0 n0 hX hc H locs arr hR hL hA
    have kk := hK _ _ _ _ q p e R s m args below meth c c0 n0 hX hc H locs arr hR hL hA
    rcases ho with ⟨k, f, ho, hk3⟩ | ⟨f, ho⟩
    · have hcell : H[a]? = some (arrV (zd_aK B k) n (fun j => .int (f j))) := by
        have := hR.2.1 a ho.1
        rw [ho.2] at this
        exact this
      have hz : (arrV (zd_aK B k) n (fun j => .int (f j))).slots.size.toInt32 = nI n := by rw [arrV_size]; rfl
      rcases (show k = 0 ∨ k = 1 ∨ k = 2 by omega) with rfl | rfl | rfl
      · exact W.alen hX.1 hX.2.1 hcell (zd_arr hG hX (k := 0) rfl n _) hz rfl rfl hd kk
      · exact W.alen hX.1 hX.2.1 hcell (zd_arr hG hX (k := 1) rfl n _) hz rfl rfl hd kk
      · exact W.alen hX.1 hX.2.1 hcell (zd_arr hG hX (k := 2) rfl n _) hz rfl rfl hd kk
    · obtain ⟨cell, a1, a2, a3, a4, a5, a6⟩ := ho
      have hla : a < zd_b0 B := (Array.getElem?_eq_some_iff.mp a1).1
      exact W.alen hX.1 hX.2.1 ((hR.2.2 a hla).trans a1) (State.isArrayOf_alike hX.2.2.2.2.2.2.2.1.alike a2) a4 rfl rfl hd kk
  · exact q.elim
/-- the table of the powers of ten -/
def oc_tens (B : zd_B) (nx : Nat) : zd_S := fun K ls st h _ => K nx ls (.ref (zd_tT B) :: st) h
theorem zd_zt (hG : zd_G B) {p : Program} {R : Room} {s : State} {m : MethodId} {meth : Method} {c : Code} {c0 n0 : Nat} (hX : zd_X B y p R s m meth c c0 n0) {h : zd_H} {H : Heap} (hR : zd_R B h H) :
    va_Z "DecimalDesk" "TENS" "[I" (.ref (zd_tT B)) (fun q => zd_b0 B ≤ q) s H := va_Z.moved hX.2.2.2.2.2.2.2.1.alike (va_Z.kept hG.2.2.2.1 (fun a h1 _ => hR.2.2 a h1))
theorem ok_tens (hG : zd_G B) {idx : Nat} (hl : Cond.fieldLink (zd_yn y).cls idx "DecimalDesk" "TENS" "[I" ∈ lw_tbl) (hd : decode (zd_yb y) pc = .ok (.getstatic idx, 3)) : zd_ok l B y pc (oc_tens B (pc + 3)) := by
  intro K ls st h Q hK q
  intro p e R s m args below meth c c0 n0 hX hc H locs arr hR hL hA
  obtain ⟨cf, kf, fi, f, a, cell, h1, h2, h3, h4, h5, h6, h7, h8⟩ := zd_zt hG hX hR
  exact W.gets hX.1 hX.2.1 (zd_own hX) (zd_wd hG hX hl (Or.inl (by first | rfl | simp [Cond.onTables, Cond.keeps, Cond.steady])) args) h1 h2 h3 h4 h5 (fun e => by rw [e] at h6; cases h6) h7 rfl hd (hK _ _ _ _ q p e R s m args below meth c c0 n0 hX hc H locs arr hR hL hA)
theorem ok_tensN (hG : zd_G B) {idx : Nat} {host : String} (hl : Cond.fieldLinkNest (zd_yn y).cls idx "DecimalDesk" "TENS" "[I" host ∈ lw_tbl) (hd : decode (zd_yb y) pc = .ok (.getstatic idx, 3)) : zd_ok l B y pc (oc_tens B (pc + 3)) := by
  intro K ls st h Q hK q
  intro p e R s m args below meth c c0 n0 hX hc H locs arr hR hL hA
  obtain ⟨cf, kf, fi, f, a, cell, h1, h2, h3, h4, h5, h6, h7, h8⟩ := zd_zt hG hX hR
  exact va_WgetsN hX.1 hX.2.1 (zd_own hX) (va_Nw.use rfl (va_Nw.warmF hX.2.2.2.2.2.2.2.1 (va_Nw.of rfl (hG.1 _ hl)))) h1 h2 h3 h4 h5 (fun e => by rw [e] at h6; cases h6) h7 rfl hd (hK _ _ _ _ q p e R s m args below meth c c0 n0 hX hc H locs arr hR hL hA)
theorem ok_ldc (hG : zd_G B) {idx : Nat} {v : Int32} (hl : Cond.constant (zd_yn y).cls idx v ∈ lw_tbl) (hd : decode (zd_yb y) pc = .ok (.ldc idx, 2)) : zd_ok l B y pc (oc_ci v (pc + 2)) := by
  intro K ls st h Q hK q
  intro p e R s m args below meth c c0 n0 hX hc H locs arr hR hL hA
  exact lv_ldc hX.1 hX.2.1 (zd_own hX) (zd_wd hG hX hl (Or.inl (by first | rfl | simp [Cond.onTables, Cond.keeps, Cond.steady])) args) hd (hK _ _ _ _ q p e R s m args below meth c c0 n0 hX hc H locs arr hR hL hA)
theorem ok_ldc2 (hG : zd_G B) {idx : Nat} {v : Int64} (hl : Cond.constantLong (zd_yn y).cls idx v ∈ lw_tbl) (hd : decode (zd_yb y) pc = .ok (.ldc2_w idx, 3)) : zd_ok l B y pc (oc_cl v (pc + 3)) := by
  intro K ls st h Q hK q
  intro p e R s m args below meth c c0 n0 hX hc H locs arr hR hL hA
  exact lv_ldc2 hX.1 hX.2.1 (zd_own hX) (zd_wd hG hX hl (Or.inl (by first | rfl | simp [Cond.onTables, Cond.keeps, Cond.steady])) args) hd (hK _ _ _ _ q p e R s m args below meth c c0 n0 hX hc H locs arr hR hL hA)
theorem ok_iincW {i : Nat} {n : Int} {d : Int32} (hd : decode (zd_yb y) pc = .ok (.iinc i n, 6)) (hn : i < zd_yl y) (hv : Int32.ofInt n = d) : zd_ok l B y pc (oc_iinc i d (pc + 6)) := by
  intro K ls st h Q hK q
  unfold oc_iinc at q
  split at q
  · rename_i x hx
    intro p e R s m args below meth c c0 n0 hX hc H locs arr hR hL hA
    obtain ⟨k, hk⟩ := List.getElem?_of_mem (zd_lp_mem.mpr hx)
    exact lv_iincW (lv := zd_lp ls) hX.1 hX.2.1 hd hA.has hk (by rw [hv]) hn rfl (fun arr' hl' => hK _ _ _ _ (zd_fl_eq q) p e R s m args below meth c c0 n0 hX hc H locs arr' hR hL (zd_Lh.st1 hl'))
  · exact q.elim
/-- a switch: the cases one by one -/
def zd_sw (K : zd_K) (ls : zd_V) (r : List Value) (h : zd_H) (x : Int32) (df : Nat) : List (Int × Nat) → Prop
  | [] => K df ls r h
  | q :: cs => (x = Int32.ofInt q.1 → K q.2 ls r h) ∧ (¬ x = Int32.ofInt q.1 → zd_sw K ls r h x df cs)
def oc_sw (cs : List (Int × Nat)) (df : Nat) : zd_S := fun K ls st h _ => match st with
  | .int x :: r => zd_sw K ls r h x df cs
  | _ => False
theorem zd_sw_in {K : zd_K} {ls : zd_V} {r : List Value} {h : zd_H} {x : Int32} {df : Nat} {cs : List (Int × Nat)} (q : zd_sw K ls r h x df cs) : (∃ c ∈ cs, x = Int32.ofInt c.1 ∧ K c.2 ls r h) ∨ ((∀ c ∈ cs, ¬ x = Int32.ofInt c.1) ∧ K df ls r h) := by
  induction cs with
  | nil => exact Or.inr ⟨fun c hc => (by cases hc), q⟩
  | cons a cs ih =>
    by_cases e : x = Int32.ofInt a.1
    · exact Or.inl ⟨a, List.mem_cons_self, e, q.1 e⟩
    · rcases ih (q.2 e) with ⟨c, hc, e1, e2⟩ | ⟨h1, h2⟩
      · exact Or.inl ⟨c, List.mem_cons_of_mem _ hc, e1, e2⟩
      · exact Or.inr ⟨fun c hc => (List.mem_cons.mp hc).elim (fun z => by rw [z]; exact e) (h1 c), h2⟩
/-- the table's rows are the switch's cases -/
def zd_swok (pc : Nat) (lo hi : Int) (offs : Array Int) (cs : List (Int × Nat)) : Prop := (cs.map (fun c => c.1) = (List.range cs.length).map (fun (i : Nat) => lo + (i : Int))) ∧ hi = lo + (cs.length : Int) - 1 ∧ (∀ i, i < cs.length → (offs[i]?.map (fun o => (pc : Int) + o)) = (cs[i]?.map (fun c => (c.2 : Int)))) ∧ -1000 < lo ∧ hi < 1000
theorem ok_sw {df0 lo hi : Int} {offs : Array Int} {len df : Nat} {cs : List (Int × Nat)} (hd : decode (zd_yb y) pc = .ok (.tableswitch df0 lo hi offs, len)) (hdf : (pc : Int) + df0 = (df : Int)) (hs : zd_swok pc lo hi offs cs) : zd_ok l B y pc (oc_sw cs df) := by
  intro K ls st h Q hK q
  unfold oc_sw at q
  split at q
  · rename_i x r
    intro p e R s m args below meth c c0 n0 hX hc H locs arr hR hL hA
    obtain ⟨s1, s2, s3, s4, s5⟩ := hs
    have key : ∀ i, i < cs.length → ∃ c, cs[i]? = some c ∧ c ∈ cs ∧ c.1 = lo + (i : Int) := by
      intro i hi
      refine ⟨cs[i], List.getElem?_eq_getElem hi, List.getElem_mem hi, ?_⟩
      have h1 : (cs.map (fun c => c.1))[i]? = some cs[i].1 := by simp [hi]
      rw [s1] at h1
      simp [hi] at h1
      exact h1.symm
    rcases zd_sw_in q with ⟨cc, hcc, e1, e2⟩ | ⟨h1, h2⟩
    · obtain ⟨i, hi, hci⟩ := List.mem_iff_getElem.mp hcc
      obtain ⟨c', e3, -, e4⟩ := key i hi
      have e5 : c' = cc := by rw [List.getElem?_eq_getElem hi, hci] at e3; exact (Option.some.inj e3).symm
      subst e5
      have hx : x.toInt = c'.1 := by rw [e1]; exact Int32.toInt_ofInt_of_le (by omega) (by omega)
      have h3 := s3 i hi
      rw [e3] at h3
      obtain ⟨o, ho⟩ : ∃ o, offs[i]? = some o := by
        cases hq : offs[i]? with
        | none => rw [hq] at h3; cases h3
        | some o => exact ⟨o, rfl⟩
      rw [ho] at h3
      exact lv_tableIn hX.1 hX.2.1 hd (by omega) (by omega) (by rw [hx, e4, show (lo + (i : Int) - lo).toNat = i by omega]; exact ho) (Option.some.inj h3) (hK _ _ _ _ e2 p e R s m args below meth c c0 n0 hX hc H locs arr hR hL hA)
    · refine lv_tableOut hX.1 hX.2.1 hd ?_ hdf (hK _ _ _ _ h2 p e R s m args below meth c c0 n0 hX hc H locs arr hR hL hA)
      by_cases ha : x.toInt < lo
      · exact Or.inl ha
      · refine Or.inr (Int.not_le.mp fun hb => ?_)
        obtain ⟨c', e3, e4, e5⟩ := key (x.toInt - lo).toNat (by omega)
        refine h1 c' e4 ?_
        rw [e5, show lo + ((x.toInt - lo).toNat : Int) = x.toInt by omega]
        exact (Int32.ofInt_toInt x).symm
  · exact q.elim
end ZN
end
section
/-! a throw: new, dup, the text, the constructor, athrow (launches without stack traces) -/
theorem zx_lays {C n d : String} {a0 args : Array Value} {s0 s : State} (h : (Cond.laysStatic C n d).before a0 s0 = true) (hW : s0.WarmedH s.vm) (hh : ∀ q, q < s0.heap.size → s.heap[q]? = s0.heap[q]?) : (Cond.laysStatic C n d).before args s = true := by
  obtain ⟨c, k, i, f, a, cell, h1, h2, h3, h4, h5, h6, h7, h8, h9⟩ := Cond.laysStatic_spec h
  obtain ⟨k', hi', he⟩ := State.fieldFound?_setVm hW.alike h2
  show (Cond.laysStatic C n d).holds args s none s [] = true
  exact Cond.laysStatic_of (by rw [hW.alike.findClass]; exact h1) hi' h3 (by rw [he]; exact h4) (by rw [hh a (Array.getElem?_eq_some_iff.mp h5).1]; exact h5) h6 h7 h8 (by rw [he]; exact h9)
theorem zx_ref1 {C n d : String} {v : Value} {A : Nat → Prop} {s : State} {args : Array Value} (h : va_Z C n d v A s s.heap) (hv : v.isRef = true) : (Cond.isRef (.static C n d)).before args s = true := by
  obtain ⟨cf, kf, fi, f, a, cell, h1, h2, h3, h4, h5, h6, h7, -⟩ := h
  have he : (Term.static C n d).eval args s none [] s = some v := by
    simp [Term.eval, State.fieldNamed?, h1, h2, h4, h5, h6, h7]
  simp only [Cond.before, Cond.holds, Cond.value, he]
  cases v <;> simp_all [Value.isRef]
theorem zx_ref {C n d : String} {a0 args : Array Value} {s0 s : State} (hl : (Cond.laysStatic C n d).before a0 s0 = true) (hi : (Cond.initialized C).before a0 s0 = true) (h : (Cond.isRef (.static C n d)).before a0 s0 = true) (hW : s0.WarmedH s.vm) (hh : ∀ q, q < s0.heap.size → s.heap[q]? = s0.heap[q]?) : (Cond.isRef (.static C n d)).before args s = true := by
  have h1 : va_Zq C n d (fun q => s0.heap.size ≤ q) s0 s0.heap := va_Zqof hl hi h (fun a ha hb => by omega)
  have h2 : va_Zq C n d (fun q => s0.heap.size ≤ q) s s.heap := va_Zq.moved hW.alike (h1.kept (fun a ha _ => hh a ha))
  rcases h2 with h2 | ⟨t, h2⟩
  · exact zx_ref1 h2 rfl
  · exact zx_ref1 h2 rfl
def zx_nm : List String := ["java/lang/RuntimeException", "java/lang/Exception"]
/-- the words of a throw of X, but the constructor's link -/
def zx_pre (X : String) : List Cond := Jvm.Bundle.throwableAtoms ++ Jvm.Bundle.throwableSAtoms ++ Jvm.Bundle.chainSAtoms X zx_nm
def zx_rest (X : String) : List Cond := zx_pre X ++ (Jvm.Bundle.ownAtoms "" 0 X zx_nm).drop ((zx_pre X).length + 1)
def zx_cast (w : Cond) : Bool := match w with
  | .castable _ _ => true
  | .declares _ => true
  | _ => false
def zx_ck (w : Cond) : Bool := decide (w ∈ zd_hw) || (decide (w ∈ lw_tbl) && ((w.onTables && w.keeps) || zx_cast w))
theorem zx_in {own : String} {ic : Nat} {X : String} {w : Cond} (h : w ∈ Jvm.Bundle.ownAtoms own ic X zx_nm) : w = .methodLink own ic (Jvm.Bundle.initS X) ∨ w ∈ zx_rest X := by
  unfold Jvm.Bundle.ownAtoms at h
  rcases List.mem_append.mp h with h | h
  · exact Or.inr (List.mem_append_left _ h)
  · rcases List.mem_cons.mp h with h | h
    · exact Or.inl h
    · refine Or.inr (List.mem_append_right _ ?_)
      unfold Jvm.Bundle.ownAtoms
      rw [show Jvm.Bundle.throwableAtoms ++ Jvm.Bundle.throwableSAtoms ++ Jvm.Bundle.chainSAtoms X zx_nm = zx_pre X from rfl, List.drop_append, show (zx_pre X).length + 1 - (zx_pre X).length = 1 by omega]
      exact List.mem_append_right _ h
/-- a frame seen from the heap as it is -/
theorem zx_rebase {p : Program} {l : Launch} {e : Env} {R : Room} {s : State} {m : MethodId} {args : Array Value} {below : List Frame} {meth : Method} {c : Code} {T : State} {locs : List Loc} {cells slots : Nat} (X : Stand p l e R s m args below meth c T locs cells slots) {R' : Room} (hf : R'.frames ≤ R.frames) (hl : R'.locals ≤ R.locals) (hc : cells + R'.cells ≤ R.cells) (hs : slots + R'.slots ≤ R.slots) :
    Stand p l e R' ((T.setVm s.vm).setFrames (.invoking m args :: below)) m args below meth c T [] 0 0 := by
  have htop : (T.setVm s.vm).topJava?.isSome := X.here.top
  have hF : ((T.setVm s.vm).setFrames (.invoking m args :: below)).frames = .invoking m args :: below := State.frames_setFrames _ (State.cur_lt_of_top htop)
  obtain ⟨g₀, hg0⟩ := Option.isSome_iff_exists.mp htop
  obtain ⟨r, hr⟩ := State.topJava?_eq_some.mp hg0
  have hl9 : e.platform.stackLimits (T.setVm s.vm).me = e.platform.stackLimits s.me := X.limits
  have hb9 : (T.setVm s.vm).me.stackBytes = s.me.stackBytes := X.bytes
  refine ⟨X.admits, X.cas, X.clock, hF, ?_, X.hears, X.method, X.code, X.here, X.tail, X.warmed, ?_, ?_, ?_⟩
  · have h := X.room
    have hU : ((T.setVm s.vm).setFrames (.invoking m args :: below)).localsInUse = s.localsInUse := by
      rw [State.localsInUse_invoking hF (meth := meth) (c := c) X.method X.code, State.localsInUse_invoking X.frames X.method X.code]
    simp only [State.hasRoom, Bool.and_eq_true, decide_eq_true_eq] at h ⊢
    obtain ⟨⟨⟨⟨h1, h2, h3, h4, h5, h6⟩, h7⟩, h8⟩, h9⟩ := h
    rw [X.frames, List.length_cons] at h2 h3
    have q1 := X.heapSize
    have q2 := X.used
    simp only [hF, hU, List.length_cons, State.stackLimits_setFrames, State.stackBytes_setFrames, hl9, hb9]
    refine ⟨⟨⟨⟨by omega, by omega, by omega, by omega, by omega, h6⟩, ?_⟩, ?_⟩, X.book⟩
    · show T.heap.size + R'.cells ≤ e.platform.maxCells
      omega
    · show T.slotsUsed + R'.slots ≤ e.platform.maxSlots
      omega
  · rw [State.stackLimits_setFrames]; rfl
  · rw [State.stackBytes_setFrames]; rfl
  · refine ⟨?_, Nat.le_refl _, Nat.le_refl _, ?_, ?_, fun a c9 h9 => ⟨c9, h9, rfl, rfl, fun _ _ => rfl⟩⟩
    · obtain ⟨t, ht, -⟩ := State.frames_cons hr
      show T.setVm s.vm = { ((T.setVm s.vm).setFrames (.invoking m args :: below)).setFrames (T.setVm s.vm).frames with heap := T.heap, slotsUsed := T.slotsUsed }
      rw [State.setFrames_setFrames, State.setFrames_self ht]
      rfl
    · show T.slotsUsed = T.slotsUsed + ((T.heap.toList.drop T.heap.size).map (·.slots.size)).sum
      rw [List.drop_eq_nil_of_le (Nat.le_of_eq Array.length_toList)]
      rfl
    · show ((T.heap.toList.drop T.heap.size).map (·.slots.size)).sum ≤ 0
      rw [List.drop_eq_nil_of_le (Nat.le_of_eq Array.length_toList)]
      exact Nat.le_refl _
theorem zx_frame {s U : State} {k n : Nat} (h : s.sameButNew ({ U with vm := s.vm } : State) [] k n) : s.heap.size ≤ U.heap.size ∧ U.heap.size ≤ s.heap.size + k ∧ ∀ q : Nat, q < s.heap.size → U.heap[q]? = s.heap[q]? := by
  obtain ⟨-, h2, h3, -, -, h6⟩ := h
  refine ⟨h2, h3, fun q hq => ?_⟩
  obtain ⟨c9, e1, e2, e3, e4⟩ := h6 q _ (Array.getElem?_eq_getElem hq)
  have hs : c9.slots = (s.heap[q]).slots := Array.ext_getElem? fun i => e4 i (fun hm => by cases hm)
  have h9 : c9 = s.heap[q] := by
    rw [hs] at e2
    exact e2
  have e5 : U.heap[q]? = some c9 := e1
  rw [e5, h9, Array.getElem?_eq_getElem hq]
/-- the static facts of a throw in a class -/
def zx_F (own : String) (ik is ic : Nat) (X text : String) : Prop := Cond.classLink own ik X ∈ lw_tbl ∧ Cond.initialized X ∈ lw_tbl ∧ Cond.stringRef own is text ∈ lw_tbl ∧ Cond.methodLink own ic (Jvm.Bundle.initS X) ∈ lw_tbl
/-- .. of the exception's class -/
def zx_E (ci : Nat) (X : String) : Prop := Jvm.Bundle.fit X = true ∧ (∀ n ∈ zx_nm, Jvm.Bundle.fit n = true) ∧ ((zx_rest X).all zx_ck = true) ∧ Cond.initialized "java/lang/Throwable" ∈ lw_tbl ∧ (∃ T : u_T, zd_cl[ci]? = some (X, T, 0))
section ZX
variable {l : Launch} {B : zd_B} {y : zd_Y} {pc : Nat}
def oc_throw (B : zd_B) (ci : Nat) : zd_S := fun _ _ st h Q => ((st.map fun v => v.category).sum ≤ 8 ∧ h.1 + 1 ≤ zd_CB ∧ h.2.1 + 6 ≤ zd_SB) ∧ Q (.inr (zd_b0 B + h.1, ci)) (zd_push h (zd_b0 B + h.1) (.inl (ci, [])) 6) ∧ True
theorem zx_words (hG : zd_G B) {p : Program} {R : Room} {s s' : State} {m : MethodId} {meth : Method} {c : Code} {c0 n0 : Nat} (hX : zd_X B y p R s m meth c c0 n0) (hvm : s'.vm = s.vm) (hh : ∀ q, q < zd_b0 B → s'.heap[q]? = (zd_s0 B).heap[q]?) {X : String} {ci ik is ic : Nat} {tx : String} (hF : zx_F (zd_yn y).cls ik is ic X tx) (hE : zx_E ci X) (args : Array Value) : ∀ w ∈ Jvm.Bundle.ownAtoms (zd_yn y).cls ic X zx_nm, w.before args s' = true := by
  have hW : (zd_s0 B).WarmedH s'.vm := by rw [hvm]; exact hX.2.2.2.2.2.2.2.1
  have hw : ∀ w, w ∈ lw_tbl → ((w.onTables && w.keeps) = true ∨ zx_cast w = true) → w.before args s' = true := by
    intro w h1 h2
    rcases h2 with h2 | h2
    · exact word_at hW (Or.inl h2) (hG.1 w h1)
    · unfold zx_cast at h2
      split at h2
      · exact va_Nw.use rfl (va_Nw.warmC hW (va_Nw.of rfl (hG.1 _ h1)))
      · exact va_Nw.use rfl (va_Nw.warmD hW (va_Nw.of rfl (hG.1 _ h1)))
      · cases h2
  have hini := hG.1 _ hE.2.2.2.1
  have hhw : ∀ w, w ∈ zd_hw → w.before args s' = true := by
    intro w h1
    have g1 := hG.2.2.2.2.2.2 (.laysStatic "java/lang/Throwable" "UNASSIGNED_STACK" "[Ljava/lang/StackTraceElement;") (by simp [zd_hw])
    have g2 := hG.2.2.2.2.2.2 (.laysStatic "java/lang/Throwable" "SUPPRESSED_SENTINEL" "Ljava/util/List;") (by simp [zd_hw])
    have g3 := hG.2.2.2.2.2.2 (.isRef (.static "java/lang/Throwable" "UNASSIGNED_STACK" "[Ljava/lang/StackTraceElement;")) (by simp [zd_hw])
    have g4 := hG.2.2.2.2.2.2 (.isRef (.static "java/lang/Throwable" "SUPPRESSED_SENTINEL" "Ljava/util/List;")) (by simp [zd_hw])
    unfold zd_hw at h1
    simp only [List.mem_cons, List.not_mem_nil, or_false] at h1
    rcases h1 with rfl | rfl | rfl | rfl
    · exact zx_ref g1 hini g3 hW hh
    · exact zx_ref g2 hini g4 hW hh
    · exact zx_lays g1 hW hh
    · exact zx_lays g2 hW hh
  intro w hww
  rcases zx_in hww with h | h
  · rw [h]
    exact hw _ hF.2.2.2 (Or.inl (by first | rfl | simp [Cond.onTables, Cond.keeps, Cond.steady]))
  · have h2 := List.all_eq_true.mp hE.2.2.1 w h
    unfold zx_ck at h2
    rw [Bool.or_eq_true, Bool.and_eq_true, Bool.or_eq_true, decide_eq_true_eq, decide_eq_true_eq] at h2
    rcases h2 with h2 | ⟨h2, h3⟩
    · exact hhw w h2
    · exact hw w h2 h3
theorem ok_throw (hG : zd_G B) (hl : l.stackTraces = false) {ci ik is ic : Nat} {X tx : String} (hE : zx_E ci X) (hF : zx_F (zd_yn y).cls ik is ic X tx) (hh : zd_yh y = []) (hfr : 6 ≤ zd_yf y) (hwo : 90 ≤ zd_yw y) (d0 : decode (zd_yb y) pc = .ok (.new ik, 3)) (d3 : decode (zd_yb y) (pc + 3) = .ok (.dup, 1)) (d4 : decode (zd_yb y) (pc + 4) = .ok (.ldc is, 2)) (d6 : decode (zd_yb y) (pc + 6) = .ok (.invokespecial ic, 3)) (d9 : decode (zd_yb y) (pc + 9) = .ok (.athrow, 1)) : zd_ok l B y pc (oc_throw B ci) := by
  intro K ls st h Q hK q
  obtain ⟨⟨qs, q1, q2⟩, hq, -⟩ := q
  intro p e R s m args below meth c c0 n0 hX hc H locs arr hR hL hA T hT X1
  subst hT
  have b0 := hX.2.2.2.2.2.2.2.2.2.1
  have b00 := hX.2.2.2.2.2.2.2.2.2.2.1
  have b1 := hX.2.2.2.2.2.2.2.2.2.2.2.1
  have b2 := hX.2.2.2.2.2.2.2.2.2.2.2.2.1
  have hexec := hX.1
  have hb := hX.2.1
  have htr : e.platform.stackTraces = false := (show e.platform.stackTraces = l.stackTraces by rw [X1.admits.platform]).trans hl
  have Y := zx_rebase X1 (R' := { frames := R.frames, locals := R.locals, cells := 1, slots := 6 }) (Nat.le_refl _) (Nat.le_refl _) (by show h.1 - c0 + 1 ≤ R.cells; omega) (by show h.2.1 - n0 + 6 ≤ R.slots; omega)
  obtain ⟨s', hs'⟩ : ∃ z, z = (T.setVm s.vm).setFrames (.invoking m args :: below) := ⟨_, rfl⟩
  rw [← hs'] at Y
  have hvm : s'.vm = s.vm := by rw [hs']; rfl
  have hhp : s'.heap = T.heap := by rw [hs']; rfl
  have hW0 : s.WarmedH s'.vm := by rw [hvm]; exact State.WarmedH.refl s
  have hws := zx_words hG hX hvm (fun q hq => by rw [hhp]; exact hR.2.2 q hq) hF hE args
  have hWs' : (zd_s0 B).WarmedH s'.vm := by rw [hvm]; exact hX.2.2.2.2.2.2.2.1
  have hk' : (Cond.classLink (zd_yn y).cls ik X).before args s' = true := word_at hWs' (Or.inl (by first | rfl | simp [Cond.onTables, Cond.keeps, Cond.steady])) (hG.1 _ hF.1)
  have hini' : (Cond.initialized X).before args s' = true := word_at hWs' (Or.inl (by first | rfl | simp [Cond.onTables, Cond.keeps, Cond.steady])) (hG.1 _ hF.2.1)
  obtain ⟨sa, hstr⟩ := hG.2.2.2.2.2.1 _ _ _ hF.2.2.1
  have hstr' : vk_R (zd_yn y).cls is tx sa s' := vk_R.warm hWs' hstr
  have hown' : s'.vm.findClass (zd_yn y).cls = some m.cls := by rw [hvm]; exact zd_own hX
  have hins : (Cond.instantiable X 6).before args s' = true := hws _ (by simp [Jvm.Bundle.ownAtoms])
  obtain ⟨vm₁, cX, kX, hfX, hkX, -, -, X₁, st1⟩ := Y.newCold hexec (own := (zd_yn y).cls) (C := X) (index := ik) (n := 6) hown' hk' hins hini'
    (g := F0 m pc arr st) rfl (by rw [hb]; exact d0) (Nat.le_refl _) (Nat.le_refl _)
  generalize hT1 : (T.setVm vm₁).pushCell { cls := cX, slots := kX.instanceTypes.map defaultValue, vm := .none } = T1 at X₁ st1
  have hcat : (Value.ref T.heap.size).category = 1 := rfl
  have hcellA : T1.heap[T.heap.size]? = some (freshCell cX kX) := by rw [← hT1]; exact State.heap_pushCell_size _ _
  have d3' : decode c.code (pc + 3) = .ok (.dup, 1) := by rw [hb]; exact d3
  have d4' : decode c.code (pc + 4) = .ok (.ldc is, 2) := by rw [hb]; exact d4
  obtain ⟨U, hsteps, hrun, hend, hW, hsame, ce, hce, hO⟩ := X₁.ctorThrowS hexec htr (own := (zd_yn y).cls) (cls := X) (names := zx_nm) (ic := ic) hown' hE.1 hE.2.1 hws (fun x hx => nomatch hx) hfX hkX hcellA (by rw [hhp]; exact Nat.le_refl _) (msg := .ref sa) rfl
    (g := { method := m, pc := pc + 6, locals := arr, stack := .ref sa :: .ref T.heap.size :: .ref T.heap.size :: st, locked := none }) rfl (hA.1.trans hX.2.2.1.symm) rfl rfl (rest := st) rfl
    (by rw [hb]; exact d6) (by rw [hb]; exact d9) (zd_nohand hX hh _) (by show 2 + 3 < R.frames; omega) (by show 2 * 0 + _ + (13 * (2 + 1) + 42) ≤ R.locals; simp only [List.map_cons, List.sum_cons, hcat]; omega) hX.2.2.2.2.1
  obtain ⟨f1, f2, f3⟩ := zx_frame hsame
  rw [hhp] at f1 f2 f3
  have hWs : s.WarmedH U.vm := State.WarmedH.trans hW0 hW
  have hcl : s.vm.findClass X = some ce.cls := by
    have h9 := hO.cls
    rw [hvm] at h9
    exact h9
  have hall : s.sameButNew ({ U with vm := s.vm } : State) locs (h.1 - c0 + 1) (h.2.1 - n0 + 6) := by
    subst hs'
    obtain ⟨e1, e2⟩ := hsame
    rw [State.setFrames_setFrames] at e1
    have h2 : (T.setVm s.vm).sameButNew ({ U with vm := s.vm } : State) [] (0 + 1) (0 + 6) := ⟨e1, e2⟩
    have h3 := X1.same.trans h2
    rw [List.append_nil] at h3
    exact h3
  have hlt : T.heap.size < U.heap.size := (Array.getElem?_eq_some_iff.mp hce).1
  obtain ⟨Tt, hcl0⟩ := hE.2.2.2.2
  have hfc : s.vm.findClass X = some (zd_dC B ci) := ((zd_kn hG hX).1 ci _ hcl0).2.1
  have hT0 : T.heap.size = zd_b0 B + h.1 := hR.1
  have hR' : zd_R B (zd_push h (zd_b0 B + h.1) (.inl (ci, [])) 6) U.heap := by
    refine zd_R.push hR hT0 ⟨_, hcl0, ce, by rw [← hT0]; exact hce, Option.some.inj (hcl.symm.trans hfc), hO.vm, fun k hk => absurd hk (Nat.not_lt_zero k)⟩ (by omega) (fun q hq => f3 q (by omega))
  refine ⟨U, ?_, .threw T.heap.size, .inr (zd_b0 B + h.1, ci), _, hrun, hend, by show Outcome.threw T.heap.size = Outcome.threw (zd_b0 B + h.1); rw [hT0], hq, ?_, ⟨by show c0 ≤ h.1 + 1; omega, by show n0 ≤ h.2.1 + 6; omega, q1, q2⟩, hR', hWs, locs, hL, ?_⟩
  · refine st1 _ ?_
    show Steps p.tables e below (T1.setTop { method := m, pc := pc + 3, locals := arr, stack := .ref T.heap.size :: st, locked := none }) _
    jvm_step X₁.here [X₁.here.top, hexec, d3', Value.category]
    exact X₁.ldcString hexec (own := (zd_yn y).cls) (text := tx) (index := is) (a := sa) hown' hstr'.1 hstr'.2
      (g := { method := m, pc := pc + 4, locals := arr, stack := .ref T.heap.size :: .ref T.heap.size :: st, locked := none }) rfl d4' _ hsteps
  · intro z hz
    cases hz
    refine ⟨[], ⟨by show zd_b0 B ≤ zd_b0 B + h.1; omega, by show zd_b0 B + h.1 < zd_b0 B + (h.1 + 1); omega⟩, ?_⟩
    show (if zd_b0 B + h.1 = zd_b0 B + h.1 then _ else _) = _
    rw [if_pos rfl]
  · show s.sameButNew _ locs (h.1 + 1 - c0) (h.2.1 + 6 - n0)
    rw [show h.1 + 1 - c0 = h.1 - c0 + 1 by omega, show h.2.1 + 6 - n0 = h.2.1 - n0 + 6 by omega]
    exact hall
theorem ok_throwW (hG : zd_G B) (hl : l.stackTraces = false) {ci ik is ic : Nat} {X tx : String} (hE : zx_E ci X) (hF : zx_F (zd_yn y).cls ik is ic X tx) (hh : zd_yh y = []) (hfr : 6 ≤ zd_yf y) (hwo : 90 ≤ zd_yw y) (d0 : decode (zd_yb y) pc = .ok (.new ik, 3)) (d3 : decode (zd_yb y) (pc + 3) = .ok (.dup, 1)) (d4 : decode (zd_yb y) (pc + 4) = .ok (.ldc_w is, 3)) (d6 : decode (zd_yb y) (pc + 7) = .ok (.invokespecial ic, 3)) (d9 : decode (zd_yb y) (pc + 10) = .ok (.athrow, 1)) : zd_ok l B y pc (oc_throw B ci) := by
  intro K ls st h Q hK q
  obtain ⟨⟨qs, q1, q2⟩, hq, -⟩ := q
  intro p e R s m args below meth c c0 n0 hX hc H locs arr hR hL hA T hT X1
  subst hT
  have b0 := hX.2.2.2.2.2.2.2.2.2.1
  have b00 := hX.2.2.2.2.2.2.2.2.2.2.1
  have b1 := hX.2.2.2.2.2.2.2.2.2.2.2.1
  have b2 := hX.2.2.2.2.2.2.2.2.2.2.2.2.1
  have hexec := hX.1
  have hb := hX.2.1
  have htr : e.platform.stackTraces = false := (show e.platform.stackTraces = l.stackTraces by rw [X1.admits.platform]).trans hl
  have Y := zx_rebase X1 (R' := { frames := R.frames, locals := R.locals, cells := 1, slots := 6 }) (Nat.le_refl _) (Nat.le_refl _) (by show h.1 - c0 + 1 ≤ R.cells; omega) (by show h.2.1 - n0 + 6 ≤ R.slots; omega)
  obtain ⟨s', hs'⟩ : ∃ z, z = (T.setVm s.vm).setFrames (.invoking m args :: below) := ⟨_, rfl⟩
  rw [← hs'] at Y
  have hvm : s'.vm = s.vm := by rw [hs']; rfl
  have hhp : s'.heap = T.heap := by rw [hs']; rfl
  have hW0 : s.WarmedH s'.vm := by rw [hvm]; exact State.WarmedH.refl s
  have hws := zx_words hG hX hvm (fun q hq => by rw [hhp]; exact hR.2.2 q hq) hF hE args
  have hWs' : (zd_s0 B).WarmedH s'.vm := by rw [hvm]; exact hX.2.2.2.2.2.2.2.1
  have hk' : (Cond.classLink (zd_yn y).cls ik X).before args s' = true := word_at hWs' (Or.inl (by first | rfl | simp [Cond.onTables, Cond.keeps, Cond.steady])) (hG.1 _ hF.1)
  have hini' : (Cond.initialized X).before args s' = true := word_at hWs' (Or.inl (by first | rfl | simp [Cond.onTables, Cond.keeps, Cond.steady])) (hG.1 _ hF.2.1)
  obtain ⟨sa, hstr⟩ := hG.2.2.2.2.2.1 _ _ _ hF.2.2.1
  have hstr' : vk_R (zd_yn y).cls is tx sa s' := vk_R.warm hWs' hstr
  have hown' : s'.vm.findClass (zd_yn y).cls = some m.cls := by rw [hvm]; exact zd_own hX
  have hins : (Cond.instantiable X 6).before args s' = true := hws _ (by simp [Jvm.Bundle.ownAtoms])
  obtain ⟨vm₁, cX, kX, hfX, hkX, -, -, X₁, st1⟩ := Y.newCold hexec (own := (zd_yn y).cls) (C := X) (index := ik) (n := 6) hown' hk' hins hini'
    (g := F0 m pc arr st) rfl (by rw [hb]; exact d0) (Nat.le_refl _) (Nat.le_refl _)
  generalize hT1 : (T.setVm vm₁).pushCell { cls := cX, slots := kX.instanceTypes.map defaultValue, vm := .none } = T1 at X₁ st1
  have hcat : (Value.ref T.heap.size).category = 1 := rfl
  have hcellA : T1.heap[T.heap.size]? = some (freshCell cX kX) := by rw [← hT1]; exact State.heap_pushCell_size _ _
  have d3' : decode c.code (pc + 3) = .ok (.dup, 1) := by rw [hb]; exact d3
  have d4' : decode c.code (pc + 4) = .ok (.ldc_w is, 3) := by rw [hb]; exact d4
  obtain ⟨U, hsteps, hrun, hend, hW, hsame, ce, hce, hO⟩ := X₁.ctorThrowS hexec htr (own := (zd_yn y).cls) (cls := X) (names := zx_nm) (ic := ic) hown' hE.1 hE.2.1 hws (fun x hx => nomatch hx) hfX hkX hcellA (by rw [hhp]; exact Nat.le_refl _) (msg := .ref sa) rfl
    (g := { method := m, pc := pc + 7, locals := arr, stack := .ref sa :: .ref T.heap.size :: .ref T.heap.size :: st, locked := none }) rfl (hA.1.trans hX.2.2.1.symm) rfl rfl (rest := st) rfl
    (by rw [hb]; exact d6) (by rw [hb]; exact d9) (zd_nohand hX hh _) (by show 2 + 3 < R.frames; omega) (by show 2 * 0 + _ + (13 * (2 + 1) + 42) ≤ R.locals; simp only [List.map_cons, List.sum_cons, hcat]; omega) hX.2.2.2.2.1
  obtain ⟨f1, f2, f3⟩ := zx_frame hsame
  rw [hhp] at f1 f2 f3
  have hWs : s.WarmedH U.vm := State.WarmedH.trans hW0 hW
  have hcl : s.vm.findClass X = some ce.cls := by
    have h9 := hO.cls
    rw [hvm] at h9
    exact h9
  have hall : s.sameButNew ({ U with vm := s.vm } : State) locs (h.1 - c0 + 1) (h.2.1 - n0 + 6) := by
    subst hs'
    obtain ⟨e1, e2⟩ := hsame
    rw [State.setFrames_setFrames] at e1
    have h2 : (T.setVm s.vm).sameButNew ({ U with vm := s.vm } : State) [] (0 + 1) (0 + 6) := ⟨e1, e2⟩
    have h3 := X1.same.trans h2
    rw [List.append_nil] at h3
    exact h3
  have hlt : T.heap.size < U.heap.size := (Array.getElem?_eq_some_iff.mp hce).1
  obtain ⟨Tt, hcl0⟩ := hE.2.2.2.2
  have hfc : s.vm.findClass X = some (zd_dC B ci) := ((zd_kn hG hX).1 ci _ hcl0).2.1
  have hT0 : T.heap.size = zd_b0 B + h.1 := hR.1
  have hR' : zd_R B (zd_push h (zd_b0 B + h.1) (.inl (ci, [])) 6) U.heap := by
    refine zd_R.push hR hT0 ⟨_, hcl0, ce, by rw [← hT0]; exact hce, Option.some.inj (hcl.symm.trans hfc), hO.vm, fun k hk => absurd hk (Nat.not_lt_zero k)⟩ (by omega) (fun q hq => f3 q (by omega))
  refine ⟨U, ?_, .threw T.heap.size, .inr (zd_b0 B + h.1, ci), _, hrun, hend, by show Outcome.threw T.heap.size = Outcome.threw (zd_b0 B + h.1); rw [hT0], hq, ?_, ⟨by show c0 ≤ h.1 + 1; omega, by show n0 ≤ h.2.1 + 6; omega, q1, q2⟩, hR', hWs, locs, hL, ?_⟩
  · refine st1 _ ?_
    show Steps p.tables e below (T1.setTop { method := m, pc := pc + 3, locals := arr, stack := .ref T.heap.size :: st, locked := none }) _
    jvm_step X₁.here [X₁.here.top, hexec, d3', Value.category]
    exact X₁.ldcStringW hexec (own := (zd_yn y).cls) (text := tx) (index := is) (a := sa) hown' hstr'.1 hstr'.2
      (g := { method := m, pc := pc + 4, locals := arr, stack := .ref T.heap.size :: .ref T.heap.size :: st, locked := none }) rfl d4' _ hsteps
  · intro z hz
    cases hz
    refine ⟨[], ⟨by show zd_b0 B ≤ zd_b0 B + h.1; omega, by show zd_b0 B + h.1 < zd_b0 B + (h.1 + 1); omega⟩, ?_⟩
    show (if zd_b0 B + h.1 = zd_b0 B + h.1 then _ else _) = _
    rw [if_pos rfl]
  · show s.sameButNew _ locs (h.1 + 1 - c0) (h.2.1 + 6 - n0)
    rw [show h.1 + 1 - c0 = h.1 - c0 + 1 by omega, show h.2.1 + 6 - n0 = h.2.1 - n0 + 6 by omega]
    exact hall
end ZX
end
section
/-! rows copied, rows of objects -/
section ZC
variable {l : Launch} {B : zd_B} {y : zd_Y} {pc : Nat}
def oc_copy (B : zd_B) (nx : Nat) : zd_S := fun K ls st h _ => match st with
  | .int n :: .int dp :: .ref a1 :: .int sp :: .ref a0 :: r => ∃ k0 f k1 g, zd_Ai B h a0 0 k0 f ∧ zd_Ai B h a1 0 k1 g ∧ (¬ sp < 0 ∧ ¬ dp < 0 ∧ ¬ n < 0 ∧ sp.toNatClampNeg + n.toNatClampNeg ≤ k0 ∧ dp.toNatClampNeg + n.toNatClampNeg ≤ k1 ∧ (r.map fun v => v.category).sum ≤ 8) ∧ K nx ls r (zd_set h a1 (.inr (.inl (0, k1, va_cpy f g sp.toNatClampNeg dp.toNatClampNeg n.toNatClampNeg))))
  | _ => False
theorem ok_copy (hG : zd_G B) {idx : Nat} (hl : Cond.methodLink (zd_yn y).cls idx ⟨"java/lang/System", "arraycopy", "(Ljava/lang/Object;ILjava/lang/Object;II)V"⟩ ∈ lw_tbl) (hna : Cond.native ⟨"java/lang/System", "arraycopy", "(Ljava/lang/Object;ILjava/lang/Object;II)V"⟩ ∈ lw_tbl) (hst : Cond.static ⟨"java/lang/System", "arraycopy", "(Ljava/lang/Object;ILjava/lang/Object;II)V"⟩ ∈ lw_tbl) (hini : Cond.initialized "java/lang/System" ∈ lw_tbl) (hfr : 1 ≤ zd_yf y) (hwo : 40 ≤ zd_yw y) (hd : decode (zd_yb y) pc = .ok (.invokestatic idx, 3)) : zd_ok l B y pc (oc_copy B (pc + 3)) := by
  intro K ls st h Q hK q
  unfold oc_copy at q
  split at q
  · rename_i n dp a1 sp a0 r
    obtain ⟨k0, f, k1, g, ho0, ho1, ⟨h1, h2, h3, h4, h5, hr8⟩, q⟩ := q
    intro p e R s m args below meth c c0 n0 hX hc H locs arr hR hL hA
    have b0 := hX.2.2.2.2.2.2.2.2.2.1
    have b00 := hX.2.2.2.2.2.2.2.2.2.2.1
    have nn : ∀ z : Int32, ¬ z < 0 → z.toInt = (z.toNatClampNeg : Int) := by
      intro z hz
      have hz0 : (0 : Int) ≤ z.toInt := by
        have := Int32.not_lt.mp hz
        simpa using Int32.le_iff_toInt_le.mp this
      show z.toInt = ((z.toInt.toNat : Nat) : Int)
      omega
    have hc0 : H[a0]? = some (arrV (zd_aK B 0) k0 (fun j => .int (f j))) := by
      have := hR.2.1 a0 ho0.1
      rw [ho0.2] at this
      exact this
    have hc1 : H[a1]? = some (arrV (zd_aK B 0) k1 (fun j => .int (g j))) := by
      have := hR.2.1 a1 ho1.1
      rw [ho1.2] at this
      exact this
    intro T hT X
    obtain ⟨-, kk0, hk0, cm0, hkk0⟩ := zd_arr hG hX (k := 0) rfl k0 (fun j => .int (f j))
    obtain ⟨-, kk1, hk1, cm1, hkk1⟩ := zd_arr hG hX (k := 0) rfl k1 (fun j => .int (g j))
    obtain ⟨vm', X', step⟩ := X.arraycopy hX.1 (zd_own hX) (zd_wd hG hX hl (Or.inl (by first | rfl | simp [Cond.onTables, Cond.keeps, Cond.steady])) args) (zd_wd hG hX hna (Or.inl (by first | rfl | simp [Cond.onTables, Cond.keeps, Cond.steady])) args) (zd_wd hG hX hst (Or.inl (by first | rfl | simp [Cond.onTables, Cond.keeps, Cond.steady])) args) (zd_wd hG hX hini (Or.inl (by first | rfl | simp [Cond.onTables, Cond.keeps, Cond.steady])) args) (src := a0) (dst := a1) (cs := arrV (zd_aK B 0) k0 (fun j => .int (f j))) (cd := arrV (zd_aK B 0) k1 (fun j => .int (g j))) (srcPos := sp) (destPos := dp) (n := n) (by rw [hT]; exact hc0) (by rw [hT]; exact hc1)
      (fun _ h => by cases h) (fun _ h => by cases h) (fun h => by cases h) (fun h => by cases h) hk0 hk1 hkk0 hkk1 (by simp [refKind]) h1 h2 h3
      (by rw [nn sp h1, nn n h3]; show ¬ _ > ((arrV (zd_aK B 0) k0 (fun j => .int (f j))).slots.size : Int); rw [arrV_size]; omega)
      (by rw [nn dp h2, nn n h3]; show ¬ _ > ((arrV (zd_aK B 0) k1 (fun j => .int (g j))).slots.size : Int); rw [arrV_size]; omega)
      (fun vm₁ _ i hi => by
        have e : (arrV (zd_aK B 0) k0 (fun j => .int (f j))).slots.getD (sp.toNatClampNeg + i) .null = .int (f (sp.toNatClampNeg + i)) := by
          rw [Array.getD_eq_getD_getElem?, arrV_read _ _ (by omega)]
          rfl
        refine ⟨?_, ?_⟩
        · rw [e]
          rfl
        · rw [e]
          exact trivial)
      (g := F0 m pc arr (.int n :: .int dp :: .ref a1 :: .int sp :: .ref a0 :: r)) rfl (hA.1.trans hX.2.2.1.symm) (rest := r) rfl (by rw [hX.2.1]; exact hd) (by omega) (by show 2 * 0 + _ + (5 + 2 + 11) ≤ _; omega)
    have e1 : copied (arrV (zd_aK B 0) k0 (fun j => .int (f j))) (arrV (zd_aK B 0) k1 (fun j => .int (g j))) sp dp n = arrV (zd_aK B 0) k1 (fun j => .int (va_cpy f g sp.toNatClampNeg dp.toNatClampNeg n.toNatClampNeg j)) := va_copied (fun z => .int z) _ _ f g h4
    rw [e1] at X' step
    have hlt : a1 < H.size := (Array.getElem?_eq_some_iff.mp hc1).1
    have hheap : ((T.setVm vm').setCell a1 (arrV (zd_aK B 0) k1 (fun j => .int (va_cpy f g sp.toNatClampNeg dp.toNatClampNeg n.toNatClampNeg j)))).heap = H.setIfInBounds a1 (arrV (zd_aK B 0) k1 (fun j => .int (va_cpy f g sp.toNatClampNeg dp.toNatClampNeg n.toNatClampNeg j))) := by rw [← hT]; rfl
    obtain ⟨t, x1, x2⟩ := hK _ _ _ _ q p e R s m args below meth c c0 n0 hX hc _ _ arr (hR.set ho1.1 (show (H.setIfInBounds a1 _)[a1]? = some _ by simp [Array.getElem?_setIfInBounds, hlt]) (by simp) (fun z hz => by simp [Array.getElem?_setIfInBounds, Ne.symm hz])) (fun z hz => by
        rcases List.mem_append.mp hz with hz | hz
        · exact hL z hz
        · obtain ⟨w, -, hw⟩ := List.mem_map.mp hz
          rw [← hw]
          exact ho1.1.1) hA _ hheap X'
    exact ⟨t, step t x1, x2⟩
  · exact q.elim
end ZC
end
section
/-! written by gencode.py: facts of classes, all methods by name -/
theorem zl0 : zd_lay zR0 zT0 8 := by unfold zd_lay; decide +kernel
theorem zt0 : zd_tab zT0 zy0 8 := ⟨by decide +kernel, by decide +kernel⟩
theorem zl1 : zd_lay zR1 zT1 3 := by unfold zd_lay; decide +kernel
theorem zt1 : zd_tab zT1 zy1 3 := ⟨by decide +kernel, by decide +kernel⟩
theorem zl2 : zd_lay zR2 zT2 1 := by unfold zd_lay; decide +kernel
theorem zt2 : zd_tab zT2 zy2 1 := ⟨by decide +kernel, by decide +kernel⟩
theorem zl3 : zd_lay zR3 zT3 8 := by unfold zd_lay; decide +kernel
theorem zt3 : zd_tab zT3 zy3 8 := ⟨by decide +kernel, by decide +kernel⟩
theorem zl4 : zd_lay zR4 zT4 2 := by unfold zd_lay; decide +kernel
theorem zt4 : zd_tab zT4 zy4 2 := ⟨by decide +kernel, by decide +kernel⟩
theorem zl5 : zd_lay zR5 zT5 4 := by unfold zd_lay; decide +kernel
theorem zt5 : zd_tab zT5 zy5 4 := ⟨by decide +kernel, by decide +kernel⟩
theorem zl6 : zd_lay zR6 zT6 4 := by unfold zd_lay; decide +kernel
theorem zt6 : zd_tab zT6 zy6 4 := ⟨by decide +kernel, by decide +kernel⟩
theorem zl7 : zd_lay zR7 zT7 2 := by unfold zd_lay; decide +kernel
theorem zt7 : zd_tab zT7 zy7 2 := ⟨by decide +kernel, by decide +kernel⟩
theorem zl8 : zd_lay zR8 zT8 21 := by unfold zd_lay; decide +kernel
theorem zt8 : zd_tab zT8 zy8 21 := ⟨by decide +kernel, by decide +kernel⟩
theorem zE9 : zx_E 9 zR9 := ⟨by decide +kernel, by decide +kernel, by decide +kernel, (List.mem_of_getElem? (i := 65) (by decide +kernel)), zT9, rfl⟩
theorem zE10 : zx_E 10 zR10 := ⟨by decide +kernel, by decide +kernel, by decide +kernel, (List.mem_of_getElem? (i := 65) (by decide +kernel)), zT10, rfl⟩
theorem zE11 : zx_E 11 zR11 := ⟨by decide +kernel, by decide +kernel, by decide +kernel, (List.mem_of_getElem? (i := 65) (by decide +kernel)), zT11, rfl⟩
theorem zE12 : zx_E 12 zR12 := ⟨by decide +kernel, by decide +kernel, by decide +kernel, (List.mem_of_getElem? (i := 65) (by decide +kernel)), zT12, rfl⟩
def m_De_init : zd_Y := (⟨"DecimalDesk", "<init>", "()V"⟩, prog_1_method_1_code, 2, none, 3, 62, [])
def m_De_write : zd_Y := (⟨"DecimalDesk", "write", "(J)I"⟩, prog_1_method_2_code, 3, some .int, 2, 47, [])
def m_De_wipe : zd_Y := (⟨"DecimalDesk", "wipe", "()I"⟩, prog_1_method_3_code, 1, some .int, 1, 21, [])
def m_De_read : zd_Y := (⟨"DecimalDesk", "read", "(I)V"⟩, prog_1_method_4_code, 2, none, 10, 176, [])
def m_De_put : zd_Y := (⟨"DecimalDesk", "put", "(IJI)V"⟩, prog_1_method_5_code, 5, none, 10, 176, [])
def m_De_add : zd_Y := (⟨"DecimalDesk", "add", "(IIIZ)V"⟩, prog_1_method_6_code, 7, none, 11, 207, [])
def m_De_multiply : zd_Y := (⟨"DecimalDesk", "multiply", "(III)V"⟩, prog_1_method_7_code, 6, none, 10, 176, [])
def m_De_divide : zd_Y := (⟨"DecimalDesk", "divide", "(IIIII)V"⟩, prog_1_method_8_code, 7, none, 11, 207, [])
def m_De_quotient : zd_Y := (⟨"DecimalDesk", "quotient", "(IIIII)V"⟩, prog_1_method_9_code, 10, none, 12, 232, [])
def m_De_remainder : zd_Y := (⟨"DecimalDesk", "remainder", "(III)V"⟩, prog_1_method_10_code, 6, none, 10, 188, [])
def m_De_power : zd_Y := (⟨"DecimalDesk", "power", "(III)V"⟩, prog_1_method_11_code, 6, none, 10, 176, [])
def m_De_root : zd_Y := (⟨"DecimalDesk", "root", "(IIII)V"⟩, prog_1_method_12_code, 8, none, 12, 232, [])
def m_De_toScale : zd_Y := (⟨"DecimalDesk", "toScale", "(IIII)V"⟩, prog_1_method_13_code, 5, none, 11, 207, [])
def m_De_round : zd_Y := (⟨"DecimalDesk", "round", "(IIII)V"⟩, prog_1_method_14_code, 6, none, 12, 232, [])
def m_De_strip : zd_Y := (⟨"DecimalDesk", "strip", "(II)V"⟩, prog_1_method_15_code, 3, none, 10, 184, [])
def m_De_shift : zd_Y := (⟨"DecimalDesk", "shift", "(III)V"⟩, prog_1_method_16_code, 6, none, 10, 176, [])
def m_De_negate : zd_Y := (⟨"DecimalDesk", "negate", "(II)V"⟩, prog_1_method_17_code, 3, none, 10, 176, [])
def m_De_compare : zd_Y := (⟨"DecimalDesk", "compare", "(II)I"⟩, prog_1_method_18_code, 5, some .int, 12, 231, [])
def m_De_told : zd_Y := (⟨"DecimalDesk", "told", "(II)I"⟩, prog_1_method_19_code, 5, some .int, 7, 112, [])
def m_De_written : zd_Y := (⟨"DecimalDesk", "written", "(II)I"⟩, prog_1_method_20_code, 3, some .int, 7, 112, [])
def m_De_character : zd_Y := (⟨"DecimalDesk", "character", "(I)I"⟩, prog_1_method_21_code, 2, some .int, 1, 21, [])
def m_De_demandRegister : zd_Y := (⟨"DecimalDesk", "demandRegister", "(I)V"⟩, prog_1_method_22_code, 1, none, 6, 92, [])
def m_De_demandRegisters2 : zd_Y := (⟨"DecimalDesk", "demandRegisters", "(II)V"⟩, prog_1_method_23_code, 2, none, 7, 112, [])
def m_De_demandRegisters3 : zd_Y := (⟨"DecimalDesk", "demandRegisters", "(III)V"⟩, prog_1_method_24_code, 3, none, 8, 133, [])
def m_De_demandMode : zd_Y := (⟨"DecimalDesk", "demandMode", "(I)V"⟩, prog_1_method_25_code, 1, none, 6, 92, [])
def m_De_demandPrecision : zd_Y := (⟨"DecimalDesk", "demandPrecision", "(II)V"⟩, prog_1_method_26_code, 2, none, 6, 92, [])
def m_De_isScale : zd_Y := (⟨"DecimalDesk", "isScale", "(J)Z"⟩, prog_1_method_27_code, 2, some .boolean, 0, 0, [])
def m_De_demandWantedScale : zd_Y := (⟨"DecimalDesk", "demandWantedScale", "(I)V"⟩, prog_1_method_28_code, 1, none, 6, 92, [])
def m_De_demandScale : zd_Y := (⟨"DecimalDesk", "demandScale", "(J)V"⟩, prog_1_method_29_code, 2, none, 6, 92, [])
def m_De_demandDigits : zd_Y := (⟨"DecimalDesk", "demandDigits", "(LDecimalDesk$Natural;)V"⟩, prog_1_method_30_code, 1, none, 6, 92, [])
def m_De_demandDivisor : zd_Y := (⟨"DecimalDesk", "demandDivisor", "(LDecimalDesk$Decimal;)V"⟩, prog_1_method_31_code, 1, none, 6, 92, [])
def m_De_keep : zd_Y := (⟨"DecimalDesk", "keep", "(I)V"⟩, prog_1_method_32_code, 2, none, 9, 155, [])
def m_De_align : zd_Y := (⟨"DecimalDesk", "align", "(LDecimalDesk$Decimal;LDecimalDesk$Decimal;)V"⟩, prog_1_method_33_code, 4, none, 10, 184, [])
def m_De_addSigned : zd_Y := (⟨"DecimalDesk", "addSigned", "(Z)V"⟩, prog_1_method_34_code, 3, none, 8, 139, [])
def m_De_divideRough : zd_Y := (⟨"DecimalDesk", "divideRough", "(LDecimalDesk$Decimal;I)V"⟩, prog_1_method_35_code, 3, none, 10, 184, [])
def m_De_reduceRaised : zd_Y := (⟨"DecimalDesk", "reduceRaised", "(LDecimalDesk$Natural;I)V"⟩, prog_1_method_36_code, 4, none, 9, 165, [])
def m_De_growRough : zd_Y := (⟨"DecimalDesk", "growRough", "(LDecimalDesk$Natural;)V"⟩, prog_1_method_37_code, 2, none, 8, 143, [])
def m_De_orderOfSizes : zd_Y := (⟨"DecimalDesk", "orderOfSizes", "(LDecimalDesk$Decimal;LDecimalDesk$Decimal;)I"⟩, prog_1_method_38_code, 5, some .int, 11, 207, [])
def m_Mo_init : zd_Y := (⟨"DecimalDeskModel", "<init>", "()V"⟩, prog_10_method_1_code, 2, none, 1, 20, [])
def m_Mo_thrown : zd_Y := (⟨"DecimalDeskModel", "thrown", "()I"⟩, prog_10_method_2_code, 1, some .int, 0, 0, [])
def m_Mo_no : zd_Y := (⟨"DecimalDeskModel", "no", "(I)Z"⟩, prog_10_method_3_code, 1, some .boolean, 0, 0, [])
def m_Mo_noMode : zd_Y := (⟨"DecimalDeskModel", "noMode", "(I)Z"⟩, prog_10_method_4_code, 1, some .boolean, 0, 0, [])
def m_Mo_isZero : zd_Y := (⟨"DecimalDeskModel", "isZero", "(I)Z"⟩, prog_10_method_5_code, 2, some .boolean, 0, 0, [])
def m_Mo_load : zd_Y := (⟨"DecimalDeskModel", "load", "(I)V"⟩, prog_10_method_6_code, 3, none, 0, 0, [])
def m_Mo_trim : zd_Y := (⟨"DecimalDeskModel", "trim", "()V"⟩, prog_10_method_7_code, 3, none, 0, 0, [])
def m_Mo_store : zd_Y := (⟨"DecimalDeskModel", "store", "(I)V"⟩, prog_10_method_8_code, 3, none, 1, 22, [])
def m_Mo_isMore : zd_Y := (⟨"DecimalDeskModel", "isMore", "(I)Z"⟩, prog_10_method_9_code, 4, some .boolean, 0, 0, [])
def m_Mo_grows : zd_Y := (⟨"DecimalDeskModel", "grows", "(II)I"⟩, prog_10_method_10_code, 7, some .int, 1, 23, [])
def m_Mo_cut : zd_Y := (⟨"DecimalDeskModel", "cut", "(II)Z"⟩, prog_10_method_11_code, 6, some .boolean, 2, 49, [])
def m_Mo_lengthen : zd_Y := (⟨"DecimalDeskModel", "lengthen", "(J)V"⟩, prog_10_method_12_code, 5, none, 0, 0, [])
def m_Mo_bring : zd_Y := (⟨"DecimalDeskModel", "bring", "(JII)V"⟩, prog_10_method_13_code, 7, none, 3, 74, [])
def m_Mo_needed : zd_Y := (⟨"DecimalDeskModel", "needed", "()I"⟩, prog_10_method_14_code, 2, some .int, 0, 0, [])
def m_Mo_toPrecision : zd_Y := (⟨"DecimalDeskModel", "toPrecision", "(IJII)V"⟩, prog_10_method_15_code, 9, none, 3, 74, [])
def m_Mo_write : zd_Y := (⟨"DecimalDeskModel", "write", "(J)I"⟩, prog_10_method_16_code, 6, some .int, 0, 0, [])
def m_Mo_wipe : zd_Y := (⟨"DecimalDeskModel", "wipe", "()I"⟩, prog_10_method_17_code, 2, some .int, 0, 0, [])
def m_Mo_at : zd_Y := (⟨"DecimalDeskModel", "at", "(I)I"⟩, prog_10_method_18_code, 2, some .int, 0, 0, [])
def m_Mo_isDigit : zd_Y := (⟨"DecimalDeskModel", "isDigit", "(I)Z"⟩, prog_10_method_19_code, 1, some .boolean, 0, 0, [])
def m_Mo_says : zd_Y := (⟨"DecimalDeskModel", "says", "()Z"⟩, prog_10_method_20_code, 7, some .boolean, 1, 21, [])
def m_Mo_read : zd_Y := (⟨"DecimalDeskModel", "read", "(I)V"⟩, prog_10_method_21_code, 2, none, 2, 47, [])
def m_Mo_put : zd_Y := (⟨"DecimalDeskModel", "put", "(IJI)V"⟩, prog_10_method_22_code, 10, none, 2, 44, [])
def m_Mo_compareSizes : zd_Y := (⟨"DecimalDeskModel", "compareSizes", "(II)I"⟩, prog_10_method_23_code, 10, some .int, 0, 0, [])
def m_Mo_compare : zd_Y := (⟨"DecimalDeskModel", "compare", "(II)I"⟩, prog_10_method_24_code, 5, some .int, 1, 29, [])
def m_Mo_figure : zd_Y := (⟨"DecimalDeskModel", "figure", "(IJI)I"⟩, prog_10_method_25_code, 7, some .int, 0, 0, [])
def m_Mo_add : zd_Y := (⟨"DecimalDeskModel", "add", "(IIIZ)V"⟩, prog_10_method_26_code, 20, none, 2, 44, [])
def m_Mo_times : zd_Y := (⟨"DecimalDeskModel", "times", "(I)Z"⟩, prog_10_method_27_code, 7, some .boolean, 1, 22, [])
def m_Mo_multiply : zd_Y := (⟨"DecimalDeskModel", "multiply", "(III)V"⟩, prog_10_method_28_code, 4, none, 2, 48, [])
def m_Mo_power : zd_Y := (⟨"DecimalDeskModel", "power", "(III)V"⟩, prog_10_method_29_code, 5, none, 2, 48, [])
def m_Mo_loadUnder : zd_Y := (⟨"DecimalDeskModel", "loadUnder", "(II)V"⟩, prog_10_method_30_code, 4, none, 0, 0, [])
def m_Mo_reaches : zd_Y := (⟨"DecimalDeskModel", "reaches", "()Z"⟩, prog_10_method_31_code, 2, some .boolean, 0, 0, [])
def m_Mo_takeAway : zd_Y := (⟨"DecimalDeskModel", "takeAway", "()V"⟩, prog_10_method_32_code, 4, none, 0, 0, [])
def m_Mo_nextFigure : zd_Y := (⟨"DecimalDeskModel", "nextFigure", "(I)I"⟩, prog_10_method_33_code, 3, some .int, 1, 23, [])
def m_Mo_isLeft : zd_Y := (⟨"DecimalDeskModel", "isLeft", "()Z"⟩, prog_10_method_34_code, 3, some .boolean, 0, 0, [])
def m_Mo_beginQuotient : zd_Y := (⟨"DecimalDeskModel", "beginQuotient", "()V"⟩, prog_10_method_35_code, 2, none, 0, 0, [])
def m_Mo_append : zd_Y := (⟨"DecimalDeskModel", "append", "(I)V"⟩, prog_10_method_36_code, 2, none, 0, 0, [])
def m_Mo_divide : zd_Y := (⟨"DecimalDeskModel", "divide", "(IIIII)V"⟩, prog_10_method_37_code, 12, none, 3, 74, [])
def m_Mo_quotient : zd_Y := (⟨"DecimalDeskModel", "quotient", "(IIIII)V"⟩, prog_10_method_38_code, 12, none, 4, 102, [])
def m_Mo_remainder : zd_Y := (⟨"DecimalDeskModel", "remainder", "(III)V"⟩, prog_10_method_39_code, 14, none, 4, 100, [])
def m_Mo_takesRoot : zd_Y := (⟨"DecimalDeskModel", "takesRoot", "(I)Z"⟩, prog_10_method_40_code, 8, some .boolean, 0, 0, [])
def m_Mo_nextRoot : zd_Y := (⟨"DecimalDeskModel", "nextRoot", "(II)V"⟩, prog_10_method_41_code, 5, none, 1, 27, [])
def m_Mo_root : zd_Y := (⟨"DecimalDeskModel", "root", "(IIII)V"⟩, prog_10_method_42_code, 11, none, 4, 102, [])
def m_Mo_toScale : zd_Y := (⟨"DecimalDeskModel", "toScale", "(IIII)V"⟩, prog_10_method_43_code, 5, none, 4, 100, [])
def m_Mo_round : zd_Y := (⟨"DecimalDeskModel", "round", "(IIII)V"⟩, prog_10_method_44_code, 5, none, 4, 102, [])
def m_Mo_strip : zd_Y := (⟨"DecimalDeskModel", "strip", "(II)V"⟩, prog_10_method_45_code, 4, none, 2, 44, [])
def m_Mo_shift : zd_Y := (⟨"DecimalDeskModel", "shift", "(III)V"⟩, prog_10_method_46_code, 4, none, 2, 44, [])
def m_Mo_negate : zd_Y := (⟨"DecimalDeskModel", "negate", "(II)V"⟩, prog_10_method_47_code, 3, none, 2, 44, [])
def m_Mo_told : zd_Y := (⟨"DecimalDeskModel", "told", "(II)I"⟩, prog_10_method_48_code, 3, some .int, 1, 21, [])
def m_Mo_print : zd_Y := (⟨"DecimalDeskModel", "print", "(I)V"⟩, prog_10_method_49_code, 2, none, 0, 0, [])
def m_Mo_figures : zd_Y := (⟨"DecimalDeskModel", "figures", "(IIII)V"⟩, prog_10_method_50_code, 6, none, 1, 21, [])
def m_Mo_exponent : zd_Y := (⟨"DecimalDeskModel", "exponent", "(I)V"⟩, prog_10_method_51_code, 4, none, 1, 21, [])
def m_Mo_down3 : zd_Y := (⟨"DecimalDeskModel", "down3", "(I)I"⟩, prog_10_method_52_code, 1, some .int, 0, 0, [])
def m_Mo_written : zd_Y := (⟨"DecimalDeskModel", "written", "(II)I"⟩, prog_10_method_53_code, 7, some .int, 2, 46, [])
def m_Mo_character : zd_Y := (⟨"DecimalDeskModel", "character", "(I)I"⟩, prog_10_method_54_code, 2, some .int, 0, 0, [])
def m_Dc_init : zd_Y := (⟨"DecimalDesk$Decimal", "<init>", "()V"⟩, prog_2_method_1_code, 1, none, 2, 41, [])
def m_Dc_sign : zd_Y := (⟨"DecimalDesk$Decimal", "sign", "()I"⟩, prog_2_method_2_code, 1, some .int, 1, 20, [])
def m_Dc_accept : zd_Y := (⟨"DecimalDesk$Decimal", "accept", "(LDecimalDesk$Rough;)V"⟩, prog_2_method_3_code, 2, none, 8, 134, [])
def m_Dv_init : zd_Y := (⟨"DecimalDesk$Divider", "<init>", "()V"⟩, prog_3_method_1_code, 1, none, 2, 41, [])
def m_Dv_split : zd_Y := (⟨"DecimalDesk$Divider", "split", "(LDecimalDesk$Natural;LDecimalDesk$Natural;LDecimalDesk$Natural;)V"⟩, prog_3_method_2_code, 7, none, 8, 139, [])
def m_Dv_takeLimb : zd_Y := (⟨"DecimalDesk$Divider", "takeLimb", "([II)I"⟩, prog_3_method_3_code, 6, some .int, 1, 36, [])
def m_Dv_guessLimb : zd_Y := (⟨"DecimalDesk$Divider", "guessLimb", "([II)J"⟩, prog_3_method_4_code, 17, some .long, 0, 0, [])
def m_Dv_subtractTimes : zd_Y := (⟨"DecimalDesk$Divider", "subtractTimes", "([IIJ)Z"⟩, prog_3_method_5_code, 13, some .boolean, 0, 0, [])
def m_Dv_giveBack : zd_Y := (⟨"DecimalDesk$Divider", "giveBack", "([II)V"⟩, prog_3_method_6_code, 6, none, 0, 0, [])
def m_Dr_init : zd_Y := (⟨"DecimalDesk$Draft", "<init>", "()V"⟩, prog_4_method_1_code, 1, none, 1, 20, [])
def m_Dr_append : zd_Y := (⟨"DecimalDesk$Draft", "append", "(J)I"⟩, prog_4_method_2_code, 6, some .int, 1, 22, [])
def m_Dr_byteAt : zd_Y := (⟨"DecimalDesk$Draft", "byteAt", "(JI)C"⟩, prog_4_method_3_code, 3, some .char, 0, 0, [])
def m_Dr_clear : zd_Y := (⟨"DecimalDesk$Draft", "clear", "()I"⟩, prog_4_method_4_code, 2, some .int, 0, 0, [])
def m_Dr_isNumberText : zd_Y := (⟨"DecimalDesk$Draft", "isNumberText", "()Z"⟩, prog_4_method_5_code, 1, some .boolean, 2, 46, [])
def m_Dr_behindSign : zd_Y := (⟨"DecimalDesk$Draft", "behindSign", "(I)I"⟩, prog_4_method_6_code, 2, some .int, 0, 0, [])
def m_Dr_isDigit : zd_Y := (⟨"DecimalDesk$Draft", "isDigit", "(C)Z"⟩, prog_4_method_7_code, 1, some .boolean, 0, 0, [])
def m_Dr_scanDigits : zd_Y := (⟨"DecimalDesk$Draft", "scanDigits", "()V"⟩, prog_4_method_8_code, 3, none, 1, 20, [])
def m_Dr_scanExponent : zd_Y := (⟨"DecimalDesk$Draft", "scanExponent", "()Z"⟩, prog_4_method_9_code, 6, some .boolean, 1, 21, [])
def m_Dr_saysNegative : zd_Y := (⟨"DecimalDesk$Draft", "saysNegative", "()Z"⟩, prog_4_method_10_code, 1, some .boolean, 0, 0, [])
def m_Dr_saidScale : zd_Y := (⟨"DecimalDesk$Draft", "saidScale", "()J"⟩, prog_4_method_11_code, 1, some .long, 0, 0, [])
def m_Dr_fill : zd_Y := (⟨"DecimalDesk$Draft", "fill", "(LDecimalDesk$Natural;)V"⟩, prog_4_method_12_code, 4, none, 8, 135, [])
def m_Na_init : zd_Y := (⟨"DecimalDesk$Natural", "<init>", "(I)V"⟩, prog_5_method_1_code, 2, none, 1, 20, [])
def m_Na_isZero : zd_Y := (⟨"DecimalDesk$Natural", "isZero", "()Z"⟩, prog_5_method_2_code, 1, some .boolean, 0, 0, [])
def m_Na_digits : zd_Y := (⟨"DecimalDesk$Natural", "digits", "()I"⟩, prog_5_method_3_code, 2, some .int, 0, 0, [])
def m_Na_digitAt : zd_Y := (⟨"DecimalDesk$Natural", "digitAt", "(I)I"⟩, prog_5_method_4_code, 2, some .int, 0, 0, [])
def m_Na_trailingZeros : zd_Y := (⟨"DecimalDesk$Natural", "trailingZeros", "()I"⟩, prog_5_method_5_code, 3, some .int, 0, 0, [])
def m_Na_order : zd_Y := (⟨"DecimalDesk$Natural", "order", "(LDecimalDesk$Natural;)I"⟩, prog_5_method_6_code, 3, some .int, 1, 21, [])
def m_Na_claim : zd_Y := (⟨"DecimalDesk$Natural", "claim", "(I)V"⟩, prog_5_method_7_code, 2, none, 6, 92, [])
def m_Na_trim : zd_Y := (⟨"DecimalDesk$Natural", "trim", "()V"⟩, prog_5_method_8_code, 1, none, 0, 0, [])
def m_Na_copy : zd_Y := (⟨"DecimalDesk$Natural", "copy", "(LDecimalDesk$Natural;)V"⟩, prog_5_method_9_code, 2, none, 7, 113, [])
def m_Na_become : zd_Y := (⟨"DecimalDesk$Natural", "become", "(J)V"⟩, prog_5_method_10_code, 6, none, 7, 113, [])
def m_Na_openDigits : zd_Y := (⟨"DecimalDesk$Natural", "openDigits", "(I)V"⟩, prog_5_method_11_code, 3, none, 7, 113, [])
def m_Na_setDigit : zd_Y := (⟨"DecimalDesk$Natural", "setDigit", "(II)V"⟩, prog_5_method_12_code, 3, none, 0, 0, [])
def m_Na_becomeProduct : zd_Y := (⟨"DecimalDesk$Natural", "becomeProduct", "(LDecimalDesk$Natural;LDecimalDesk$Natural;)V"⟩, prog_5_method_13_code, 11, none, 7, 113, [])
def m_Na_move : zd_Y := (⟨"DecimalDesk$Natural", "move", "(I)Z"⟩, prog_5_method_14_code, 2, some .boolean, 8, 141, [])
def m_Na_moveUp : zd_Y := (⟨"DecimalDesk$Natural", "moveUp", "(I)V"⟩, prog_5_method_15_code, 9, none, 7, 113, [])
def m_Na_moveDown : zd_Y := (⟨"DecimalDesk$Natural", "moveDown", "(I)Z"⟩, prog_5_method_16_code, 8, some .boolean, 1, 20, [])
def m_Na_raiseBy : zd_Y := (⟨"DecimalDesk$Natural", "raiseBy", "(LDecimalDesk$Natural;)V"⟩, prog_5_method_17_code, 7, none, 7, 113, [])
def m_Na_lowerBy : zd_Y := (⟨"DecimalDesk$Natural", "lowerBy", "(LDecimalDesk$Natural;)V"⟩, prog_5_method_18_code, 5, none, 1, 20, [])
def m_Na_increment : zd_Y := (⟨"DecimalDesk$Natural", "increment", "()V"⟩, prog_5_method_19_code, 2, none, 7, 113, [])
def m_Na_timesSmall : zd_Y := (⟨"DecimalDesk$Natural", "timesSmall", "(I)V"⟩, prog_5_method_20_code, 7, none, 7, 113, [])
def m_Na_overSmall : zd_Y := (⟨"DecimalDesk$Natural", "overSmall", "(I)V"⟩, prog_5_method_21_code, 7, none, 1, 20, [])
def m_Ro_init : zd_Y := (⟨"DecimalDesk$Rooter", "<init>", "(LDecimalDesk$Divider;)V"⟩, prog_6_method_1_code, 2, none, 2, 41, [])
def m_Ro_extract : zd_Y := (⟨"DecimalDesk$Rooter", "extract", "(LDecimalDesk$Natural;LDecimalDesk$Natural;)Z"⟩, prog_6_method_2_code, 8, some .boolean, 10, 188, [])
def m_Ro_descend : zd_Y := (⟨"DecimalDesk$Rooter", "descend", "(LDecimalDesk$Natural;)Z"⟩, prog_6_method_3_code, 4, some .boolean, 9, 165, [])
def m_Ru_init : zd_Y := (⟨"DecimalDesk$Rough", "<init>", "()V"⟩, prog_7_method_1_code, 1, none, 2, 41, [])
def m_Ru_describe : zd_Y := (⟨"DecimalDesk$Rough", "describe", "(ZI)V"⟩, prog_7_method_2_code, 3, none, 0, 0, [])
def m_Ru_take : zd_Y := (⟨"DecimalDesk$Rough", "take", "(LDecimalDesk$Decimal;)V"⟩, prog_7_method_3_code, 2, none, 8, 134, [])
def m_Ru_cutTo : zd_Y := (⟨"DecimalDesk$Rough", "cutTo", "(I)V"⟩, prog_7_method_4_code, 3, none, 9, 162, [])
def m_Ru_dropGuard : zd_Y := (⟨"DecimalDesk$Rough", "dropGuard", "(I)V"⟩, prog_7_method_5_code, 4, none, 10, 184, [])
def m_Ru_goesOutwards : zd_Y := (⟨"DecimalDesk$Rough", "goesOutwards", "(IIZ)Z"⟩, prog_7_method_6_code, 4, some .boolean, 1, 21, [])
def m_Ru_fitPrecision : zd_Y := (⟨"DecimalDesk$Rough", "fitPrecision", "(III)V"⟩, prog_7_method_7_code, 6, none, 11, 207, [])
def m_Te_init : zd_Y := (⟨"DecimalDesk$Text", "<init>", "()V"⟩, prog_8_method_1_code, 1, none, 1, 20, [])
def m_Te_at : zd_Y := (⟨"DecimalDesk$Text", "at", "(I)I"⟩, prog_8_method_2_code, 2, some .int, 0, 0, [])
def m_Te_spell : zd_Y := (⟨"DecimalDesk$Text", "spell", "(LDecimalDesk$Decimal;I)I"⟩, prog_8_method_3_code, 6, some .int, 3, 69, [])
def m_Te_restart : zd_Y := (⟨"DecimalDesk$Text", "restart", "(I)V"⟩, prog_8_method_4_code, 2, none, 0, 0, [])
def m_Te_append : zd_Y := (⟨"DecimalDesk$Text", "append", "(C)V"⟩, prog_8_method_5_code, 2, none, 0, 0, [])
def m_Te_appendZeros : zd_Y := (⟨"DecimalDesk$Text", "appendZeros", "(I)V"⟩, prog_8_method_6_code, 3, none, 1, 21, [])
def m_Te_appendDigits : zd_Y := (⟨"DecimalDesk$Text", "appendDigits", "(LDecimalDesk$Natural;II)V"⟩, prog_8_method_7_code, 6, none, 1, 21, [])
def m_Te_appendPower : zd_Y := (⟨"DecimalDesk$Text", "appendPower", "(I)V"⟩, prog_8_method_8_code, 5, none, 1, 21, [])
def m_Te_spellInteger : zd_Y := (⟨"DecimalDesk$Text", "spellInteger", "(LDecimalDesk$Decimal;)V"⟩, prog_8_method_9_code, 2, none, 2, 46, [])
def m_Te_spellPointed : zd_Y := (⟨"DecimalDesk$Text", "spellPointed", "(LDecimalDesk$Natural;I)V"⟩, prog_8_method_10_code, 4, none, 2, 46, [])
def m_Te_spellZero : zd_Y := (⟨"DecimalDesk$Text", "spellZero", "(I)V"⟩, prog_8_method_11_code, 2, none, 2, 43, [])
def m_La_read : zd_Y := (⟨"DecimalDeskLaw", "read", "(LDecimalDesk;I)I"⟩, method_3_code, 3, some .int, 11, 197, [(0, 5, 8, 13), (0, 5, 11, 15), (0, 5, 14, 17)])
def m_La_put : zd_Y := (⟨"DecimalDeskLaw", "put", "(LDecimalDesk;IJI)I"⟩, method_4_code, 6, some .int, 11, 200, [(0, 8, 11, 13), (0, 8, 15, 17)])
def m_La_add : zd_Y := (⟨"DecimalDeskLaw", "add", "(LDecimalDesk;IIIZ)I"⟩, method_5_code, 6, some .int, 12, 233, [(0, 9, 12, 13), (0, 9, 16, 17)])
def m_La_multiply : zd_Y := (⟨"DecimalDeskLaw", "multiply", "(LDecimalDesk;III)I"⟩, method_6_code, 5, some .int, 11, 201, [(0, 7, 10, 13), (0, 7, 14, 17)])
def m_La_divide : zd_Y := (⟨"DecimalDeskLaw", "divide", "(LDecimalDesk;IIIII)I"⟩, method_7_code, 7, some .int, 12, 233, [(0, 11, 14, 13), (0, 11, 18, 17)])
def m_La_quotient : zd_Y := (⟨"DecimalDeskLaw", "quotient", "(LDecimalDesk;IIIII)I"⟩, method_8_code, 7, some .int, 13, 261, [(0, 11, 14, 13), (0, 11, 18, 17)])
def m_La_remainder : zd_Y := (⟨"DecimalDeskLaw", "remainder", "(LDecimalDesk;III)I"⟩, method_9_code, 5, some .int, 11, 213, [(0, 7, 10, 13), (0, 7, 14, 17)])
def m_La_power : zd_Y := (⟨"DecimalDeskLaw", "power", "(LDecimalDesk;III)I"⟩, method_10_code, 5, some .int, 11, 201, [(0, 7, 10, 13), (0, 7, 14, 17)])
def m_La_root : zd_Y := (⟨"DecimalDeskLaw", "root", "(LDecimalDesk;IIII)I"⟩, method_11_code, 6, some .int, 13, 259, [(0, 9, 12, 13), (0, 9, 16, 17)])
def m_La_toScale : zd_Y := (⟨"DecimalDeskLaw", "toScale", "(LDecimalDesk;IIII)I"⟩, method_12_code, 6, some .int, 12, 231, [(0, 9, 12, 13), (0, 9, 16, 17)])
def m_La_round : zd_Y := (⟨"DecimalDeskLaw", "round", "(LDecimalDesk;IIII)I"⟩, method_13_code, 6, some .int, 13, 257, [(0, 9, 12, 13), (0, 9, 16, 17)])
def m_La_strip : zd_Y := (⟨"DecimalDeskLaw", "strip", "(LDecimalDesk;II)I"⟩, method_14_code, 4, some .int, 11, 206, [(0, 6, 9, 13), (0, 6, 12, 17)])
def m_La_shift : zd_Y := (⟨"DecimalDeskLaw", "shift", "(LDecimalDesk;III)I"⟩, method_15_code, 5, some .int, 11, 201, [(0, 7, 10, 13), (0, 7, 14, 17)])
def m_La_negate : zd_Y := (⟨"DecimalDeskLaw", "negate", "(LDecimalDesk;II)I"⟩, method_16_code, 4, some .int, 11, 198, [(0, 6, 9, 13)])
def m_La_compare : zd_Y := (⟨"DecimalDeskLaw", "compare", "(LDecimalDesk;II[J)I"⟩, method_17_code, 5, some .int, 13, 255, [(0, 10, 13, 13)])
def m_La_told : zd_Y := (⟨"DecimalDeskLaw", "told", "(LDecimalDesk;II[J)I"⟩, method_18_code, 5, some .int, 8, 136, [(0, 10, 13, 13), (0, 10, 17, 71)])
def m_La_written : zd_Y := (⟨"DecimalDeskLaw", "written", "(LDecimalDesk;II[J)I"⟩, method_19_code, 5, some .int, 8, 134, [(0, 10, 13, 13)])
def m_In_compare : zd_Y := (⟨"java/lang/Integer", "compare", "(II)I"⟩, prog_16_method_40_code, 2, some .int, 0, 0, [])
def m_Ma_abs : zd_Y := (⟨"java/lang/Math", "abs", "(I)I"⟩, prog_17_method_59_code, 1, some .int, 0, 0, [])
def m_Ma_floorDiv : zd_Y := (⟨"java/lang/Math", "floorDiv", "(II)I"⟩, prog_17_method_47_code, 3, some .int, 0, 0, [])
def m_Ma_floorMod : zd_Y := (⟨"java/lang/Math", "floorMod", "(II)I"⟩, prog_17_method_50_code, 3, some .int, 0, 0, [])
def m_Ma_max : zd_Y := (⟨"java/lang/Math", "max", "(II)I"⟩, prog_17_method_65_code, 2, some .int, 0, 0, [])
def m_Ma_min : zd_Y := (⟨"java/lang/Math", "min", "(II)I"⟩, prog_17_method_69_code, 2, some .int, 0, 0, [])
def m_La_law : zd_Y := (⟨"DecimalDeskLaw", "law", "([I)Z"⟩, code, 7, some .boolean, 14, 287, [])
end
section
/-! written by gencode.py: code of Math, Integer, Natural -/
theorem zx_Na_28_30_32 : zx_F "DecimalDesk$Natural" 28 30 32 "java/lang/ArithmeticException" "more digits than a register can have" := ⟨(List.mem_of_getElem? (i := 445) (by decide +kernel)), (List.mem_of_getElem? (i := 70) (by decide +kernel)), (List.mem_of_getElem? (i := 446) (by decide +kernel)), (List.mem_of_getElem? (i := 447) (by decide +kernel))⟩
theorem cf_Na_become_Na_claim : zd_cf m_Na_become m_Na_claim 1 := ⟨(List.mem_of_getElem? (i := 444) (by decide +kernel)), by decide +kernel, by decide, by decide, ⟨by decide, by decide⟩, by decide +kernel⟩
theorem cf_Na_become_Na_trim : zd_cf m_Na_become m_Na_trim 0 := ⟨(List.mem_of_getElem? (i := 457) (by decide +kernel)), by decide +kernel, by decide, by decide, ⟨by decide, by decide⟩, by decide +kernel⟩
theorem cf_Na_becomeProduct_Na_claim : zd_cf m_Na_becomeProduct m_Na_claim 1 := ⟨(List.mem_of_getElem? (i := 444) (by decide +kernel)), by decide +kernel, by decide, by decide, ⟨by decide, by decide⟩, by decide +kernel⟩
theorem cf_Na_becomeProduct_Na_trim : zd_cf m_Na_becomeProduct m_Na_trim 0 := ⟨(List.mem_of_getElem? (i := 457) (by decide +kernel)), by decide +kernel, by decide, by decide, ⟨by decide, by decide⟩, by decide +kernel⟩
theorem cf_Na_copy_Na_claim : zd_cf m_Na_copy m_Na_claim 1 := ⟨(List.mem_of_getElem? (i := 444) (by decide +kernel)), by decide +kernel, by decide, by decide, ⟨by decide, by decide⟩, by decide +kernel⟩
theorem cf_Na_increment_Na_claim : zd_cf m_Na_increment m_Na_claim 1 := ⟨(List.mem_of_getElem? (i := 444) (by decide +kernel)), by decide +kernel, by decide, by decide, ⟨by decide, by decide⟩, by decide +kernel⟩
theorem cf_Na_lowerBy_Na_trim : zd_cf m_Na_lowerBy m_Na_trim 0 := ⟨(List.mem_of_getElem? (i := 457) (by decide +kernel)), by decide +kernel, by decide, by decide, ⟨by decide, by decide⟩, by decide +kernel⟩
theorem cf_Na_move_Na_moveDown : zd_cf m_Na_move m_Na_moveDown 1 := ⟨(List.mem_of_getElem? (i := 543) (by decide +kernel)), by decide +kernel, by decide, by decide, ⟨by decide, by decide⟩, by decide +kernel⟩
theorem cf_Na_move_Na_moveUp : zd_cf m_Na_move m_Na_moveUp 1 := ⟨(List.mem_of_getElem? (i := 548) (by decide +kernel)), by decide +kernel, by decide, by decide, ⟨by decide, by decide⟩, by decide +kernel⟩
theorem cf_Na_moveDown_Na_trim : zd_cf m_Na_moveDown m_Na_trim 0 := ⟨(List.mem_of_getElem? (i := 457) (by decide +kernel)), by decide +kernel, by decide, by decide, ⟨by decide, by decide⟩, by decide +kernel⟩
theorem cf_Na_moveUp_Na_claim : zd_cf m_Na_moveUp m_Na_claim 1 := ⟨(List.mem_of_getElem? (i := 444) (by decide +kernel)), by decide +kernel, by decide, by decide, ⟨by decide, by decide⟩, by decide +kernel⟩
theorem cf_Na_moveUp_Na_digits : zd_cf m_Na_moveUp m_Na_digits 0 := ⟨(List.mem_of_getElem? (i := 476) (by decide +kernel)), by decide +kernel, by decide, by decide, ⟨by decide, by decide⟩, by decide +kernel⟩
theorem cf_Na_openDigits_Na_claim : zd_cf m_Na_openDigits m_Na_claim 1 := ⟨(List.mem_of_getElem? (i := 444) (by decide +kernel)), by decide +kernel, by decide, by decide, ⟨by decide, by decide⟩, by decide +kernel⟩
theorem cf_Na_order_In_compare : zd_cf m_Na_order m_In_compare 2 := ⟨(List.mem_of_getElem? (i := 567) (by decide +kernel)), by decide +kernel, by decide, by decide, ⟨by decide, by decide⟩, by decide +kernel⟩
theorem cf_Na_overSmall_Na_trim : zd_cf m_Na_overSmall m_Na_trim 0 := ⟨(List.mem_of_getElem? (i := 457) (by decide +kernel)), by decide +kernel, by decide, by decide, ⟨by decide, by decide⟩, by decide +kernel⟩
theorem cf_Na_raiseBy_Ma_max : zd_cf m_Na_raiseBy m_Ma_max 2 := ⟨(List.mem_of_getElem? (i := 525) (by decide +kernel)), by decide +kernel, by decide, by decide, ⟨by decide, by decide⟩, by decide +kernel⟩
theorem cf_Na_raiseBy_Na_claim : zd_cf m_Na_raiseBy m_Na_claim 1 := ⟨(List.mem_of_getElem? (i := 444) (by decide +kernel)), by decide +kernel, by decide, by decide, ⟨by decide, by decide⟩, by decide +kernel⟩
theorem cf_Na_raiseBy_Na_trim : zd_cf m_Na_raiseBy m_Na_trim 0 := ⟨(List.mem_of_getElem? (i := 457) (by decide +kernel)), by decide +kernel, by decide, by decide, ⟨by decide, by decide⟩, by decide +kernel⟩
theorem cf_Na_timesSmall_Na_claim : zd_cf m_Na_timesSmall m_Na_claim 1 := ⟨(List.mem_of_getElem? (i := 444) (by decide +kernel)), by decide +kernel, by decide, by decide, ⟨by decide, by decide⟩, by decide +kernel⟩
def dl_Ma_abs : List (Nat × Instr × Nat) := [(0, .iload_n 0, 1), (1, .ifCond .ge (8), 3), (4, .iload_n 0, 1), (5, .ineg, 1), (6, .goto (4), 3), (9, .iload_n 0, 1), (10, .ireturn, 1)]
theorem dc_Ma_abs : ∀ q ∈ dl_Ma_abs, decode (zd_yb m_Ma_abs) q.1 = .ok q.2 := by decide +kernel
def cd_Ma_abs (l : Launch) (B : zd_B) : List (Nat × zd_S) := [(0, oc_iload 0 1), (1, oc_if_ge 9 4), (4, oc_iload 0 5), (5, oc_ineg 6), (6, oc_goto 10), (9, oc_iload 0 10), (10, oc_iret .int)]
set_option maxRecDepth 20000 in
theorem ok_Ma_abs {l : Launch} {B : zd_B} (hG : zd_G B) (hl : l.stackTraces = false) : ∀ q ∈ cd_Ma_abs l B, zd_ok l B m_Ma_abs q.1 q.2 := by
  unfold cd_Ma_abs
  refine zd_ac (ok_iload_n (l := l) (B := B) (y := m_Ma_abs) (pc := 0) (k := 0) rfl (zd_dr dc_Ma_abs 0 rfl)) ?_
  refine zd_ac (ok_if_ge (l := l) (B := B) (y := m_Ma_abs) (pc := 1) (zd_dr dc_Ma_abs 1 rfl) (by decide)) ?_
  refine zd_ac (ok_iload_n (l := l) (B := B) (y := m_Ma_abs) (pc := 4) (k := 0) rfl (zd_dr dc_Ma_abs 2 rfl)) ?_
  refine zd_ac (ok_ineg (l := l) (B := B) (y := m_Ma_abs) (pc := 5) (zd_dr dc_Ma_abs 3 rfl)) ?_
  refine zd_ac (ok_goto (l := l) (B := B) (y := m_Ma_abs) (pc := 6) (zd_dr dc_Ma_abs 4 rfl) (by decide)) ?_
  refine zd_ac (ok_iload_n (l := l) (B := B) (y := m_Ma_abs) (pc := 9) (k := 0) rfl (zd_dr dc_Ma_abs 5 rfl)) ?_
  refine zd_ac (ok_iret (l := l) (B := B) (y := m_Ma_abs) (pc := 10) rfl (zd_dr dc_Ma_abs 6 rfl)) ?_
  exact zd_an
def dl_Ma_floorDiv : List (Nat × Instr × Nat) := [(0, .iload_n 0, 1), (1, .iload_n 1, 1), (2, .idiv, 1), (3, .istore_n 2, 1), (4, .iload_n 0, 1), (5, .iload_n 1, 1), (6, .ixor, 1), (7, .ifCond .ge (14), 3), (10, .iload_n 2, 1), (11, .iload_n 1, 1), (12, .imul, 1), (13, .iload_n 0, 1), (14, .if_icmp .eq (7), 3), (17, .iload_n 2, 1), (18, .iconst (1), 1), (19, .isub, 1), (20, .ireturn, 1), (21, .iload_n 2, 1), (22, .ireturn, 1)]
theorem dc_Ma_floorDiv : ∀ q ∈ dl_Ma_floorDiv, decode (zd_yb m_Ma_floorDiv) q.1 = .ok q.2 := by decide +kernel
def cd_Ma_floorDiv (l : Launch) (B : zd_B) : List (Nat × zd_S) := [(0, oc_iload 0 1), (1, oc_iload 1 2), (2, oc_idiv 3), (3, oc_istore 2 4), (4, oc_iload 0 5), (5, oc_iload 1 6), (6, oc_ixor 7), (7, oc_if_ge 21 10), (10, oc_iload 2 11), (11, oc_iload 1 12), (12, oc_imul 13), (13, oc_iload 0 14), (14, oc_icmp_eq 21 17), (17, oc_iload 2 18), (18, oc_ci (1) 19), (19, oc_isub 20), (20, oc_iret .int), (21, oc_iload 2 22), (22, oc_iret .int)]
set_option maxRecDepth 20000 in
theorem ok_Ma_floorDiv {l : Launch} {B : zd_B} (hG : zd_G B) (hl : l.stackTraces = false) : ∀ q ∈ cd_Ma_floorDiv l B, zd_ok l B m_Ma_floorDiv q.1 q.2 := by
  unfold cd_Ma_floorDiv
  refine zd_ac (ok_iload_n (l := l) (B := B) (y := m_Ma_floorDiv) (pc := 0) (k := 0) rfl (zd_dr dc_Ma_floorDiv 0 rfl)) ?_
  refine zd_ac (ok_iload_n (l := l) (B := B) (y := m_Ma_floorDiv) (pc := 1) (k := 1) rfl (zd_dr dc_Ma_floorDiv 1 rfl)) ?_
  refine zd_ac (ok_idiv (l := l) (B := B) (y := m_Ma_floorDiv) (pc := 2) (zd_dr dc_Ma_floorDiv 2 rfl)) ?_
  refine zd_ac (ok_istore_n (l := l) (B := B) (y := m_Ma_floorDiv) (pc := 3) (k := 2) rfl (zd_dr dc_Ma_floorDiv 3 rfl) (by decide)) ?_
  refine zd_ac (ok_iload_n (l := l) (B := B) (y := m_Ma_floorDiv) (pc := 4) (k := 0) rfl (zd_dr dc_Ma_floorDiv 4 rfl)) ?_
  refine zd_ac (ok_iload_n (l := l) (B := B) (y := m_Ma_floorDiv) (pc := 5) (k := 1) rfl (zd_dr dc_Ma_floorDiv 5 rfl)) ?_
  refine zd_ac (ok_ixor (l := l) (B := B) (y := m_Ma_floorDiv) (pc := 6) (zd_dr dc_Ma_floorDiv 6 rfl)) ?_
  refine zd_ac (ok_if_ge (l := l) (B := B) (y := m_Ma_floorDiv) (pc := 7) (zd_dr dc_Ma_floorDiv 7 rfl) (by decide)) ?_
  refine zd_ac (ok_iload_n (l := l) (B := B) (y := m_Ma_floorDiv) (pc := 10) (k := 2) rfl (zd_dr dc_Ma_floorDiv 8 rfl)) ?_
  refine zd_ac (ok_iload_n (l := l) (B := B) (y := m_Ma_floorDiv) (pc := 11) (k := 1) rfl (zd_dr dc_Ma_floorDiv 9 rfl)) ?_
  refine zd_ac (ok_imul (l := l) (B := B) (y := m_Ma_floorDiv) (pc := 12) (zd_dr dc_Ma_floorDiv 10 rfl)) ?_
  refine zd_ac (ok_iload_n (l := l) (B := B) (y := m_Ma_floorDiv) (pc := 13) (k := 0) rfl (zd_dr dc_Ma_floorDiv 11 rfl)) ?_
  refine zd_ac (ok_icmp_eq (l := l) (B := B) (y := m_Ma_floorDiv) (pc := 14) (zd_dr dc_Ma_floorDiv 12 rfl) (by decide)) ?_
  refine zd_ac (ok_iload_n (l := l) (B := B) (y := m_Ma_floorDiv) (pc := 17) (k := 2) rfl (zd_dr dc_Ma_floorDiv 13 rfl)) ?_
  refine zd_ac (ok_iconst (l := l) (B := B) (y := m_Ma_floorDiv) (pc := 18) (n := (1)) (zd_dr dc_Ma_floorDiv 14 rfl) rfl) ?_
  refine zd_ac (ok_isub (l := l) (B := B) (y := m_Ma_floorDiv) (pc := 19) (zd_dr dc_Ma_floorDiv 15 rfl)) ?_
  refine zd_ac (ok_iret (l := l) (B := B) (y := m_Ma_floorDiv) (pc := 20) rfl (zd_dr dc_Ma_floorDiv 16 rfl)) ?_
  refine zd_ac (ok_iload_n (l := l) (B := B) (y := m_Ma_floorDiv) (pc := 21) (k := 2) rfl (zd_dr dc_Ma_floorDiv 17 rfl)) ?_
  refine zd_ac (ok_iret (l := l) (B := B) (y := m_Ma_floorDiv) (pc := 22) rfl (zd_dr dc_Ma_floorDiv 18 rfl)) ?_
  exact zd_an
def dl_Ma_floorMod : List (Nat × Instr × Nat) := [(0, .iload_n 0, 1), (1, .iload_n 1, 1), (2, .irem, 1), (3, .istore_n 2, 1), (4, .iload_n 0, 1), (5, .iload_n 1, 1), (6, .ixor, 1), (7, .ifCond .ge (11), 3), (10, .iload_n 2, 1), (11, .ifCond .eq (7), 3), (14, .iload_n 2, 1), (15, .iload_n 1, 1), (16, .iadd, 1), (17, .ireturn, 1), (18, .iload_n 2, 1), (19, .ireturn, 1)]
theorem dc_Ma_floorMod : ∀ q ∈ dl_Ma_floorMod, decode (zd_yb m_Ma_floorMod) q.1 = .ok q.2 := by decide +kernel
def cd_Ma_floorMod (l : Launch) (B : zd_B) : List (Nat × zd_S) := [(0, oc_iload 0 1), (1, oc_iload 1 2), (2, oc_irem 3), (3, oc_istore 2 4), (4, oc_iload 0 5), (5, oc_iload 1 6), (6, oc_ixor 7), (7, oc_if_ge 18 10), (10, oc_iload 2 11), (11, oc_if_eq 18 14), (14, oc_iload 2 15), (15, oc_iload 1 16), (16, oc_iadd 17), (17, oc_iret .int), (18, oc_iload 2 19), (19, oc_iret .int)]
set_option maxRecDepth 20000 in
theorem ok_Ma_floorMod {l : Launch} {B : zd_B} (hG : zd_G B) (hl : l.stackTraces = false) : ∀ q ∈ cd_Ma_floorMod l B, zd_ok l B m_Ma_floorMod q.1 q.2 := by
  unfold cd_Ma_floorMod
  refine zd_ac (ok_iload_n (l := l) (B := B) (y := m_Ma_floorMod) (pc := 0) (k := 0) rfl (zd_dr dc_Ma_floorMod 0 rfl)) ?_
  refine zd_ac (ok_iload_n (l := l) (B := B) (y := m_Ma_floorMod) (pc := 1) (k := 1) rfl (zd_dr dc_Ma_floorMod 1 rfl)) ?_
  refine zd_ac (ok_irem (l := l) (B := B) (y := m_Ma_floorMod) (pc := 2) (zd_dr dc_Ma_floorMod 2 rfl)) ?_
  refine zd_ac (ok_istore_n (l := l) (B := B) (y := m_Ma_floorMod) (pc := 3) (k := 2) rfl (zd_dr dc_Ma_floorMod 3 rfl) (by decide)) ?_
  refine zd_ac (ok_iload_n (l := l) (B := B) (y := m_Ma_floorMod) (pc := 4) (k := 0) rfl (zd_dr dc_Ma_floorMod 4 rfl)) ?_
  refine zd_ac (ok_iload_n (l := l) (B := B) (y := m_Ma_floorMod) (pc := 5) (k := 1) rfl (zd_dr dc_Ma_floorMod 5 rfl)) ?_
  refine zd_ac (ok_ixor (l := l) (B := B) (y := m_Ma_floorMod) (pc := 6) (zd_dr dc_Ma_floorMod 6 rfl)) ?_
  refine zd_ac (ok_if_ge (l := l) (B := B) (y := m_Ma_floorMod) (pc := 7) (zd_dr dc_Ma_floorMod 7 rfl) (by decide)) ?_
  refine zd_ac (ok_iload_n (l := l) (B := B) (y := m_Ma_floorMod) (pc := 10) (k := 2) rfl (zd_dr dc_Ma_floorMod 8 rfl)) ?_
  refine zd_ac (ok_if_eq (l := l) (B := B) (y := m_Ma_floorMod) (pc := 11) (zd_dr dc_Ma_floorMod 9 rfl) (by decide)) ?_
  refine zd_ac (ok_iload_n (l := l) (B := B) (y := m_Ma_floorMod) (pc := 14) (k := 2) rfl (zd_dr dc_Ma_floorMod 10 rfl)) ?_
  refine zd_ac (ok_iload_n (l := l) (B := B) (y := m_Ma_floorMod) (pc := 15) (k := 1) rfl (zd_dr dc_Ma_floorMod 11 rfl)) ?_
  refine zd_ac (ok_iadd (l := l) (B := B) (y := m_Ma_floorMod) (pc := 16) (zd_dr dc_Ma_floorMod 12 rfl)) ?_
  refine zd_ac (ok_iret (l := l) (B := B) (y := m_Ma_floorMod) (pc := 17) rfl (zd_dr dc_Ma_floorMod 13 rfl)) ?_
  refine zd_ac (ok_iload_n (l := l) (B := B) (y := m_Ma_floorMod) (pc := 18) (k := 2) rfl (zd_dr dc_Ma_floorMod 14 rfl)) ?_
  refine zd_ac (ok_iret (l := l) (B := B) (y := m_Ma_floorMod) (pc := 19) rfl (zd_dr dc_Ma_floorMod 15 rfl)) ?_
  exact zd_an
def dl_Ma_max : List (Nat × Instr × Nat) := [(0, .iload_n 0, 1), (1, .iload_n 1, 1), (2, .if_icmp .lt (7), 3), (5, .iload_n 0, 1), (6, .goto (4), 3), (9, .iload_n 1, 1), (10, .ireturn, 1)]
theorem dc_Ma_max : ∀ q ∈ dl_Ma_max, decode (zd_yb m_Ma_max) q.1 = .ok q.2 := by decide +kernel
def cd_Ma_max (l : Launch) (B : zd_B) : List (Nat × zd_S) := [(0, oc_iload 0 1), (1, oc_iload 1 2), (2, oc_icmp_lt 9 5), (5, oc_iload 0 6), (6, oc_goto 10), (9, oc_iload 1 10), (10, oc_iret .int)]
set_option maxRecDepth 20000 in
theorem ok_Ma_max {l : Launch} {B : zd_B} (hG : zd_G B) (hl : l.stackTraces = false) : ∀ q ∈ cd_Ma_max l B, zd_ok l B m_Ma_max q.1 q.2 := by
  unfold cd_Ma_max
  refine zd_ac (ok_iload_n (l := l) (B := B) (y := m_Ma_max) (pc := 0) (k := 0) rfl (zd_dr dc_Ma_max 0 rfl)) ?_
  refine zd_ac (ok_iload_n (l := l) (B := B) (y := m_Ma_max) (pc := 1) (k := 1) rfl (zd_dr dc_Ma_max 1 rfl)) ?_
  refine zd_ac (ok_icmp_lt (l := l) (B := B) (y := m_Ma_max) (pc := 2) (zd_dr dc_Ma_max 2 rfl) (by decide)) ?_
  refine zd_ac (ok_iload_n (l := l) (B := B) (y := m_Ma_max) (pc := 5) (k := 0) rfl (zd_dr dc_Ma_max 3 rfl)) ?_
  refine zd_ac (ok_goto (l := l) (B := B) (y := m_Ma_max) (pc := 6) (zd_dr dc_Ma_max 4 rfl) (by decide)) ?_
  refine zd_ac (ok_iload_n (l := l) (B := B) (y := m_Ma_max) (pc := 9) (k := 1) rfl (zd_dr dc_Ma_max 5 rfl)) ?_
  refine zd_ac (ok_iret (l := l) (B := B) (y := m_Ma_max) (pc := 10) rfl (zd_dr dc_Ma_max 6 rfl)) ?_
  exact zd_an
def dl_Ma_min : List (Nat × Instr × Nat) := [(0, .iload_n 0, 1), (1, .iload_n 1, 1), (2, .if_icmp .gt (7), 3), (5, .iload_n 0, 1), (6, .goto (4), 3), (9, .iload_n 1, 1), (10, .ireturn, 1)]
theorem dc_Ma_min : ∀ q ∈ dl_Ma_min, decode (zd_yb m_Ma_min) q.1 = .ok q.2 := by decide +kernel
def cd_Ma_min (l : Launch) (B : zd_B) : List (Nat × zd_S) := [(0, oc_iload 0 1), (1, oc_iload 1 2), (2, oc_icmp_gt 9 5), (5, oc_iload 0 6), (6, oc_goto 10), (9, oc_iload 1 10), (10, oc_iret .int)]
set_option maxRecDepth 20000 in
theorem ok_Ma_min {l : Launch} {B : zd_B} (hG : zd_G B) (hl : l.stackTraces = false) : ∀ q ∈ cd_Ma_min l B, zd_ok l B m_Ma_min q.1 q.2 := by
  unfold cd_Ma_min
  refine zd_ac (ok_iload_n (l := l) (B := B) (y := m_Ma_min) (pc := 0) (k := 0) rfl (zd_dr dc_Ma_min 0 rfl)) ?_
  refine zd_ac (ok_iload_n (l := l) (B := B) (y := m_Ma_min) (pc := 1) (k := 1) rfl (zd_dr dc_Ma_min 1 rfl)) ?_
  refine zd_ac (ok_icmp_gt (l := l) (B := B) (y := m_Ma_min) (pc := 2) (zd_dr dc_Ma_min 2 rfl) (by decide)) ?_
  refine zd_ac (ok_iload_n (l := l) (B := B) (y := m_Ma_min) (pc := 5) (k := 0) rfl (zd_dr dc_Ma_min 3 rfl)) ?_
  refine zd_ac (ok_goto (l := l) (B := B) (y := m_Ma_min) (pc := 6) (zd_dr dc_Ma_min 4 rfl) (by decide)) ?_
  refine zd_ac (ok_iload_n (l := l) (B := B) (y := m_Ma_min) (pc := 9) (k := 1) rfl (zd_dr dc_Ma_min 5 rfl)) ?_
  refine zd_ac (ok_iret (l := l) (B := B) (y := m_Ma_min) (pc := 10) rfl (zd_dr dc_Ma_min 6 rfl)) ?_
  exact zd_an
def dl_In_compare : List (Nat × Instr × Nat) := [(0, .iload_n 0, 1), (1, .iload_n 1, 1), (2, .if_icmp .ge (7), 3), (5, .iconst (-1), 1), (6, .goto (13), 3), (9, .iload_n 0, 1), (10, .iload_n 1, 1), (11, .if_icmp .ne (7), 3), (14, .iconst (0), 1), (15, .goto (4), 3), (18, .iconst (1), 1), (19, .ireturn, 1)]
theorem dc_In_compare : ∀ q ∈ dl_In_compare, decode (zd_yb m_In_compare) q.1 = .ok q.2 := by decide +kernel
def cd_In_compare (l : Launch) (B : zd_B) : List (Nat × zd_S) := [(0, oc_iload 0 1), (1, oc_iload 1 2), (2, oc_icmp_ge 9 5), (5, oc_ci (-1) 6), (6, oc_goto 19), (9, oc_iload 0 10), (10, oc_iload 1 11), (11, oc_icmp_ne 18 14), (14, oc_ci (0) 15), (15, oc_goto 19), (18, oc_ci (1) 19), (19, oc_iret .int)]
set_option maxRecDepth 20000 in
theorem ok_In_compare {l : Launch} {B : zd_B} (hG : zd_G B) (hl : l.stackTraces = false) : ∀ q ∈ cd_In_compare l B, zd_ok l B m_In_compare q.1 q.2 := by
  unfold cd_In_compare
  refine zd_ac (ok_iload_n (l := l) (B := B) (y := m_In_compare) (pc := 0) (k := 0) rfl (zd_dr dc_In_compare 0 rfl)) ?_
  refine zd_ac (ok_iload_n (l := l) (B := B) (y := m_In_compare) (pc := 1) (k := 1) rfl (zd_dr dc_In_compare 1 rfl)) ?_
  refine zd_ac (ok_icmp_ge (l := l) (B := B) (y := m_In_compare) (pc := 2) (zd_dr dc_In_compare 2 rfl) (by decide)) ?_
  refine zd_ac (ok_iconst (l := l) (B := B) (y := m_In_compare) (pc := 5) (n := (-1)) (zd_dr dc_In_compare 3 rfl) rfl) ?_
  refine zd_ac (ok_goto (l := l) (B := B) (y := m_In_compare) (pc := 6) (zd_dr dc_In_compare 4 rfl) (by decide)) ?_
  refine zd_ac (ok_iload_n (l := l) (B := B) (y := m_In_compare) (pc := 9) (k := 0) rfl (zd_dr dc_In_compare 5 rfl)) ?_
  refine zd_ac (ok_iload_n (l := l) (B := B) (y := m_In_compare) (pc := 10) (k := 1) rfl (zd_dr dc_In_compare 6 rfl)) ?_
  refine zd_ac (ok_icmp_ne (l := l) (B := B) (y := m_In_compare) (pc := 11) (zd_dr dc_In_compare 7 rfl) (by decide)) ?_
  refine zd_ac (ok_iconst (l := l) (B := B) (y := m_In_compare) (pc := 14) (n := (0)) (zd_dr dc_In_compare 8 rfl) rfl) ?_
  refine zd_ac (ok_goto (l := l) (B := B) (y := m_In_compare) (pc := 15) (zd_dr dc_In_compare 9 rfl) (by decide)) ?_
  refine zd_ac (ok_iconst (l := l) (B := B) (y := m_In_compare) (pc := 18) (n := (1)) (zd_dr dc_In_compare 10 rfl) rfl) ?_
  refine zd_ac (ok_iret (l := l) (B := B) (y := m_In_compare) (pc := 19) rfl (zd_dr dc_In_compare 11 rfl)) ?_
  exact zd_an
def dl_Na_init : List (Nat × Instr × Nat) := [(0, .aload_n 0, 1), (1, .invokespecial 3, 3), (4, .aload_n 0, 1), (5, .iload_n 1, 1), (6, .newarray .int, 2), (8, .putfield 9, 3), (11, .return_, 1)]
theorem dc_Na_init : ∀ q ∈ dl_Na_init, decode (zd_yb m_Na_init) q.1 = .ok q.2 := by decide +kernel
def cd_Na_init (l : Launch) (B : zd_B) : List (Nat × zd_S) := [(0, oc_aload 0 1), (1, oc_oinit 4), (4, oc_aload 0 5), (5, oc_iload 1 6), (6, oc_newa B 0 8), (8, oc_putf B (zy4 0) 4 0 11), (11, oc_vret)]
set_option maxRecDepth 20000 in
theorem ok_Na_init {l : Launch} {B : zd_B} (hG : zd_G B) (hl : l.stackTraces = false) : ∀ q ∈ cd_Na_init l B, zd_ok l B m_Na_init q.1 q.2 := by
  unfold cd_Na_init
  refine zd_ac (ok_aload_n (l := l) (B := B) (y := m_Na_init) (pc := 0) (k := 0) rfl (zd_dr dc_Na_init 0 rfl)) ?_
  refine zd_ac (ok_oinit (l := l) (B := B) (y := m_Na_init) (pc := 1) hG (List.mem_of_getElem? (i := 95) (by decide +kernel)) (List.mem_of_getElem? (i := 81) (by decide +kernel)) (List.mem_of_getElem? (i := 82) (by decide +kernel)) (by decide) (by decide) (zd_dr dc_Na_init 1 rfl)) ?_
  refine zd_ac (ok_aload_n (l := l) (B := B) (y := m_Na_init) (pc := 4) (k := 0) rfl (zd_dr dc_Na_init 2 rfl)) ?_
  refine zd_ac (ok_iload_n (l := l) (B := B) (y := m_Na_init) (pc := 5) (k := 1) rfl (zd_dr dc_Na_init 3 rfl)) ?_
  refine zd_ac (ok_newa_int (l := l) (B := B) (y := m_Na_init) (pc := 6) hG (List.mem_of_getElem? (i := 106) (by decide +kernel)) (zd_dr dc_Na_init 4 rfl)) ?_
  refine zd_ac (ok_putfF (l := l) (B := B) (y := m_Na_init) (pc := 8) hG (C := zR4) (T := zT4) (N := 2) (ci := 4) (k := 0) rfl zl4 zt4 (by decide) (List.mem_of_getElem? (i := 96) (by decide +kernel)) rfl rfl rfl (zd_dr dc_Na_init 5 rfl)) ?_
  refine zd_ac (ok_vret (l := l) (B := B) (y := m_Na_init) (pc := 11) rfl (zd_dr dc_Na_init 6 rfl)) ?_
  exact zd_an
def dl_Na_isZero : List (Nat × Instr × Nat) := [(0, .aload_n 0, 1), (1, .getfield 15, 3), (4, .ifCond .ne (7), 3), (7, .iconst (1), 1), (8, .goto (4), 3), (11, .iconst (0), 1), (12, .ireturn, 1)]
theorem dc_Na_isZero : ∀ q ∈ dl_Na_isZero, decode (zd_yb m_Na_isZero) q.1 = .ok q.2 := by decide +kernel
def cd_Na_isZero (l : Launch) (B : zd_B) : List (Nat × zd_S) := [(0, oc_aload 0 1), (1, oc_getf B 4 1 4), (4, oc_if_ne 11 7), (7, oc_ci (1) 8), (8, oc_goto 12), (11, oc_ci (0) 12), (12, oc_iret .boolean)]
set_option maxRecDepth 20000 in
theorem ok_Na_isZero {l : Launch} {B : zd_B} (hG : zd_G B) (hl : l.stackTraces = false) : ∀ q ∈ cd_Na_isZero l B, zd_ok l B m_Na_isZero q.1 q.2 := by
  unfold cd_Na_isZero
  refine zd_ac (ok_aload_n (l := l) (B := B) (y := m_Na_isZero) (pc := 0) (k := 0) rfl (zd_dr dc_Na_isZero 0 rfl)) ?_
  refine zd_ac (ok_getf (l := l) (B := B) (y := m_Na_isZero) (pc := 1) hG (C := zR4) (T := zT4) (N := 2) (ci := 4) (k := 1) rfl zl4 (by decide) (List.mem_of_getElem? (i := 98) (by decide +kernel)) (zd_dr dc_Na_isZero 1 rfl)) ?_
  refine zd_ac (ok_if_ne (l := l) (B := B) (y := m_Na_isZero) (pc := 4) (zd_dr dc_Na_isZero 2 rfl) (by decide)) ?_
  refine zd_ac (ok_iconst (l := l) (B := B) (y := m_Na_isZero) (pc := 7) (n := (1)) (zd_dr dc_Na_isZero 3 rfl) rfl) ?_
  refine zd_ac (ok_goto (l := l) (B := B) (y := m_Na_isZero) (pc := 8) (zd_dr dc_Na_isZero 4 rfl) (by decide)) ?_
  refine zd_ac (ok_iconst (l := l) (B := B) (y := m_Na_isZero) (pc := 11) (n := (0)) (zd_dr dc_Na_isZero 5 rfl) rfl) ?_
  refine zd_ac (ok_iret (l := l) (B := B) (y := m_Na_isZero) (pc := 12) rfl (zd_dr dc_Na_isZero 6 rfl)) ?_
  exact zd_an
def dl_Na_digits : List (Nat × Instr × Nat) := [(0, .aload_n 0, 1), (1, .getfield 15, 3), (4, .ifCond .ne (5), 3), (7, .iconst (1), 1), (8, .ireturn, 1), (9, .iconst (1), 1), (10, .istore_n 1, 1), (11, .iload_n 1, 1), (12, .bipush (9), 2), (14, .if_icmp .ge (28), 3), (17, .aload_n 0, 1), (18, .getfield 9, 3), (21, .aload_n 0, 1), (22, .getfield 15, 3), (25, .iconst (1), 1), (26, .isub, 1), (27, .iaload, 1), (28, .getstatic 19, 3), (31, .iload_n 1, 1), (32, .iaload, 1), (33, .if_icmp .lt (9), 3), (36, .iinc 1 (1), 3), (39, .goto (-28), 3), (42, .aload_n 0, 1), (43, .getfield 15, 3), (46, .iconst (1), 1), (47, .isub, 1), (48, .bipush (9), 2), (50, .imul, 1), (51, .iload_n 1, 1), (52, .iadd, 1), (53, .ireturn, 1)]
theorem dc_Na_digits : ∀ q ∈ dl_Na_digits, decode (zd_yb m_Na_digits) q.1 = .ok q.2 := by decide +kernel
def cd_Na_digits (l : Launch) (B : zd_B) : List (Nat × zd_S) := [(0, oc_aload 0 1), (1, oc_getf B 4 1 4), (4, oc_if_ne 9 7), (7, oc_ci (1) 8), (8, oc_iret .int), (9, oc_ci (1) 10), (10, oc_istore 1 11), (11, oc_iload 1 12), (12, oc_ci (9) 14), (14, oc_icmp_ge 42 17), (17, oc_aload 0 18), (18, oc_getf B 4 0 21), (21, oc_aload 0 22), (22, oc_getf B 4 1 25), (25, oc_ci (1) 26), (26, oc_isub 27), (27, oc_iaload B 28), (28, oc_tens B 31), (31, oc_iload 1 32), (32, oc_iaload B 33), (33, oc_icmp_lt 42 36), (36, oc_iinc 1 (1) 39), (39, oc_goto 11), (42, oc_aload 0 43), (43, oc_getf B 4 1 46), (46, oc_ci (1) 47), (47, oc_isub 48), (48, oc_ci (9) 50), (50, oc_imul 51), (51, oc_iload 1 52), (52, oc_iadd 53), (53, oc_iret .int)]
set_option maxRecDepth 20000 in
theorem ok_Na_digits {l : Launch} {B : zd_B} (hG : zd_G B) (hl : l.stackTraces = false) : ∀ q ∈ cd_Na_digits l B, zd_ok l B m_Na_digits q.1 q.2 := by
  unfold cd_Na_digits
  refine zd_ac (ok_aload_n (l := l) (B := B) (y := m_Na_digits) (pc := 0) (k := 0) rfl (zd_dr dc_Na_digits 0 rfl)) ?_
  refine zd_ac (ok_getf (l := l) (B := B) (y := m_Na_digits) (pc := 1) hG (C := zR4) (T := zT4) (N := 2) (ci := 4) (k := 1) rfl zl4 (by decide) (List.mem_of_getElem? (i := 98) (by decide +kernel)) (zd_dr dc_Na_digits 1 rfl)) ?_
  refine zd_ac (ok_if_ne (l := l) (B := B) (y := m_Na_digits) (pc := 4) (zd_dr dc_Na_digits 2 rfl) (by decide)) ?_
  refine zd_ac (ok_iconst (l := l) (B := B) (y := m_Na_digits) (pc := 7) (n := (1)) (zd_dr dc_Na_digits 3 rfl) rfl) ?_
  refine zd_ac (ok_iret (l := l) (B := B) (y := m_Na_digits) (pc := 8) rfl (zd_dr dc_Na_digits 4 rfl)) ?_
  refine zd_ac (ok_iconst (l := l) (B := B) (y := m_Na_digits) (pc := 9) (n := (1)) (zd_dr dc_Na_digits 5 rfl) rfl) ?_
  refine zd_ac (ok_istore_n (l := l) (B := B) (y := m_Na_digits) (pc := 10) (k := 1) rfl (zd_dr dc_Na_digits 6 rfl) (by decide)) ?_
  refine zd_ac (ok_iload_n (l := l) (B := B) (y := m_Na_digits) (pc := 11) (k := 1) rfl (zd_dr dc_Na_digits 7 rfl)) ?_
  refine zd_ac (ok_bipush (l := l) (B := B) (y := m_Na_digits) (pc := 12) (n := (9)) (zd_dr dc_Na_digits 8 rfl) rfl) ?_
  refine zd_ac (ok_icmp_ge (l := l) (B := B) (y := m_Na_digits) (pc := 14) (zd_dr dc_Na_digits 9 rfl) (by decide)) ?_
  refine zd_ac (ok_aload_n (l := l) (B := B) (y := m_Na_digits) (pc := 17) (k := 0) rfl (zd_dr dc_Na_digits 10 rfl)) ?_
  refine zd_ac (ok_getf (l := l) (B := B) (y := m_Na_digits) (pc := 18) hG (C := zR4) (T := zT4) (N := 2) (ci := 4) (k := 0) rfl zl4 (by decide) (List.mem_of_getElem? (i := 96) (by decide +kernel)) (zd_dr dc_Na_digits 11 rfl)) ?_
  refine zd_ac (ok_aload_n (l := l) (B := B) (y := m_Na_digits) (pc := 21) (k := 0) rfl (zd_dr dc_Na_digits 12 rfl)) ?_
  refine zd_ac (ok_getf (l := l) (B := B) (y := m_Na_digits) (pc := 22) hG (C := zR4) (T := zT4) (N := 2) (ci := 4) (k := 1) rfl zl4 (by decide) (List.mem_of_getElem? (i := 98) (by decide +kernel)) (zd_dr dc_Na_digits 13 rfl)) ?_
  refine zd_ac (ok_iconst (l := l) (B := B) (y := m_Na_digits) (pc := 25) (n := (1)) (zd_dr dc_Na_digits 14 rfl) rfl) ?_
  refine zd_ac (ok_isub (l := l) (B := B) (y := m_Na_digits) (pc := 26) (zd_dr dc_Na_digits 15 rfl)) ?_
  refine zd_ac (ok_iaload (l := l) (B := B) (y := m_Na_digits) (pc := 27) hG (zd_dr dc_Na_digits 16 rfl)) ?_
  refine zd_ac (ok_tensN (l := l) (B := B) (y := m_Na_digits) (pc := 28) (host := "DecimalDesk") hG (List.mem_of_getElem? (i := 452) (by decide +kernel)) (zd_dr dc_Na_digits 17 rfl)) ?_
  refine zd_ac (ok_iload_n (l := l) (B := B) (y := m_Na_digits) (pc := 31) (k := 1) rfl (zd_dr dc_Na_digits 18 rfl)) ?_
  refine zd_ac (ok_iaload (l := l) (B := B) (y := m_Na_digits) (pc := 32) hG (zd_dr dc_Na_digits 19 rfl)) ?_
  refine zd_ac (ok_icmp_lt (l := l) (B := B) (y := m_Na_digits) (pc := 33) (zd_dr dc_Na_digits 20 rfl) (by decide)) ?_
  refine zd_ac (ok_iinc (l := l) (B := B) (y := m_Na_digits) (pc := 36) (zd_dr dc_Na_digits 21 rfl) (by decide) rfl) ?_
  refine zd_ac (ok_goto (l := l) (B := B) (y := m_Na_digits) (pc := 39) (zd_dr dc_Na_digits 22 rfl) (by decide)) ?_
  refine zd_ac (ok_aload_n (l := l) (B := B) (y := m_Na_digits) (pc := 42) (k := 0) rfl (zd_dr dc_Na_digits 23 rfl)) ?_
  refine zd_ac (ok_getf (l := l) (B := B) (y := m_Na_digits) (pc := 43) hG (C := zR4) (T := zT4) (N := 2) (ci := 4) (k := 1) rfl zl4 (by decide) (List.mem_of_getElem? (i := 98) (by decide +kernel)) (zd_dr dc_Na_digits 24 rfl)) ?_
  refine zd_ac (ok_iconst (l := l) (B := B) (y := m_Na_digits) (pc := 46) (n := (1)) (zd_dr dc_Na_digits 25 rfl) rfl) ?_
  refine zd_ac (ok_isub (l := l) (B := B) (y := m_Na_digits) (pc := 47) (zd_dr dc_Na_digits 26 rfl)) ?_
  refine zd_ac (ok_bipush (l := l) (B := B) (y := m_Na_digits) (pc := 48) (n := (9)) (zd_dr dc_Na_digits 27 rfl) rfl) ?_
  refine zd_ac (ok_imul (l := l) (B := B) (y := m_Na_digits) (pc := 50) (zd_dr dc_Na_digits 28 rfl)) ?_
  refine zd_ac (ok_iload_n (l := l) (B := B) (y := m_Na_digits) (pc := 51) (k := 1) rfl (zd_dr dc_Na_digits 29 rfl)) ?_
  refine zd_ac (ok_iadd (l := l) (B := B) (y := m_Na_digits) (pc := 52) (zd_dr dc_Na_digits 30 rfl)) ?_
  refine zd_ac (ok_iret (l := l) (B := B) (y := m_Na_digits) (pc := 53) rfl (zd_dr dc_Na_digits 31 rfl)) ?_
  exact zd_an
def dl_Na_digitAt : List (Nat × Instr × Nat) := [(0, .iload_n 1, 1), (1, .ifCond .lt (14), 3), (4, .iload_n 1, 1), (5, .bipush (9), 2), (7, .idiv, 1), (8, .aload_n 0, 1), (9, .getfield 15, 3), (12, .if_icmp .lt (5), 3), (15, .iconst (0), 1), (16, .ireturn, 1), (17, .aload_n 0, 1), (18, .getfield 9, 3), (21, .iload_n 1, 1), (22, .bipush (9), 2), (24, .idiv, 1), (25, .iaload, 1), (26, .getstatic 19, 3), (29, .iload_n 1, 1), (30, .bipush (9), 2), (32, .irem, 1), (33, .iaload, 1), (34, .idiv, 1), (35, .bipush (10), 2), (37, .irem, 1), (38, .ireturn, 1)]
theorem dc_Na_digitAt : ∀ q ∈ dl_Na_digitAt, decode (zd_yb m_Na_digitAt) q.1 = .ok q.2 := by decide +kernel
def cd_Na_digitAt (l : Launch) (B : zd_B) : List (Nat × zd_S) := [(0, oc_iload 1 1), (1, oc_if_lt 15 4), (4, oc_iload 1 5), (5, oc_ci (9) 7), (7, oc_idiv 8), (8, oc_aload 0 9), (9, oc_getf B 4 1 12), (12, oc_icmp_lt 17 15), (15, oc_ci (0) 16), (16, oc_iret .int), (17, oc_aload 0 18), (18, oc_getf B 4 0 21), (21, oc_iload 1 22), (22, oc_ci (9) 24), (24, oc_idiv 25), (25, oc_iaload B 26), (26, oc_tens B 29), (29, oc_iload 1 30), (30, oc_ci (9) 32), (32, oc_irem 33), (33, oc_iaload B 34), (34, oc_idiv 35), (35, oc_ci (10) 37), (37, oc_irem 38), (38, oc_iret .int)]
set_option maxRecDepth 20000 in
theorem ok_Na_digitAt {l : Launch} {B : zd_B} (hG : zd_G B) (hl : l.stackTraces = false) : ∀ q ∈ cd_Na_digitAt l B, zd_ok l B m_Na_digitAt q.1 q.2 := by
  unfold cd_Na_digitAt
  refine zd_ac (ok_iload_n (l := l) (B := B) (y := m_Na_digitAt) (pc := 0) (k := 1) rfl (zd_dr dc_Na_digitAt 0 rfl)) ?_
  refine zd_ac (ok_if_lt (l := l) (B := B) (y := m_Na_digitAt) (pc := 1) (zd_dr dc_Na_digitAt 1 rfl) (by decide)) ?_
  refine zd_ac (ok_iload_n (l := l) (B := B) (y := m_Na_digitAt) (pc := 4) (k := 1) rfl (zd_dr dc_Na_digitAt 2 rfl)) ?_
  refine zd_ac (ok_bipush (l := l) (B := B) (y := m_Na_digitAt) (pc := 5) (n := (9)) (zd_dr dc_Na_digitAt 3 rfl) rfl) ?_
  refine zd_ac (ok_idiv (l := l) (B := B) (y := m_Na_digitAt) (pc := 7) (zd_dr dc_Na_digitAt 4 rfl)) ?_
  refine zd_ac (ok_aload_n (l := l) (B := B) (y := m_Na_digitAt) (pc := 8) (k := 0) rfl (zd_dr dc_Na_digitAt 5 rfl)) ?_
  refine zd_ac (ok_getf (l := l) (B := B) (y := m_Na_digitAt) (pc := 9) hG (C := zR4) (T := zT4) (N := 2) (ci := 4) (k := 1) rfl zl4 (by decide) (List.mem_of_getElem? (i := 98) (by decide +kernel)) (zd_dr dc_Na_digitAt 6 rfl)) ?_
  refine zd_ac (ok_icmp_lt (l := l) (B := B) (y := m_Na_digitAt) (pc := 12) (zd_dr dc_Na_digitAt 7 rfl) (by decide)) ?_
  refine zd_ac (ok_iconst (l := l) (B := B) (y := m_Na_digitAt) (pc := 15) (n := (0)) (zd_dr dc_Na_digitAt 8 rfl) rfl) ?_
  refine zd_ac (ok_iret (l := l) (B := B) (y := m_Na_digitAt) (pc := 16) rfl (zd_dr dc_Na_digitAt 9 rfl)) ?_
  refine zd_ac (ok_aload_n (l := l) (B := B) (y := m_Na_digitAt) (pc := 17) (k := 0) rfl (zd_dr dc_Na_digitAt 10 rfl)) ?_
  refine zd_ac (ok_getf (l := l) (B := B) (y := m_Na_digitAt) (pc := 18) hG (C := zR4) (T := zT4) (N := 2) (ci := 4) (k := 0) rfl zl4 (by decide) (List.mem_of_getElem? (i := 96) (by decide +kernel)) (zd_dr dc_Na_digitAt 11 rfl)) ?_
  refine zd_ac (ok_iload_n (l := l) (B := B) (y := m_Na_digitAt) (pc := 21) (k := 1) rfl (zd_dr dc_Na_digitAt 12 rfl)) ?_
  refine zd_ac (ok_bipush (l := l) (B := B) (y := m_Na_digitAt) (pc := 22) (n := (9)) (zd_dr dc_Na_digitAt 13 rfl) rfl) ?_
  refine zd_ac (ok_idiv (l := l) (B := B) (y := m_Na_digitAt) (pc := 24) (zd_dr dc_Na_digitAt 14 rfl)) ?_
  refine zd_ac (ok_iaload (l := l) (B := B) (y := m_Na_digitAt) (pc := 25) hG (zd_dr dc_Na_digitAt 15 rfl)) ?_
  refine zd_ac (ok_tensN (l := l) (B := B) (y := m_Na_digitAt) (pc := 26) (host := "DecimalDesk") hG (List.mem_of_getElem? (i := 452) (by decide +kernel)) (zd_dr dc_Na_digitAt 16 rfl)) ?_
  refine zd_ac (ok_iload_n (l := l) (B := B) (y := m_Na_digitAt) (pc := 29) (k := 1) rfl (zd_dr dc_Na_digitAt 17 rfl)) ?_
  refine zd_ac (ok_bipush (l := l) (B := B) (y := m_Na_digitAt) (pc := 30) (n := (9)) (zd_dr dc_Na_digitAt 18 rfl) rfl) ?_
  refine zd_ac (ok_irem (l := l) (B := B) (y := m_Na_digitAt) (pc := 32) (zd_dr dc_Na_digitAt 19 rfl)) ?_
  refine zd_ac (ok_iaload (l := l) (B := B) (y := m_Na_digitAt) (pc := 33) hG (zd_dr dc_Na_digitAt 20 rfl)) ?_
  refine zd_ac (ok_idiv (l := l) (B := B) (y := m_Na_digitAt) (pc := 34) (zd_dr dc_Na_digitAt 21 rfl)) ?_
  refine zd_ac (ok_bipush (l := l) (B := B) (y := m_Na_digitAt) (pc := 35) (n := (10)) (zd_dr dc_Na_digitAt 22 rfl) rfl) ?_
  refine zd_ac (ok_irem (l := l) (B := B) (y := m_Na_digitAt) (pc := 37) (zd_dr dc_Na_digitAt 23 rfl)) ?_
  refine zd_ac (ok_iret (l := l) (B := B) (y := m_Na_digitAt) (pc := 38) rfl (zd_dr dc_Na_digitAt 24 rfl)) ?_
  exact zd_an
def dl_Na_trailingZeros : List (Nat × Instr × Nat) := [(0, .iconst (0), 1), (1, .istore_n 1, 1), (2, .iload_n 1, 1), (3, .aload_n 0, 1), (4, .getfield 15, 3), (7, .if_icmp .ge (18), 3), (10, .aload_n 0, 1), (11, .getfield 9, 3), (14, .iload_n 1, 1), (15, .iaload, 1), (16, .ifCond .ne (9), 3), (19, .iinc 1 (1), 3), (22, .goto (-20), 3), (25, .iload_n 1, 1), (26, .aload_n 0, 1), (27, .getfield 15, 3), (30, .if_icmp .ne (5), 3), (33, .iconst (0), 1), (34, .ireturn, 1), (35, .iconst (0), 1), (36, .istore_n 2, 1), (37, .iload_n 2, 1), (38, .bipush (8), 2), (40, .if_icmp .ge (26), 3), (43, .aload_n 0, 1), (44, .getfield 9, 3), (47, .iload_n 1, 1), (48, .iaload, 1), (49, .getstatic 19, 3), (52, .iload_n 2, 1), (53, .iconst (1), 1), (54, .iadd, 1), (55, .iaload, 1), (56, .irem, 1), (57, .ifCond .ne (9), 3), (60, .iinc 2 (1), 3), (63, .goto (-26), 3), (66, .iload_n 1, 1), (67, .bipush (9), 2), (69, .imul, 1), (70, .iload_n 2, 1), (71, .iadd, 1), (72, .ireturn, 1)]
theorem dc_Na_trailingZeros : ∀ q ∈ dl_Na_trailingZeros, decode (zd_yb m_Na_trailingZeros) q.1 = .ok q.2 := by decide +kernel
def cd_Na_trailingZeros (l : Launch) (B : zd_B) : List (Nat × zd_S) := [(0, oc_ci (0) 1), (1, oc_istore 1 2), (2, oc_iload 1 3), (3, oc_aload 0 4), (4, oc_getf B 4 1 7), (7, oc_icmp_ge 25 10), (10, oc_aload 0 11), (11, oc_getf B 4 0 14), (14, oc_iload 1 15), (15, oc_iaload B 16), (16, oc_if_ne 25 19), (19, oc_iinc 1 (1) 22), (22, oc_goto 2), (25, oc_iload 1 26), (26, oc_aload 0 27), (27, oc_getf B 4 1 30), (30, oc_icmp_ne 35 33), (33, oc_ci (0) 34), (34, oc_iret .int), (35, oc_ci (0) 36), (36, oc_istore 2 37), (37, oc_iload 2 38), (38, oc_ci (8) 40), (40, oc_icmp_ge 66 43), (43, oc_aload 0 44), (44, oc_getf B 4 0 47), (47, oc_iload 1 48), (48, oc_iaload B 49), (49, oc_tens B 52), (52, oc_iload 2 53), (53, oc_ci (1) 54), (54, oc_iadd 55), (55, oc_iaload B 56), (56, oc_irem 57), (57, oc_if_ne 66 60), (60, oc_iinc 2 (1) 63), (63, oc_goto 37), (66, oc_iload 1 67), (67, oc_ci (9) 69), (69, oc_imul 70), (70, oc_iload 2 71), (71, oc_iadd 72), (72, oc_iret .int)]
set_option maxRecDepth 20000 in
theorem ok_Na_trailingZeros {l : Launch} {B : zd_B} (hG : zd_G B) (hl : l.stackTraces = false) : ∀ q ∈ cd_Na_trailingZeros l B, zd_ok l B m_Na_trailingZeros q.1 q.2 := by
  unfold cd_Na_trailingZeros
  refine zd_ac (ok_iconst (l := l) (B := B) (y := m_Na_trailingZeros) (pc := 0) (n := (0)) (zd_dr dc_Na_trailingZeros 0 rfl) rfl) ?_
  refine zd_ac (ok_istore_n (l := l) (B := B) (y := m_Na_trailingZeros) (pc := 1) (k := 1) rfl (zd_dr dc_Na_trailingZeros 1 rfl) (by decide)) ?_
  refine zd_ac (ok_iload_n (l := l) (B := B) (y := m_Na_trailingZeros) (pc := 2) (k := 1) rfl (zd_dr dc_Na_trailingZeros 2 rfl)) ?_
  refine zd_ac (ok_aload_n (l := l) (B := B) (y := m_Na_trailingZeros) (pc := 3) (k := 0) rfl (zd_dr dc_Na_trailingZeros 3 rfl)) ?_
  refine zd_ac (ok_getf (l := l) (B := B) (y := m_Na_trailingZeros) (pc := 4) hG (C := zR4) (T := zT4) (N := 2) (ci := 4) (k := 1) rfl zl4 (by decide) (List.mem_of_getElem? (i := 98) (by decide +kernel)) (zd_dr dc_Na_trailingZeros 4 rfl)) ?_
  refine zd_ac (ok_icmp_ge (l := l) (B := B) (y := m_Na_trailingZeros) (pc := 7) (zd_dr dc_Na_trailingZeros 5 rfl) (by decide)) ?_
  refine zd_ac (ok_aload_n (l := l) (B := B) (y := m_Na_trailingZeros) (pc := 10) (k := 0) rfl (zd_dr dc_Na_trailingZeros 6 rfl)) ?_
  refine zd_ac (ok_getf (l := l) (B := B) (y := m_Na_trailingZeros) (pc := 11) hG (C := zR4) (T := zT4) (N := 2) (ci := 4) (k := 0) rfl zl4 (by decide) (List.mem_of_getElem? (i := 96) (by decide +kernel)) (zd_dr dc_Na_trailingZeros 7 rfl)) ?_
  refine zd_ac (ok_iload_n (l := l) (B := B) (y := m_Na_trailingZeros) (pc := 14) (k := 1) rfl (zd_dr dc_Na_trailingZeros 8 rfl)) ?_
  refine zd_ac (ok_iaload (l := l) (B := B) (y := m_Na_trailingZeros) (pc := 15) hG (zd_dr dc_Na_trailingZeros 9 rfl)) ?_
  refine zd_ac (ok_if_ne (l := l) (B := B) (y := m_Na_trailingZeros) (pc := 16) (zd_dr dc_Na_trailingZeros 10 rfl) (by decide)) ?_
  refine zd_ac (ok_iinc (l := l) (B := B) (y := m_Na_trailingZeros) (pc := 19) (zd_dr dc_Na_trailingZeros 11 rfl) (by decide) rfl) ?_
  refine zd_ac (ok_goto (l := l) (B := B) (y := m_Na_trailingZeros) (pc := 22) (zd_dr dc_Na_trailingZeros 12 rfl) (by decide)) ?_
  refine zd_ac (ok_iload_n (l := l) (B := B) (y := m_Na_trailingZeros) (pc := 25) (k := 1) rfl (zd_dr dc_Na_trailingZeros 13 rfl)) ?_
  refine zd_ac (ok_aload_n (l := l) (B := B) (y := m_Na_trailingZeros) (pc := 26) (k := 0) rfl (zd_dr dc_Na_trailingZeros 14 rfl)) ?_
  refine zd_ac (ok_getf (l := l) (B := B) (y := m_Na_trailingZeros) (pc := 27) hG (C := zR4) (T := zT4) (N := 2) (ci := 4) (k := 1) rfl zl4 (by decide) (List.mem_of_getElem? (i := 98) (by decide +kernel)) (zd_dr dc_Na_trailingZeros 15 rfl)) ?_
  refine zd_ac (ok_icmp_ne (l := l) (B := B) (y := m_Na_trailingZeros) (pc := 30) (zd_dr dc_Na_trailingZeros 16 rfl) (by decide)) ?_
  refine zd_ac (ok_iconst (l := l) (B := B) (y := m_Na_trailingZeros) (pc := 33) (n := (0)) (zd_dr dc_Na_trailingZeros 17 rfl) rfl) ?_
  refine zd_ac (ok_iret (l := l) (B := B) (y := m_Na_trailingZeros) (pc := 34) rfl (zd_dr dc_Na_trailingZeros 18 rfl)) ?_
  refine zd_ac (ok_iconst (l := l) (B := B) (y := m_Na_trailingZeros) (pc := 35) (n := (0)) (zd_dr dc_Na_trailingZeros 19 rfl) rfl) ?_
  refine zd_ac (ok_istore_n (l := l) (B := B) (y := m_Na_trailingZeros) (pc := 36) (k := 2) rfl (zd_dr dc_Na_trailingZeros 20 rfl) (by decide)) ?_
  refine zd_ac (ok_iload_n (l := l) (B := B) (y := m_Na_trailingZeros) (pc := 37) (k := 2) rfl (zd_dr dc_Na_trailingZeros 21 rfl)) ?_
  refine zd_ac (ok_bipush (l := l) (B := B) (y := m_Na_trailingZeros) (pc := 38) (n := (8)) (zd_dr dc_Na_trailingZeros 22 rfl) rfl) ?_
  refine zd_ac (ok_icmp_ge (l := l) (B := B) (y := m_Na_trailingZeros) (pc := 40) (zd_dr dc_Na_trailingZeros 23 rfl) (by decide)) ?_
  refine zd_ac (ok_aload_n (l := l) (B := B) (y := m_Na_trailingZeros) (pc := 43) (k := 0) rfl (zd_dr dc_Na_trailingZeros 24 rfl)) ?_
  refine zd_ac (ok_getf (l := l) (B := B) (y := m_Na_trailingZeros) (pc := 44) hG (C := zR4) (T := zT4) (N := 2) (ci := 4) (k := 0) rfl zl4 (by decide) (List.mem_of_getElem? (i := 96) (by decide +kernel)) (zd_dr dc_Na_trailingZeros 25 rfl)) ?_
  refine zd_ac (ok_iload_n (l := l) (B := B) (y := m_Na_trailingZeros) (pc := 47) (k := 1) rfl (zd_dr dc_Na_trailingZeros 26 rfl)) ?_
  refine zd_ac (ok_iaload (l := l) (B := B) (y := m_Na_trailingZeros) (pc := 48) hG (zd_dr dc_Na_trailingZeros 27 rfl)) ?_
  refine zd_ac (ok_tensN (l := l) (B := B) (y := m_Na_trailingZeros) (pc := 49) (host := "DecimalDesk") hG (List.mem_of_getElem? (i := 452) (by decide +kernel)) (zd_dr dc_Na_trailingZeros 28 rfl)) ?_
  refine zd_ac (ok_iload_n (l := l) (B := B) (y := m_Na_trailingZeros) (pc := 52) (k := 2) rfl (zd_dr dc_Na_trailingZeros 29 rfl)) ?_
  refine zd_ac (ok_iconst (l := l) (B := B) (y := m_Na_trailingZeros) (pc := 53) (n := (1)) (zd_dr dc_Na_trailingZeros 30 rfl) rfl) ?_
  refine zd_ac (ok_iadd (l := l) (B := B) (y := m_Na_trailingZeros) (pc := 54) (zd_dr dc_Na_trailingZeros 31 rfl)) ?_
  refine zd_ac (ok_iaload (l := l) (B := B) (y := m_Na_trailingZeros) (pc := 55) hG (zd_dr dc_Na_trailingZeros 32 rfl)) ?_
  refine zd_ac (ok_irem (l := l) (B := B) (y := m_Na_trailingZeros) (pc := 56) (zd_dr dc_Na_trailingZeros 33 rfl)) ?_
  refine zd_ac (ok_if_ne (l := l) (B := B) (y := m_Na_trailingZeros) (pc := 57) (zd_dr dc_Na_trailingZeros 34 rfl) (by decide)) ?_
  refine zd_ac (ok_iinc (l := l) (B := B) (y := m_Na_trailingZeros) (pc := 60) (zd_dr dc_Na_trailingZeros 35 rfl) (by decide) rfl) ?_
  refine zd_ac (ok_goto (l := l) (B := B) (y := m_Na_trailingZeros) (pc := 63) (zd_dr dc_Na_trailingZeros 36 rfl) (by decide)) ?_
  refine zd_ac (ok_iload_n (l := l) (B := B) (y := m_Na_trailingZeros) (pc := 66) (k := 1) rfl (zd_dr dc_Na_trailingZeros 37 rfl)) ?_
  refine zd_ac (ok_bipush (l := l) (B := B) (y := m_Na_trailingZeros) (pc := 67) (n := (9)) (zd_dr dc_Na_trailingZeros 38 rfl) rfl) ?_
  refine zd_ac (ok_imul (l := l) (B := B) (y := m_Na_trailingZeros) (pc := 69) (zd_dr dc_Na_trailingZeros 39 rfl)) ?_
  refine zd_ac (ok_iload_n (l := l) (B := B) (y := m_Na_trailingZeros) (pc := 70) (k := 2) rfl (zd_dr dc_Na_trailingZeros 40 rfl)) ?_
  refine zd_ac (ok_iadd (l := l) (B := B) (y := m_Na_trailingZeros) (pc := 71) (zd_dr dc_Na_trailingZeros 41 rfl)) ?_
  refine zd_ac (ok_iret (l := l) (B := B) (y := m_Na_trailingZeros) (pc := 72) rfl (zd_dr dc_Na_trailingZeros 42 rfl)) ?_
  exact zd_an
def dl_Na_order : List (Nat × Instr × Nat) := [(0, .aload_n 0, 1), (1, .getfield 15, 3), (4, .aload_n 1, 1), (5, .getfield 15, 3), (8, .if_icmp .eq (15), 3), (11, .aload_n 0, 1), (12, .getfield 15, 3), (15, .aload_n 1, 1), (16, .getfield 15, 3), (19, .invokestatic 22, 3), (22, .ireturn, 1), (23, .aload_n 0, 1), (24, .getfield 15, 3), (27, .iconst (1), 1), (28, .isub, 1), (29, .istore_n 2, 1), (30, .iload_n 2, 1), (31, .ifCond .le (24), 3), (34, .aload_n 0, 1), (35, .getfield 9, 3), (38, .iload_n 2, 1), (39, .iaload, 1), (40, .aload_n 1, 1), (41, .getfield 9, 3), (44, .iload_n 2, 1), (45, .iaload, 1), (46, .if_icmp .ne (9), 3), (49, .iinc 2 (-1), 3), (52, .goto (-22), 3), (55, .iload_n 2, 1), (56, .ifCond .ge (7), 3), (59, .iconst (0), 1), (60, .goto (18), 3), (63, .aload_n 0, 1), (64, .getfield 9, 3), (67, .iload_n 2, 1), (68, .iaload, 1), (69, .aload_n 1, 1), (70, .getfield 9, 3), (73, .iload_n 2, 1), (74, .iaload, 1), (75, .invokestatic 22, 3), (78, .ireturn, 1)]
theorem dc_Na_order : ∀ q ∈ dl_Na_order, decode (zd_yb m_Na_order) q.1 = .ok q.2 := by decide +kernel
def cd_Na_order (l : Launch) (B : zd_B) : List (Nat × zd_S) := [(0, oc_aload 0 1), (1, oc_getf B 4 1 4), (4, oc_aload 1 5), (5, oc_getf B 4 1 8), (8, oc_icmp_eq 23 11), (11, oc_aload 0 12), (12, oc_getf B 4 1 15), (15, oc_aload 1 16), (16, oc_getf B 4 1 19), (19, oc_calls l B m_In_compare 2 22), (22, oc_iret .int), (23, oc_aload 0 24), (24, oc_getf B 4 1 27), (27, oc_ci (1) 28), (28, oc_isub 29), (29, oc_istore 2 30), (30, oc_iload 2 31), (31, oc_if_le 55 34), (34, oc_aload 0 35), (35, oc_getf B 4 0 38), (38, oc_iload 2 39), (39, oc_iaload B 40), (40, oc_aload 1 41), (41, oc_getf B 4 0 44), (44, oc_iload 2 45), (45, oc_iaload B 46), (46, oc_icmp_ne 55 49), (49, oc_iinc 2 (-1) 52), (52, oc_goto 30), (55, oc_iload 2 56), (56, oc_if_ge 63 59), (59, oc_ci (0) 60), (60, oc_goto 78), (63, oc_aload 0 64), (64, oc_getf B 4 0 67), (67, oc_iload 2 68), (68, oc_iaload B 69), (69, oc_aload 1 70), (70, oc_getf B 4 0 73), (73, oc_iload 2 74), (74, oc_iaload B 75), (75, oc_calls l B m_In_compare 2 78), (78, oc_iret .int)]
set_option maxRecDepth 20000 in
theorem ok_Na_order {l : Launch} {B : zd_B} (hG : zd_G B) (hl : l.stackTraces = false) : ∀ q ∈ cd_Na_order l B, zd_ok l B m_Na_order q.1 q.2 := by
  unfold cd_Na_order
  refine zd_ac (ok_aload_n (l := l) (B := B) (y := m_Na_order) (pc := 0) (k := 0) rfl (zd_dr dc_Na_order 0 rfl)) ?_
  refine zd_ac (ok_getf (l := l) (B := B) (y := m_Na_order) (pc := 1) hG (C := zR4) (T := zT4) (N := 2) (ci := 4) (k := 1) rfl zl4 (by decide) (List.mem_of_getElem? (i := 98) (by decide +kernel)) (zd_dr dc_Na_order 1 rfl)) ?_
  refine zd_ac (ok_aload_n (l := l) (B := B) (y := m_Na_order) (pc := 4) (k := 1) rfl (zd_dr dc_Na_order 2 rfl)) ?_
  refine zd_ac (ok_getf (l := l) (B := B) (y := m_Na_order) (pc := 5) hG (C := zR4) (T := zT4) (N := 2) (ci := 4) (k := 1) rfl zl4 (by decide) (List.mem_of_getElem? (i := 98) (by decide +kernel)) (zd_dr dc_Na_order 3 rfl)) ?_
  refine zd_ac (ok_icmp_eq (l := l) (B := B) (y := m_Na_order) (pc := 8) (zd_dr dc_Na_order 4 rfl) (by decide)) ?_
  refine zd_ac (ok_aload_n (l := l) (B := B) (y := m_Na_order) (pc := 11) (k := 0) rfl (zd_dr dc_Na_order 5 rfl)) ?_
  refine zd_ac (ok_getf (l := l) (B := B) (y := m_Na_order) (pc := 12) hG (C := zR4) (T := zT4) (N := 2) (ci := 4) (k := 1) rfl zl4 (by decide) (List.mem_of_getElem? (i := 98) (by decide +kernel)) (zd_dr dc_Na_order 6 rfl)) ?_
  refine zd_ac (ok_aload_n (l := l) (B := B) (y := m_Na_order) (pc := 15) (k := 1) rfl (zd_dr dc_Na_order 7 rfl)) ?_
  refine zd_ac (ok_getf (l := l) (B := B) (y := m_Na_order) (pc := 16) hG (C := zR4) (T := zT4) (N := 2) (ci := 4) (k := 1) rfl zl4 (by decide) (List.mem_of_getElem? (i := 98) (by decide +kernel)) (zd_dr dc_Na_order 8 rfl)) ?_
  refine zd_ac (ok_calls (l := l) (B := B) (y := m_Na_order) (pc := 19) hG cf_Na_order_In_compare rfl (List.mem_of_getElem? (i := 565) (by decide +kernel)) (List.mem_of_getElem? (i := 566) (by decide +kernel)) (List.mem_of_getElem? (i := 73) (by decide +kernel)) (zd_dr dc_Na_order 9 rfl)) ?_
  refine zd_ac (ok_iret (l := l) (B := B) (y := m_Na_order) (pc := 22) rfl (zd_dr dc_Na_order 10 rfl)) ?_
  refine zd_ac (ok_aload_n (l := l) (B := B) (y := m_Na_order) (pc := 23) (k := 0) rfl (zd_dr dc_Na_order 11 rfl)) ?_
  refine zd_ac (ok_getf (l := l) (B := B) (y := m_Na_order) (pc := 24) hG (C := zR4) (T := zT4) (N := 2) (ci := 4) (k := 1) rfl zl4 (by decide) (List.mem_of_getElem? (i := 98) (by decide +kernel)) (zd_dr dc_Na_order 12 rfl)) ?_
  refine zd_ac (ok_iconst (l := l) (B := B) (y := m_Na_order) (pc := 27) (n := (1)) (zd_dr dc_Na_order 13 rfl) rfl) ?_
  refine zd_ac (ok_isub (l := l) (B := B) (y := m_Na_order) (pc := 28) (zd_dr dc_Na_order 14 rfl)) ?_
  refine zd_ac (ok_istore_n (l := l) (B := B) (y := m_Na_order) (pc := 29) (k := 2) rfl (zd_dr dc_Na_order 15 rfl) (by decide)) ?_
  refine zd_ac (ok_iload_n (l := l) (B := B) (y := m_Na_order) (pc := 30) (k := 2) rfl (zd_dr dc_Na_order 16 rfl)) ?_
  refine zd_ac (ok_if_le (l := l) (B := B) (y := m_Na_order) (pc := 31) (zd_dr dc_Na_order 17 rfl) (by decide)) ?_
  refine zd_ac (ok_aload_n (l := l) (B := B) (y := m_Na_order) (pc := 34) (k := 0) rfl (zd_dr dc_Na_order 18 rfl)) ?_
  refine zd_ac (ok_getf (l := l) (B := B) (y := m_Na_order) (pc := 35) hG (C := zR4) (T := zT4) (N := 2) (ci := 4) (k := 0) rfl zl4 (by decide) (List.mem_of_getElem? (i := 96) (by decide +kernel)) (zd_dr dc_Na_order 19 rfl)) ?_
  refine zd_ac (ok_iload_n (l := l) (B := B) (y := m_Na_order) (pc := 38) (k := 2) rfl (zd_dr dc_Na_order 20 rfl)) ?_
  refine zd_ac (ok_iaload (l := l) (B := B) (y := m_Na_order) (pc := 39) hG (zd_dr dc_Na_order 21 rfl)) ?_
  refine zd_ac (ok_aload_n (l := l) (B := B) (y := m_Na_order) (pc := 40) (k := 1) rfl (zd_dr dc_Na_order 22 rfl)) ?_
  refine zd_ac (ok_getf (l := l) (B := B) (y := m_Na_order) (pc := 41) hG (C := zR4) (T := zT4) (N := 2) (ci := 4) (k := 0) rfl zl4 (by decide) (List.mem_of_getElem? (i := 96) (by decide +kernel)) (zd_dr dc_Na_order 23 rfl)) ?_
  refine zd_ac (ok_iload_n (l := l) (B := B) (y := m_Na_order) (pc := 44) (k := 2) rfl (zd_dr dc_Na_order 24 rfl)) ?_
  refine zd_ac (ok_iaload (l := l) (B := B) (y := m_Na_order) (pc := 45) hG (zd_dr dc_Na_order 25 rfl)) ?_
  refine zd_ac (ok_icmp_ne (l := l) (B := B) (y := m_Na_order) (pc := 46) (zd_dr dc_Na_order 26 rfl) (by decide)) ?_
  refine zd_ac (ok_iinc (l := l) (B := B) (y := m_Na_order) (pc := 49) (zd_dr dc_Na_order 27 rfl) (by decide) rfl) ?_
  refine zd_ac (ok_goto (l := l) (B := B) (y := m_Na_order) (pc := 52) (zd_dr dc_Na_order 28 rfl) (by decide)) ?_
  refine zd_ac (ok_iload_n (l := l) (B := B) (y := m_Na_order) (pc := 55) (k := 2) rfl (zd_dr dc_Na_order 29 rfl)) ?_
  refine zd_ac (ok_if_ge (l := l) (B := B) (y := m_Na_order) (pc := 56) (zd_dr dc_Na_order 30 rfl) (by decide)) ?_
  refine zd_ac (ok_iconst (l := l) (B := B) (y := m_Na_order) (pc := 59) (n := (0)) (zd_dr dc_Na_order 31 rfl) rfl) ?_
  refine zd_ac (ok_goto (l := l) (B := B) (y := m_Na_order) (pc := 60) (zd_dr dc_Na_order 32 rfl) (by decide)) ?_
  refine zd_ac (ok_aload_n (l := l) (B := B) (y := m_Na_order) (pc := 63) (k := 0) rfl (zd_dr dc_Na_order 33 rfl)) ?_
  refine zd_ac (ok_getf (l := l) (B := B) (y := m_Na_order) (pc := 64) hG (C := zR4) (T := zT4) (N := 2) (ci := 4) (k := 0) rfl zl4 (by decide) (List.mem_of_getElem? (i := 96) (by decide +kernel)) (zd_dr dc_Na_order 34 rfl)) ?_
  refine zd_ac (ok_iload_n (l := l) (B := B) (y := m_Na_order) (pc := 67) (k := 2) rfl (zd_dr dc_Na_order 35 rfl)) ?_
  refine zd_ac (ok_iaload (l := l) (B := B) (y := m_Na_order) (pc := 68) hG (zd_dr dc_Na_order 36 rfl)) ?_
  refine zd_ac (ok_aload_n (l := l) (B := B) (y := m_Na_order) (pc := 69) (k := 1) rfl (zd_dr dc_Na_order 37 rfl)) ?_
  refine zd_ac (ok_getf (l := l) (B := B) (y := m_Na_order) (pc := 70) hG (C := zR4) (T := zT4) (N := 2) (ci := 4) (k := 0) rfl zl4 (by decide) (List.mem_of_getElem? (i := 96) (by decide +kernel)) (zd_dr dc_Na_order 38 rfl)) ?_
  refine zd_ac (ok_iload_n (l := l) (B := B) (y := m_Na_order) (pc := 73) (k := 2) rfl (zd_dr dc_Na_order 39 rfl)) ?_
  refine zd_ac (ok_iaload (l := l) (B := B) (y := m_Na_order) (pc := 74) hG (zd_dr dc_Na_order 40 rfl)) ?_
  refine zd_ac (ok_calls (l := l) (B := B) (y := m_Na_order) (pc := 75) hG cf_Na_order_In_compare rfl (List.mem_of_getElem? (i := 565) (by decide +kernel)) (List.mem_of_getElem? (i := 566) (by decide +kernel)) (List.mem_of_getElem? (i := 73) (by decide +kernel)) (zd_dr dc_Na_order 41 rfl)) ?_
  refine zd_ac (ok_iret (l := l) (B := B) (y := m_Na_order) (pc := 78) rfl (zd_dr dc_Na_order 42 rfl)) ?_
  exact zd_an
def dl_Na_claim : List (Nat × Instr × Nat) := [(0, .iload_n 1, 1), (1, .aload_n 0, 1), (2, .getfield 9, 3), (5, .arraylength, 1), (6, .if_icmp .le (13), 3), (9, .new 28, 3), (12, .dup, 1), (13, .ldc 30, 2), (15, .invokespecial 32, 3), (18, .athrow, 1), (19, .aload_n 0, 1), (20, .iload_n 1, 1), (21, .putfield 15, 3), (24, .return_, 1)]
theorem dc_Na_claim : ∀ q ∈ dl_Na_claim, decode (zd_yb m_Na_claim) q.1 = .ok q.2 := by decide +kernel
def cd_Na_claim (l : Launch) (B : zd_B) : List (Nat × zd_S) := [(0, oc_iload 1 1), (1, oc_aload 0 2), (2, oc_getf B 4 0 5), (5, oc_arraylength B 6), (6, oc_icmp_le 19 9), (9, oc_throw B 11), (19, oc_aload 0 20), (20, oc_iload 1 21), (21, oc_putf B (zy4 1) 4 1 24), (24, oc_vret)]
set_option maxRecDepth 20000 in
theorem ok_Na_claim {l : Launch} {B : zd_B} (hG : zd_G B) (hl : l.stackTraces = false) : ∀ q ∈ cd_Na_claim l B, zd_ok l B m_Na_claim q.1 q.2 := by
  unfold cd_Na_claim
  refine zd_ac (ok_iload_n (l := l) (B := B) (y := m_Na_claim) (pc := 0) (k := 1) rfl (zd_dr dc_Na_claim 0 rfl)) ?_
  refine zd_ac (ok_aload_n (l := l) (B := B) (y := m_Na_claim) (pc := 1) (k := 0) rfl (zd_dr dc_Na_claim 1 rfl)) ?_
  refine zd_ac (ok_getf (l := l) (B := B) (y := m_Na_claim) (pc := 2) hG (C := zR4) (T := zT4) (N := 2) (ci := 4) (k := 0) rfl zl4 (by decide) (List.mem_of_getElem? (i := 96) (by decide +kernel)) (zd_dr dc_Na_claim 2 rfl)) ?_
  refine zd_ac (ok_arraylength (l := l) (B := B) (y := m_Na_claim) (pc := 5) hG (zd_dr dc_Na_claim 3 rfl)) ?_
  refine zd_ac (ok_icmp_le (l := l) (B := B) (y := m_Na_claim) (pc := 6) (zd_dr dc_Na_claim 4 rfl) (by decide)) ?_
  refine zd_ac (ok_throw (l := l) (B := B) (y := m_Na_claim) (pc := 9) hG hl zE11 zx_Na_28_30_32 rfl (by decide) (by decide) (zd_dr dc_Na_claim 5 rfl) (zd_dr dc_Na_claim 6 rfl) (zd_dr dc_Na_claim 7 rfl) (zd_dr dc_Na_claim 8 rfl) (zd_dr dc_Na_claim 9 rfl)) ?_
  refine zd_ac (ok_aload_n (l := l) (B := B) (y := m_Na_claim) (pc := 19) (k := 0) rfl (zd_dr dc_Na_claim 10 rfl)) ?_
  refine zd_ac (ok_iload_n (l := l) (B := B) (y := m_Na_claim) (pc := 20) (k := 1) rfl (zd_dr dc_Na_claim 11 rfl)) ?_
  refine zd_ac (ok_putf (l := l) (B := B) (y := m_Na_claim) (pc := 21) hG (C := zR4) (T := zT4) (N := 2) (ci := 4) (k := 1) rfl zl4 zt4 (by decide) (List.mem_of_getElem? (i := 98) (by decide +kernel)) rfl (zd_dr dc_Na_claim 12 rfl)) ?_
  refine zd_ac (ok_vret (l := l) (B := B) (y := m_Na_claim) (pc := 24) rfl (zd_dr dc_Na_claim 13 rfl)) ?_
  exact zd_an
def dl_Na_trim : List (Nat × Instr × Nat) := [(0, .aload_n 0, 1), (1, .getfield 15, 3), (4, .ifCond .le (30), 3), (7, .aload_n 0, 1), (8, .getfield 9, 3), (11, .aload_n 0, 1), (12, .getfield 15, 3), (15, .iconst (1), 1), (16, .isub, 1), (17, .iaload, 1), (18, .ifCond .ne (16), 3), (21, .aload_n 0, 1), (22, .dup, 1), (23, .getfield 15, 3), (26, .iconst (1), 1), (27, .isub, 1), (28, .putfield 15, 3), (31, .goto (-31), 3), (34, .return_, 1)]
theorem dc_Na_trim : ∀ q ∈ dl_Na_trim, decode (zd_yb m_Na_trim) q.1 = .ok q.2 := by decide +kernel
def cd_Na_trim (l : Launch) (B : zd_B) : List (Nat × zd_S) := [(0, oc_aload 0 1), (1, oc_getf B 4 1 4), (4, oc_if_le 34 7), (7, oc_aload 0 8), (8, oc_getf B 4 0 11), (11, oc_aload 0 12), (12, oc_getf B 4 1 15), (15, oc_ci (1) 16), (16, oc_isub 17), (17, oc_iaload B 18), (18, oc_if_ne 34 21), (21, oc_aload 0 22), (22, oc_dup 23), (23, oc_getf B 4 1 26), (26, oc_ci (1) 27), (27, oc_isub 28), (28, oc_putf B (zy4 1) 4 1 31), (31, oc_goto 0), (34, oc_vret)]
set_option maxRecDepth 20000 in
theorem ok_Na_trim {l : Launch} {B : zd_B} (hG : zd_G B) (hl : l.stackTraces = false) : ∀ q ∈ cd_Na_trim l B, zd_ok l B m_Na_trim q.1 q.2 := by
  unfold cd_Na_trim
  refine zd_ac (ok_aload_n (l := l) (B := B) (y := m_Na_trim) (pc := 0) (k := 0) rfl (zd_dr dc_Na_trim 0 rfl)) ?_
  refine zd_ac (ok_getf (l := l) (B := B) (y := m_Na_trim) (pc := 1) hG (C := zR4) (T := zT4) (N := 2) (ci := 4) (k := 1) rfl zl4 (by decide) (List.mem_of_getElem? (i := 98) (by decide +kernel)) (zd_dr dc_Na_trim 1 rfl)) ?_
  refine zd_ac (ok_if_le (l := l) (B := B) (y := m_Na_trim) (pc := 4) (zd_dr dc_Na_trim 2 rfl) (by decide)) ?_
  refine zd_ac (ok_aload_n (l := l) (B := B) (y := m_Na_trim) (pc := 7) (k := 0) rfl (zd_dr dc_Na_trim 3 rfl)) ?_
  refine zd_ac (ok_getf (l := l) (B := B) (y := m_Na_trim) (pc := 8) hG (C := zR4) (T := zT4) (N := 2) (ci := 4) (k := 0) rfl zl4 (by decide) (List.mem_of_getElem? (i := 96) (by decide +kernel)) (zd_dr dc_Na_trim 4 rfl)) ?_
  refine zd_ac (ok_aload_n (l := l) (B := B) (y := m_Na_trim) (pc := 11) (k := 0) rfl (zd_dr dc_Na_trim 5 rfl)) ?_
  refine zd_ac (ok_getf (l := l) (B := B) (y := m_Na_trim) (pc := 12) hG (C := zR4) (T := zT4) (N := 2) (ci := 4) (k := 1) rfl zl4 (by decide) (List.mem_of_getElem? (i := 98) (by decide +kernel)) (zd_dr dc_Na_trim 6 rfl)) ?_
  refine zd_ac (ok_iconst (l := l) (B := B) (y := m_Na_trim) (pc := 15) (n := (1)) (zd_dr dc_Na_trim 7 rfl) rfl) ?_
  refine zd_ac (ok_isub (l := l) (B := B) (y := m_Na_trim) (pc := 16) (zd_dr dc_Na_trim 8 rfl)) ?_
  refine zd_ac (ok_iaload (l := l) (B := B) (y := m_Na_trim) (pc := 17) hG (zd_dr dc_Na_trim 9 rfl)) ?_
  refine zd_ac (ok_if_ne (l := l) (B := B) (y := m_Na_trim) (pc := 18) (zd_dr dc_Na_trim 10 rfl) (by decide)) ?_
  refine zd_ac (ok_aload_n (l := l) (B := B) (y := m_Na_trim) (pc := 21) (k := 0) rfl (zd_dr dc_Na_trim 11 rfl)) ?_
  refine zd_ac (ok_dup (l := l) (B := B) (y := m_Na_trim) (pc := 22) (zd_dr dc_Na_trim 12 rfl)) ?_
  refine zd_ac (ok_getf (l := l) (B := B) (y := m_Na_trim) (pc := 23) hG (C := zR4) (T := zT4) (N := 2) (ci := 4) (k := 1) rfl zl4 (by decide) (List.mem_of_getElem? (i := 98) (by decide +kernel)) (zd_dr dc_Na_trim 13 rfl)) ?_
  refine zd_ac (ok_iconst (l := l) (B := B) (y := m_Na_trim) (pc := 26) (n := (1)) (zd_dr dc_Na_trim 14 rfl) rfl) ?_
  refine zd_ac (ok_isub (l := l) (B := B) (y := m_Na_trim) (pc := 27) (zd_dr dc_Na_trim 15 rfl)) ?_
  refine zd_ac (ok_putf (l := l) (B := B) (y := m_Na_trim) (pc := 28) hG (C := zR4) (T := zT4) (N := 2) (ci := 4) (k := 1) rfl zl4 zt4 (by decide) (List.mem_of_getElem? (i := 98) (by decide +kernel)) rfl (zd_dr dc_Na_trim 16 rfl)) ?_
  refine zd_ac (ok_goto (l := l) (B := B) (y := m_Na_trim) (pc := 31) (zd_dr dc_Na_trim 17 rfl) (by decide)) ?_
  refine zd_ac (ok_vret (l := l) (B := B) (y := m_Na_trim) (pc := 34) rfl (zd_dr dc_Na_trim 18 rfl)) ?_
  exact zd_an
def dl_Na_copy : List (Nat × Instr × Nat) := [(0, .aload_n 0, 1), (1, .aload_n 1, 1), (2, .getfield 15, 3), (5, .invokevirtual 35, 3), (8, .aload_n 1, 1), (9, .getfield 9, 3), (12, .iconst (0), 1), (13, .aload_n 0, 1), (14, .getfield 9, 3), (17, .iconst (0), 1), (18, .aload_n 0, 1), (19, .getfield 15, 3), (22, .invokestatic 39, 3), (25, .return_, 1)]
theorem dc_Na_copy : ∀ q ∈ dl_Na_copy, decode (zd_yb m_Na_copy) q.1 = .ok q.2 := by decide +kernel
def cd_Na_copy (l : Launch) (B : zd_B) : List (Nat × zd_S) := [(0, oc_aload 0 1), (1, oc_aload 1 2), (2, oc_getf B 4 1 5), (5, oc_callv l B 4 m_Na_claim 1 8), (8, oc_aload 1 9), (9, oc_getf B 4 0 12), (12, oc_ci (0) 13), (13, oc_aload 0 14), (14, oc_getf B 4 0 17), (17, oc_ci (0) 18), (18, oc_aload 0 19), (19, oc_getf B 4 1 22), (22, oc_copy B 25), (25, oc_vret)]
set_option maxRecDepth 20000 in
theorem ok_Na_copy {l : Launch} {B : zd_B} (hG : zd_G B) (hl : l.stackTraces = false) : ∀ q ∈ cd_Na_copy l B, zd_ok l B m_Na_copy q.1 q.2 := by
  unfold cd_Na_copy
  refine zd_ac (ok_aload_n (l := l) (B := B) (y := m_Na_copy) (pc := 0) (k := 0) rfl (zd_dr dc_Na_copy 0 rfl)) ?_
  refine zd_ac (ok_aload_n (l := l) (B := B) (y := m_Na_copy) (pc := 1) (k := 1) rfl (zd_dr dc_Na_copy 1 rfl)) ?_
  refine zd_ac (ok_getf (l := l) (B := B) (y := m_Na_copy) (pc := 2) hG (C := zR4) (T := zT4) (N := 2) (ci := 4) (k := 1) rfl zl4 (by decide) (List.mem_of_getElem? (i := 98) (by decide +kernel)) (zd_dr dc_Na_copy 2 rfl)) ?_
  refine zd_ac (ok_callv (l := l) (B := B) (y := m_Na_copy) (pc := 5) hG (ci := 4) rfl cf_Na_copy_Na_claim rfl (List.mem_of_getElem? (i := 441) (by decide +kernel)) (List.mem_of_getElem? (i := 442) (by decide +kernel)) (List.mem_of_getElem? (i := 443) (by decide +kernel)) (zd_dr dc_Na_copy 3 rfl)) ?_
  refine zd_ac (ok_aload_n (l := l) (B := B) (y := m_Na_copy) (pc := 8) (k := 1) rfl (zd_dr dc_Na_copy 4 rfl)) ?_
  refine zd_ac (ok_getf (l := l) (B := B) (y := m_Na_copy) (pc := 9) hG (C := zR4) (T := zT4) (N := 2) (ci := 4) (k := 0) rfl zl4 (by decide) (List.mem_of_getElem? (i := 96) (by decide +kernel)) (zd_dr dc_Na_copy 5 rfl)) ?_
  refine zd_ac (ok_iconst (l := l) (B := B) (y := m_Na_copy) (pc := 12) (n := (0)) (zd_dr dc_Na_copy 6 rfl) rfl) ?_
  refine zd_ac (ok_aload_n (l := l) (B := B) (y := m_Na_copy) (pc := 13) (k := 0) rfl (zd_dr dc_Na_copy 7 rfl)) ?_
  refine zd_ac (ok_getf (l := l) (B := B) (y := m_Na_copy) (pc := 14) hG (C := zR4) (T := zT4) (N := 2) (ci := 4) (k := 0) rfl zl4 (by decide) (List.mem_of_getElem? (i := 96) (by decide +kernel)) (zd_dr dc_Na_copy 8 rfl)) ?_
  refine zd_ac (ok_iconst (l := l) (B := B) (y := m_Na_copy) (pc := 17) (n := (0)) (zd_dr dc_Na_copy 9 rfl) rfl) ?_
  refine zd_ac (ok_aload_n (l := l) (B := B) (y := m_Na_copy) (pc := 18) (k := 0) rfl (zd_dr dc_Na_copy 10 rfl)) ?_
  refine zd_ac (ok_getf (l := l) (B := B) (y := m_Na_copy) (pc := 19) hG (C := zR4) (T := zT4) (N := 2) (ci := 4) (k := 1) rfl zl4 (by decide) (List.mem_of_getElem? (i := 98) (by decide +kernel)) (zd_dr dc_Na_copy 11 rfl)) ?_
  refine zd_ac (ok_copy (l := l) (B := B) (y := m_Na_copy) (pc := 22) hG (List.mem_of_getElem? (i := 486) (by decide +kernel)) (List.mem_of_getElem? (i := 488) (by decide +kernel)) (List.mem_of_getElem? (i := 487) (by decide +kernel)) (List.mem_of_getElem? (i := 71) (by decide +kernel)) (by decide) (by decide) (zd_dr dc_Na_copy 12 rfl)) ?_
  refine zd_ac (ok_vret (l := l) (B := B) (y := m_Na_copy) (pc := 25) rfl (zd_dr dc_Na_copy 13 rfl)) ?_
  exact zd_an
def dl_Na_become : List (Nat × Instr × Nat) := [(0, .lload_n 1, 1), (1, .lconst 0, 1), (2, .lcmp, 1), (3, .ifCond .le (8), 3), (6, .lload_n 1, 1), (7, .lneg, 1), (8, .goto (4), 3), (11, .lload_n 1, 1), (12, .lstore_n 3, 1), (13, .aload_n 0, 1), (14, .iconst (3), 1), (15, .invokevirtual 35, 3), (18, .iconst (0), 1), (19, .istore 5, 2), (21, .iload 5, 2), (23, .iconst (3), 1), (24, .if_icmp .ge (29), 3), (27, .aload_n 0, 1), (28, .getfield 9, 3), (31, .iload 5, 2), (33, .lload_n 3, 1), (34, .ldc2_w 45, 3), (37, .lrem, 1), (38, .lneg, 1), (39, .l2i, 1), (40, .iastore, 1), (41, .lload_n 3, 1), (42, .ldc2_w 45, 3), (45, .ldiv, 1), (46, .lstore_n 3, 1), (47, .iinc 5 (1), 3), (50, .goto (-29), 3), (53, .aload_n 0, 1), (54, .invokevirtual 47, 3), (57, .return_, 1)]
theorem dc_Na_become : ∀ q ∈ dl_Na_become, decode (zd_yb m_Na_become) q.1 = .ok q.2 := by decide +kernel
def cd_Na_become (l : Launch) (B : zd_B) : List (Nat × zd_S) := [(0, oc_lload 1 1), (1, oc_cl 0 2), (2, oc_lcmp 3), (3, oc_if_le 11 6), (6, oc_lload 1 7), (7, oc_lneg 8), (8, oc_goto 12), (11, oc_lload 1 12), (12, oc_lstore 3 13), (13, oc_aload 0 14), (14, oc_ci (3) 15), (15, oc_callv l B 4 m_Na_claim 1 18), (18, oc_ci (0) 19), (19, oc_istore 5 21), (21, oc_iload 5 23), (23, oc_ci (3) 24), (24, oc_icmp_ge 53 27), (27, oc_aload 0 28), (28, oc_getf B 4 0 31), (31, oc_iload 5 33), (33, oc_lload 3 34), (34, oc_cl (1000000000) 37), (37, oc_lrem 38), (38, oc_lneg 39), (39, oc_l2i 40), (40, oc_iastore B 41), (41, oc_lload 3 42), (42, oc_cl (1000000000) 45), (45, oc_ldiv 46), (46, oc_lstore 3 47), (47, oc_iinc 5 (1) 50), (50, oc_goto 21), (53, oc_aload 0 54), (54, oc_callv l B 4 m_Na_trim 0 57), (57, oc_vret)]
set_option maxRecDepth 20000 in
theorem ok_Na_become {l : Launch} {B : zd_B} (hG : zd_G B) (hl : l.stackTraces = false) : ∀ q ∈ cd_Na_become l B, zd_ok l B m_Na_become q.1 q.2 := by
  unfold cd_Na_become
  refine zd_ac (ok_lload_n (l := l) (B := B) (y := m_Na_become) (pc := 0) (k := 1) rfl (zd_dr dc_Na_become 0 rfl)) ?_
  refine zd_ac (ok_lconst (l := l) (B := B) (y := m_Na_become) (pc := 1) (n := 0) (zd_dr dc_Na_become 1 rfl) rfl) ?_
  refine zd_ac (ok_lcmp (l := l) (B := B) (y := m_Na_become) (pc := 2) (zd_dr dc_Na_become 2 rfl)) ?_
  refine zd_ac (ok_if_le (l := l) (B := B) (y := m_Na_become) (pc := 3) (zd_dr dc_Na_become 3 rfl) (by decide)) ?_
  refine zd_ac (ok_lload_n (l := l) (B := B) (y := m_Na_become) (pc := 6) (k := 1) rfl (zd_dr dc_Na_become 4 rfl)) ?_
  refine zd_ac (ok_lneg (l := l) (B := B) (y := m_Na_become) (pc := 7) (zd_dr dc_Na_become 5 rfl)) ?_
  refine zd_ac (ok_goto (l := l) (B := B) (y := m_Na_become) (pc := 8) (zd_dr dc_Na_become 6 rfl) (by decide)) ?_
  refine zd_ac (ok_lload_n (l := l) (B := B) (y := m_Na_become) (pc := 11) (k := 1) rfl (zd_dr dc_Na_become 7 rfl)) ?_
  refine zd_ac (ok_lstore_n (l := l) (B := B) (y := m_Na_become) (pc := 12) (k := 3) rfl (zd_dr dc_Na_become 8 rfl) (by decide)) ?_
  refine zd_ac (ok_aload_n (l := l) (B := B) (y := m_Na_become) (pc := 13) (k := 0) rfl (zd_dr dc_Na_become 9 rfl)) ?_
  refine zd_ac (ok_iconst (l := l) (B := B) (y := m_Na_become) (pc := 14) (n := (3)) (zd_dr dc_Na_become 10 rfl) rfl) ?_
  refine zd_ac (ok_callv (l := l) (B := B) (y := m_Na_become) (pc := 15) hG (ci := 4) rfl cf_Na_become_Na_claim rfl (List.mem_of_getElem? (i := 441) (by decide +kernel)) (List.mem_of_getElem? (i := 442) (by decide +kernel)) (List.mem_of_getElem? (i := 443) (by decide +kernel)) (zd_dr dc_Na_become 11 rfl)) ?_
  refine zd_ac (ok_iconst (l := l) (B := B) (y := m_Na_become) (pc := 18) (n := (0)) (zd_dr dc_Na_become 12 rfl) rfl) ?_
  refine zd_ac (ok_istore (l := l) (B := B) (y := m_Na_become) (pc := 19) (zd_dr dc_Na_become 13 rfl) (by decide)) ?_
  refine zd_ac (ok_iload (l := l) (B := B) (y := m_Na_become) (pc := 21) (zd_dr dc_Na_become 14 rfl)) ?_
  refine zd_ac (ok_iconst (l := l) (B := B) (y := m_Na_become) (pc := 23) (n := (3)) (zd_dr dc_Na_become 15 rfl) rfl) ?_
  refine zd_ac (ok_icmp_ge (l := l) (B := B) (y := m_Na_become) (pc := 24) (zd_dr dc_Na_become 16 rfl) (by decide)) ?_
  refine zd_ac (ok_aload_n (l := l) (B := B) (y := m_Na_become) (pc := 27) (k := 0) rfl (zd_dr dc_Na_become 17 rfl)) ?_
  refine zd_ac (ok_getf (l := l) (B := B) (y := m_Na_become) (pc := 28) hG (C := zR4) (T := zT4) (N := 2) (ci := 4) (k := 0) rfl zl4 (by decide) (List.mem_of_getElem? (i := 96) (by decide +kernel)) (zd_dr dc_Na_become 18 rfl)) ?_
  refine zd_ac (ok_iload (l := l) (B := B) (y := m_Na_become) (pc := 31) (zd_dr dc_Na_become 19 rfl)) ?_
  refine zd_ac (ok_lload_n (l := l) (B := B) (y := m_Na_become) (pc := 33) (k := 3) rfl (zd_dr dc_Na_become 20 rfl)) ?_
  refine zd_ac (ok_ldc2 (l := l) (B := B) (y := m_Na_become) (pc := 34) hG (List.mem_of_getElem? (i := 504) (by decide +kernel)) (zd_dr dc_Na_become 21 rfl)) ?_
  refine zd_ac (ok_lrem (l := l) (B := B) (y := m_Na_become) (pc := 37) (zd_dr dc_Na_become 22 rfl)) ?_
  refine zd_ac (ok_lneg (l := l) (B := B) (y := m_Na_become) (pc := 38) (zd_dr dc_Na_become 23 rfl)) ?_
  refine zd_ac (ok_l2i (l := l) (B := B) (y := m_Na_become) (pc := 39) (zd_dr dc_Na_become 24 rfl)) ?_
  refine zd_ac (ok_iastore (l := l) (B := B) (y := m_Na_become) (pc := 40) hG (zd_dr dc_Na_become 25 rfl)) ?_
  refine zd_ac (ok_lload_n (l := l) (B := B) (y := m_Na_become) (pc := 41) (k := 3) rfl (zd_dr dc_Na_become 26 rfl)) ?_
  refine zd_ac (ok_ldc2 (l := l) (B := B) (y := m_Na_become) (pc := 42) hG (List.mem_of_getElem? (i := 504) (by decide +kernel)) (zd_dr dc_Na_become 27 rfl)) ?_
  refine zd_ac (ok_ldiv (l := l) (B := B) (y := m_Na_become) (pc := 45) (zd_dr dc_Na_become 28 rfl)) ?_
  refine zd_ac (ok_lstore_n (l := l) (B := B) (y := m_Na_become) (pc := 46) (k := 3) rfl (zd_dr dc_Na_become 29 rfl) (by decide)) ?_
  refine zd_ac (ok_iinc (l := l) (B := B) (y := m_Na_become) (pc := 47) (zd_dr dc_Na_become 30 rfl) (by decide) rfl) ?_
  refine zd_ac (ok_goto (l := l) (B := B) (y := m_Na_become) (pc := 50) (zd_dr dc_Na_become 31 rfl) (by decide)) ?_
  refine zd_ac (ok_aload_n (l := l) (B := B) (y := m_Na_become) (pc := 53) (k := 0) rfl (zd_dr dc_Na_become 32 rfl)) ?_
  refine zd_ac (ok_callv (l := l) (B := B) (y := m_Na_become) (pc := 54) hG (ci := 4) rfl cf_Na_become_Na_trim rfl (List.mem_of_getElem? (i := 505) (by decide +kernel)) (List.mem_of_getElem? (i := 455) (by decide +kernel)) (List.mem_of_getElem? (i := 456) (by decide +kernel)) (zd_dr dc_Na_become 33 rfl)) ?_
  refine zd_ac (ok_vret (l := l) (B := B) (y := m_Na_become) (pc := 57) rfl (zd_dr dc_Na_become 34 rfl)) ?_
  exact zd_an
def dl_Na_openDigits : List (Nat × Instr × Nat) := [(0, .aload_n 0, 1), (1, .iload_n 1, 1), (2, .bipush (9), 2), (4, .iadd, 1), (5, .iconst (1), 1), (6, .isub, 1), (7, .bipush (9), 2), (9, .idiv, 1), (10, .invokevirtual 35, 3), (13, .iconst (0), 1), (14, .istore_n 2, 1), (15, .iload_n 2, 1), (16, .aload_n 0, 1), (17, .getfield 15, 3), (20, .if_icmp .ge (16), 3), (23, .aload_n 0, 1), (24, .getfield 9, 3), (27, .iload_n 2, 1), (28, .iconst (0), 1), (29, .iastore, 1), (30, .iinc 2 (1), 3), (33, .goto (-18), 3), (36, .return_, 1)]
theorem dc_Na_openDigits : ∀ q ∈ dl_Na_openDigits, decode (zd_yb m_Na_openDigits) q.1 = .ok q.2 := by decide +kernel
def cd_Na_openDigits (l : Launch) (B : zd_B) : List (Nat × zd_S) := [(0, oc_aload 0 1), (1, oc_iload 1 2), (2, oc_ci (9) 4), (4, oc_iadd 5), (5, oc_ci (1) 6), (6, oc_isub 7), (7, oc_ci (9) 9), (9, oc_idiv 10), (10, oc_callv l B 4 m_Na_claim 1 13), (13, oc_ci (0) 14), (14, oc_istore 2 15), (15, oc_iload 2 16), (16, oc_aload 0 17), (17, oc_getf B 4 1 20), (20, oc_icmp_ge 36 23), (23, oc_aload 0 24), (24, oc_getf B 4 0 27), (27, oc_iload 2 28), (28, oc_ci (0) 29), (29, oc_iastore B 30), (30, oc_iinc 2 (1) 33), (33, oc_goto 15), (36, oc_vret)]
set_option maxRecDepth 20000 in
theorem ok_Na_openDigits {l : Launch} {B : zd_B} (hG : zd_G B) (hl : l.stackTraces = false) : ∀ q ∈ cd_Na_openDigits l B, zd_ok l B m_Na_openDigits q.1 q.2 := by
  unfold cd_Na_openDigits
  refine zd_ac (ok_aload_n (l := l) (B := B) (y := m_Na_openDigits) (pc := 0) (k := 0) rfl (zd_dr dc_Na_openDigits 0 rfl)) ?_
  refine zd_ac (ok_iload_n (l := l) (B := B) (y := m_Na_openDigits) (pc := 1) (k := 1) rfl (zd_dr dc_Na_openDigits 1 rfl)) ?_
  refine zd_ac (ok_bipush (l := l) (B := B) (y := m_Na_openDigits) (pc := 2) (n := (9)) (zd_dr dc_Na_openDigits 2 rfl) rfl) ?_
  refine zd_ac (ok_iadd (l := l) (B := B) (y := m_Na_openDigits) (pc := 4) (zd_dr dc_Na_openDigits 3 rfl)) ?_
  refine zd_ac (ok_iconst (l := l) (B := B) (y := m_Na_openDigits) (pc := 5) (n := (1)) (zd_dr dc_Na_openDigits 4 rfl) rfl) ?_
  refine zd_ac (ok_isub (l := l) (B := B) (y := m_Na_openDigits) (pc := 6) (zd_dr dc_Na_openDigits 5 rfl)) ?_
  refine zd_ac (ok_bipush (l := l) (B := B) (y := m_Na_openDigits) (pc := 7) (n := (9)) (zd_dr dc_Na_openDigits 6 rfl) rfl) ?_
  refine zd_ac (ok_idiv (l := l) (B := B) (y := m_Na_openDigits) (pc := 9) (zd_dr dc_Na_openDigits 7 rfl)) ?_
  refine zd_ac (ok_callv (l := l) (B := B) (y := m_Na_openDigits) (pc := 10) hG (ci := 4) rfl cf_Na_openDigits_Na_claim rfl (List.mem_of_getElem? (i := 441) (by decide +kernel)) (List.mem_of_getElem? (i := 442) (by decide +kernel)) (List.mem_of_getElem? (i := 443) (by decide +kernel)) (zd_dr dc_Na_openDigits 8 rfl)) ?_
  refine zd_ac (ok_iconst (l := l) (B := B) (y := m_Na_openDigits) (pc := 13) (n := (0)) (zd_dr dc_Na_openDigits 9 rfl) rfl) ?_
  refine zd_ac (ok_istore_n (l := l) (B := B) (y := m_Na_openDigits) (pc := 14) (k := 2) rfl (zd_dr dc_Na_openDigits 10 rfl) (by decide)) ?_
  refine zd_ac (ok_iload_n (l := l) (B := B) (y := m_Na_openDigits) (pc := 15) (k := 2) rfl (zd_dr dc_Na_openDigits 11 rfl)) ?_
  refine zd_ac (ok_aload_n (l := l) (B := B) (y := m_Na_openDigits) (pc := 16) (k := 0) rfl (zd_dr dc_Na_openDigits 12 rfl)) ?_
  refine zd_ac (ok_getf (l := l) (B := B) (y := m_Na_openDigits) (pc := 17) hG (C := zR4) (T := zT4) (N := 2) (ci := 4) (k := 1) rfl zl4 (by decide) (List.mem_of_getElem? (i := 98) (by decide +kernel)) (zd_dr dc_Na_openDigits 13 rfl)) ?_
  refine zd_ac (ok_icmp_ge (l := l) (B := B) (y := m_Na_openDigits) (pc := 20) (zd_dr dc_Na_openDigits 14 rfl) (by decide)) ?_
  refine zd_ac (ok_aload_n (l := l) (B := B) (y := m_Na_openDigits) (pc := 23) (k := 0) rfl (zd_dr dc_Na_openDigits 15 rfl)) ?_
  refine zd_ac (ok_getf (l := l) (B := B) (y := m_Na_openDigits) (pc := 24) hG (C := zR4) (T := zT4) (N := 2) (ci := 4) (k := 0) rfl zl4 (by decide) (List.mem_of_getElem? (i := 96) (by decide +kernel)) (zd_dr dc_Na_openDigits 16 rfl)) ?_
  refine zd_ac (ok_iload_n (l := l) (B := B) (y := m_Na_openDigits) (pc := 27) (k := 2) rfl (zd_dr dc_Na_openDigits 17 rfl)) ?_
  refine zd_ac (ok_iconst (l := l) (B := B) (y := m_Na_openDigits) (pc := 28) (n := (0)) (zd_dr dc_Na_openDigits 18 rfl) rfl) ?_
  refine zd_ac (ok_iastore (l := l) (B := B) (y := m_Na_openDigits) (pc := 29) hG (zd_dr dc_Na_openDigits 19 rfl)) ?_
  refine zd_ac (ok_iinc (l := l) (B := B) (y := m_Na_openDigits) (pc := 30) (zd_dr dc_Na_openDigits 20 rfl) (by decide) rfl) ?_
  refine zd_ac (ok_goto (l := l) (B := B) (y := m_Na_openDigits) (pc := 33) (zd_dr dc_Na_openDigits 21 rfl) (by decide)) ?_
  refine zd_ac (ok_vret (l := l) (B := B) (y := m_Na_openDigits) (pc := 36) rfl (zd_dr dc_Na_openDigits 22 rfl)) ?_
  exact zd_an
def dl_Na_setDigit : List (Nat × Instr × Nat) := [(0, .iload_n 1, 1), (1, .ifCond .lt (36), 3), (4, .iload_n 1, 1), (5, .bipush (9), 2), (7, .idiv, 1), (8, .aload_n 0, 1), (9, .getfield 15, 3), (12, .if_icmp .ge (25), 3), (15, .aload_n 0, 1), (16, .getfield 9, 3), (19, .iload_n 1, 1), (20, .bipush (9), 2), (22, .idiv, 1), (23, .dup2, 1), (24, .iaload, 1), (25, .iload_n 2, 1), (26, .getstatic 19, 3), (29, .iload_n 1, 1), (30, .bipush (9), 2), (32, .irem, 1), (33, .iaload, 1), (34, .imul, 1), (35, .iadd, 1), (36, .iastore, 1), (37, .return_, 1)]
theorem dc_Na_setDigit : ∀ q ∈ dl_Na_setDigit, decode (zd_yb m_Na_setDigit) q.1 = .ok q.2 := by decide +kernel
def cd_Na_setDigit (l : Launch) (B : zd_B) : List (Nat × zd_S) := [(0, oc_iload 1 1), (1, oc_if_lt 37 4), (4, oc_iload 1 5), (5, oc_ci (9) 7), (7, oc_idiv 8), (8, oc_aload 0 9), (9, oc_getf B 4 1 12), (12, oc_icmp_ge 37 15), (15, oc_aload 0 16), (16, oc_getf B 4 0 19), (19, oc_iload 1 20), (20, oc_ci (9) 22), (22, oc_idiv 23), (23, oc_dup2 24), (24, oc_iaload B 25), (25, oc_iload 2 26), (26, oc_tens B 29), (29, oc_iload 1 30), (30, oc_ci (9) 32), (32, oc_irem 33), (33, oc_iaload B 34), (34, oc_imul 35), (35, oc_iadd 36), (36, oc_iastore B 37), (37, oc_vret)]
set_option maxRecDepth 20000 in
theorem ok_Na_setDigit {l : Launch} {B : zd_B} (hG : zd_G B) (hl : l.stackTraces = false) : ∀ q ∈ cd_Na_setDigit l B, zd_ok l B m_Na_setDigit q.1 q.2 := by
  unfold cd_Na_setDigit
  refine zd_ac (ok_iload_n (l := l) (B := B) (y := m_Na_setDigit) (pc := 0) (k := 1) rfl (zd_dr dc_Na_setDigit 0 rfl)) ?_
  refine zd_ac (ok_if_lt (l := l) (B := B) (y := m_Na_setDigit) (pc := 1) (zd_dr dc_Na_setDigit 1 rfl) (by decide)) ?_
  refine zd_ac (ok_iload_n (l := l) (B := B) (y := m_Na_setDigit) (pc := 4) (k := 1) rfl (zd_dr dc_Na_setDigit 2 rfl)) ?_
  refine zd_ac (ok_bipush (l := l) (B := B) (y := m_Na_setDigit) (pc := 5) (n := (9)) (zd_dr dc_Na_setDigit 3 rfl) rfl) ?_
  refine zd_ac (ok_idiv (l := l) (B := B) (y := m_Na_setDigit) (pc := 7) (zd_dr dc_Na_setDigit 4 rfl)) ?_
  refine zd_ac (ok_aload_n (l := l) (B := B) (y := m_Na_setDigit) (pc := 8) (k := 0) rfl (zd_dr dc_Na_setDigit 5 rfl)) ?_
  refine zd_ac (ok_getf (l := l) (B := B) (y := m_Na_setDigit) (pc := 9) hG (C := zR4) (T := zT4) (N := 2) (ci := 4) (k := 1) rfl zl4 (by decide) (List.mem_of_getElem? (i := 98) (by decide +kernel)) (zd_dr dc_Na_setDigit 6 rfl)) ?_
  refine zd_ac (ok_icmp_ge (l := l) (B := B) (y := m_Na_setDigit) (pc := 12) (zd_dr dc_Na_setDigit 7 rfl) (by decide)) ?_
  refine zd_ac (ok_aload_n (l := l) (B := B) (y := m_Na_setDigit) (pc := 15) (k := 0) rfl (zd_dr dc_Na_setDigit 8 rfl)) ?_
  refine zd_ac (ok_getf (l := l) (B := B) (y := m_Na_setDigit) (pc := 16) hG (C := zR4) (T := zT4) (N := 2) (ci := 4) (k := 0) rfl zl4 (by decide) (List.mem_of_getElem? (i := 96) (by decide +kernel)) (zd_dr dc_Na_setDigit 9 rfl)) ?_
  refine zd_ac (ok_iload_n (l := l) (B := B) (y := m_Na_setDigit) (pc := 19) (k := 1) rfl (zd_dr dc_Na_setDigit 10 rfl)) ?_
  refine zd_ac (ok_bipush (l := l) (B := B) (y := m_Na_setDigit) (pc := 20) (n := (9)) (zd_dr dc_Na_setDigit 11 rfl) rfl) ?_
  refine zd_ac (ok_idiv (l := l) (B := B) (y := m_Na_setDigit) (pc := 22) (zd_dr dc_Na_setDigit 12 rfl)) ?_
  refine zd_ac (ok_dup2 (l := l) (B := B) (y := m_Na_setDigit) (pc := 23) (zd_dr dc_Na_setDigit 13 rfl)) ?_
  refine zd_ac (ok_iaload (l := l) (B := B) (y := m_Na_setDigit) (pc := 24) hG (zd_dr dc_Na_setDigit 14 rfl)) ?_
  refine zd_ac (ok_iload_n (l := l) (B := B) (y := m_Na_setDigit) (pc := 25) (k := 2) rfl (zd_dr dc_Na_setDigit 15 rfl)) ?_
  refine zd_ac (ok_tensN (l := l) (B := B) (y := m_Na_setDigit) (pc := 26) (host := "DecimalDesk") hG (List.mem_of_getElem? (i := 452) (by decide +kernel)) (zd_dr dc_Na_setDigit 16 rfl)) ?_
  refine zd_ac (ok_iload_n (l := l) (B := B) (y := m_Na_setDigit) (pc := 29) (k := 1) rfl (zd_dr dc_Na_setDigit 17 rfl)) ?_
  refine zd_ac (ok_bipush (l := l) (B := B) (y := m_Na_setDigit) (pc := 30) (n := (9)) (zd_dr dc_Na_setDigit 18 rfl) rfl) ?_
  refine zd_ac (ok_irem (l := l) (B := B) (y := m_Na_setDigit) (pc := 32) (zd_dr dc_Na_setDigit 19 rfl)) ?_
  refine zd_ac (ok_iaload (l := l) (B := B) (y := m_Na_setDigit) (pc := 33) hG (zd_dr dc_Na_setDigit 20 rfl)) ?_
  refine zd_ac (ok_imul (l := l) (B := B) (y := m_Na_setDigit) (pc := 34) (zd_dr dc_Na_setDigit 21 rfl)) ?_
  refine zd_ac (ok_iadd (l := l) (B := B) (y := m_Na_setDigit) (pc := 35) (zd_dr dc_Na_setDigit 22 rfl)) ?_
  refine zd_ac (ok_iastore (l := l) (B := B) (y := m_Na_setDigit) (pc := 36) hG (zd_dr dc_Na_setDigit 23 rfl)) ?_
  refine zd_ac (ok_vret (l := l) (B := B) (y := m_Na_setDigit) (pc := 37) rfl (zd_dr dc_Na_setDigit 24 rfl)) ?_
  exact zd_an
def dl_Na_becomeProduct : List (Nat × Instr × Nat) := [(0, .aload_n 0, 1), (1, .aload_n 1, 1), (2, .getfield 15, 3), (5, .aload_n 2, 1), (6, .getfield 15, 3), (9, .iadd, 1), (10, .invokevirtual 35, 3), (13, .iconst (0), 1), (14, .istore_n 3, 1), (15, .iload_n 3, 1), (16, .aload_n 0, 1), (17, .getfield 15, 3), (20, .if_icmp .ge (16), 3), (23, .aload_n 0, 1), (24, .getfield 9, 3), (27, .iload_n 3, 1), (28, .iconst (0), 1), (29, .iastore, 1), (30, .iinc 3 (1), 3), (33, .goto (-18), 3), (36, .iconst (0), 1), (37, .istore_n 3, 1), (38, .iload_n 3, 1), (39, .aload_n 1, 1), (40, .getfield 15, 3), (43, .if_icmp .ge (107), 3), (46, .aload_n 1, 1), (47, .getfield 9, 3), (50, .iload_n 3, 1), (51, .iaload, 1), (52, .i2l, 1), (53, .lstore 4, 2), (55, .lconst 0, 1), (56, .lstore 6, 2), (58, .iconst (0), 1), (59, .istore 8, 2), (61, .iload 8, 2), (63, .aload_n 2, 1), (64, .getfield 15, 3), (67, .if_icmp .ge (63), 3), (70, .lload 4, 2), (72, .aload_n 2, 1), (73, .getfield 9, 3), (76, .iload 8, 2), (78, .iaload, 1), (79, .i2l, 1), (80, .lmul, 1), (81, .aload_n 0, 1), (82, .getfield 9, 3), (85, .iload_n 3, 1), (86, .iload 8, 2), (88, .iadd, 1), (89, .iaload, 1), (90, .i2l, 1), (91, .ladd, 1), (92, .lload 6, 2), (94, .ladd, 1), (95, .lstore 9, 2), (97, .lload 9, 2), (99, .ldc2_w 45, 3), (102, .ldiv, 1), (103, .lstore 6, 2), (105, .aload_n 0, 1), (106, .getfield 9, 3), (109, .iload_n 3, 1), (110, .iload 8, 2), (112, .iadd, 1), (113, .lload 9, 2), (115, .lload 6, 2), (117, .ldc2_w 45, 3), (120, .lmul, 1), (121, .lsub, 1), (122, .l2i, 1), (123, .iastore, 1), (124, .iinc 8 (1), 3), (127, .goto (-66), 3), (130, .aload_n 0, 1), (131, .getfield 9, 3), (134, .iload_n 3, 1), (135, .aload_n 2, 1), (136, .getfield 15, 3), (139, .iadd, 1), (140, .lload 6, 2), (142, .l2i, 1), (143, .iastore, 1), (144, .iinc 3 (1), 3), (147, .goto (-109), 3), (150, .aload_n 0, 1), (151, .invokevirtual 47, 3), (154, .return_, 1)]
theorem dc_Na_becomeProduct : ∀ q ∈ dl_Na_becomeProduct, decode (zd_yb m_Na_becomeProduct) q.1 = .ok q.2 := by decide +kernel
def cd_Na_becomeProduct (l : Launch) (B : zd_B) : List (Nat × zd_S) := [(0, oc_aload 0 1), (1, oc_aload 1 2), (2, oc_getf B 4 1 5), (5, oc_aload 2 6), (6, oc_getf B 4 1 9), (9, oc_iadd 10), (10, oc_callv l B 4 m_Na_claim 1 13), (13, oc_ci (0) 14), (14, oc_istore 3 15), (15, oc_iload 3 16), (16, oc_aload 0 17), (17, oc_getf B 4 1 20), (20, oc_icmp_ge 36 23), (23, oc_aload 0 24), (24, oc_getf B 4 0 27), (27, oc_iload 3 28), (28, oc_ci (0) 29), (29, oc_iastore B 30), (30, oc_iinc 3 (1) 33), (33, oc_goto 15), (36, oc_ci (0) 37), (37, oc_istore 3 38), (38, oc_iload 3 39), (39, oc_aload 1 40), (40, oc_getf B 4 1 43), (43, oc_icmp_ge 150 46), (46, oc_aload 1 47), (47, oc_getf B 4 0 50), (50, oc_iload 3 51), (51, oc_iaload B 52), (52, oc_i2l 53), (53, oc_lstore 4 55), (55, oc_cl 0 56), (56, oc_lstore 6 58), (58, oc_ci (0) 59), (59, oc_istore 8 61), (61, oc_iload 8 63), (63, oc_aload 2 64), (64, oc_getf B 4 1 67), (67, oc_icmp_ge 130 70), (70, oc_lload 4 72), (72, oc_aload 2 73), (73, oc_getf B 4 0 76), (76, oc_iload 8 78), (78, oc_iaload B 79), (79, oc_i2l 80), (80, oc_lmul 81), (81, oc_aload 0 82), (82, oc_getf B 4 0 85), (85, oc_iload 3 86), (86, oc_iload 8 88), (88, oc_iadd 89), (89, oc_iaload B 90), (90, oc_i2l 91), (91, oc_ladd 92), (92, oc_lload 6 94), (94, oc_ladd 95), (95, oc_lstore 9 97), (97, oc_lload 9 99), (99, oc_cl (1000000000) 102), (102, oc_ldiv 103), (103, oc_lstore 6 105), (105, oc_aload 0 106), (106, oc_getf B 4 0 109), (109, oc_iload 3 110), (110, oc_iload 8 112), (112, oc_iadd 113), (113, oc_lload 9 115), (115, oc_lload 6 117), (117, oc_cl (1000000000) 120), (120, oc_lmul 121), (121, oc_lsub 122), (122, oc_l2i 123), (123, oc_iastore B 124), (124, oc_iinc 8 (1) 127), (127, oc_goto 61), (130, oc_aload 0 131), (131, oc_getf B 4 0 134), (134, oc_iload 3 135), (135, oc_aload 2 136), (136, oc_getf B 4 1 139), (139, oc_iadd 140), (140, oc_lload 6 142), (142, oc_l2i 143), (143, oc_iastore B 144), (144, oc_iinc 3 (1) 147), (147, oc_goto 38), (150, oc_aload 0 151), (151, oc_callv l B 4 m_Na_trim 0 154), (154, oc_vret)]
set_option maxRecDepth 20000 in
theorem ok_Na_becomeProduct {l : Launch} {B : zd_B} (hG : zd_G B) (hl : l.stackTraces = false) : ∀ q ∈ cd_Na_becomeProduct l B, zd_ok l B m_Na_becomeProduct q.1 q.2 := by
  unfold cd_Na_becomeProduct
  refine zd_ac (ok_aload_n (l := l) (B := B) (y := m_Na_becomeProduct) (pc := 0) (k := 0) rfl (zd_dr dc_Na_becomeProduct 0 rfl)) ?_
  refine zd_ac (ok_aload_n (l := l) (B := B) (y := m_Na_becomeProduct) (pc := 1) (k := 1) rfl (zd_dr dc_Na_becomeProduct 1 rfl)) ?_
  refine zd_ac (ok_getf (l := l) (B := B) (y := m_Na_becomeProduct) (pc := 2) hG (C := zR4) (T := zT4) (N := 2) (ci := 4) (k := 1) rfl zl4 (by decide) (List.mem_of_getElem? (i := 98) (by decide +kernel)) (zd_dr dc_Na_becomeProduct 2 rfl)) ?_
  refine zd_ac (ok_aload_n (l := l) (B := B) (y := m_Na_becomeProduct) (pc := 5) (k := 2) rfl (zd_dr dc_Na_becomeProduct 3 rfl)) ?_
  refine zd_ac (ok_getf (l := l) (B := B) (y := m_Na_becomeProduct) (pc := 6) hG (C := zR4) (T := zT4) (N := 2) (ci := 4) (k := 1) rfl zl4 (by decide) (List.mem_of_getElem? (i := 98) (by decide +kernel)) (zd_dr dc_Na_becomeProduct 4 rfl)) ?_
  refine zd_ac (ok_iadd (l := l) (B := B) (y := m_Na_becomeProduct) (pc := 9) (zd_dr dc_Na_becomeProduct 5 rfl)) ?_
  refine zd_ac (ok_callv (l := l) (B := B) (y := m_Na_becomeProduct) (pc := 10) hG (ci := 4) rfl cf_Na_becomeProduct_Na_claim rfl (List.mem_of_getElem? (i := 441) (by decide +kernel)) (List.mem_of_getElem? (i := 442) (by decide +kernel)) (List.mem_of_getElem? (i := 443) (by decide +kernel)) (zd_dr dc_Na_becomeProduct 6 rfl)) ?_
  refine zd_ac (ok_iconst (l := l) (B := B) (y := m_Na_becomeProduct) (pc := 13) (n := (0)) (zd_dr dc_Na_becomeProduct 7 rfl) rfl) ?_
  refine zd_ac (ok_istore_n (l := l) (B := B) (y := m_Na_becomeProduct) (pc := 14) (k := 3) rfl (zd_dr dc_Na_becomeProduct 8 rfl) (by decide)) ?_
  refine zd_ac (ok_iload_n (l := l) (B := B) (y := m_Na_becomeProduct) (pc := 15) (k := 3) rfl (zd_dr dc_Na_becomeProduct 9 rfl)) ?_
  refine zd_ac (ok_aload_n (l := l) (B := B) (y := m_Na_becomeProduct) (pc := 16) (k := 0) rfl (zd_dr dc_Na_becomeProduct 10 rfl)) ?_
  refine zd_ac (ok_getf (l := l) (B := B) (y := m_Na_becomeProduct) (pc := 17) hG (C := zR4) (T := zT4) (N := 2) (ci := 4) (k := 1) rfl zl4 (by decide) (List.mem_of_getElem? (i := 98) (by decide +kernel)) (zd_dr dc_Na_becomeProduct 11 rfl)) ?_
  refine zd_ac (ok_icmp_ge (l := l) (B := B) (y := m_Na_becomeProduct) (pc := 20) (zd_dr dc_Na_becomeProduct 12 rfl) (by decide)) ?_
  refine zd_ac (ok_aload_n (l := l) (B := B) (y := m_Na_becomeProduct) (pc := 23) (k := 0) rfl (zd_dr dc_Na_becomeProduct 13 rfl)) ?_
  refine zd_ac (ok_getf (l := l) (B := B) (y := m_Na_becomeProduct) (pc := 24) hG (C := zR4) (T := zT4) (N := 2) (ci := 4) (k := 0) rfl zl4 (by decide) (List.mem_of_getElem? (i := 96) (by decide +kernel)) (zd_dr dc_Na_becomeProduct 14 rfl)) ?_
  refine zd_ac (ok_iload_n (l := l) (B := B) (y := m_Na_becomeProduct) (pc := 27) (k := 3) rfl (zd_dr dc_Na_becomeProduct 15 rfl)) ?_
  refine zd_ac (ok_iconst (l := l) (B := B) (y := m_Na_becomeProduct) (pc := 28) (n := (0)) (zd_dr dc_Na_becomeProduct 16 rfl) rfl) ?_
  refine zd_ac (ok_iastore (l := l) (B := B) (y := m_Na_becomeProduct) (pc := 29) hG (zd_dr dc_Na_becomeProduct 17 rfl)) ?_
  refine zd_ac (ok_iinc (l := l) (B := B) (y := m_Na_becomeProduct) (pc := 30) (zd_dr dc_Na_becomeProduct 18 rfl) (by decide) rfl) ?_
  refine zd_ac (ok_goto (l := l) (B := B) (y := m_Na_becomeProduct) (pc := 33) (zd_dr dc_Na_becomeProduct 19 rfl) (by decide)) ?_
  refine zd_ac (ok_iconst (l := l) (B := B) (y := m_Na_becomeProduct) (pc := 36) (n := (0)) (zd_dr dc_Na_becomeProduct 20 rfl) rfl) ?_
  refine zd_ac (ok_istore_n (l := l) (B := B) (y := m_Na_becomeProduct) (pc := 37) (k := 3) rfl (zd_dr dc_Na_becomeProduct 21 rfl) (by decide)) ?_
  refine zd_ac (ok_iload_n (l := l) (B := B) (y := m_Na_becomeProduct) (pc := 38) (k := 3) rfl (zd_dr dc_Na_becomeProduct 22 rfl)) ?_
  refine zd_ac (ok_aload_n (l := l) (B := B) (y := m_Na_becomeProduct) (pc := 39) (k := 1) rfl (zd_dr dc_Na_becomeProduct 23 rfl)) ?_
  refine zd_ac (ok_getf (l := l) (B := B) (y := m_Na_becomeProduct) (pc := 40) hG (C := zR4) (T := zT4) (N := 2) (ci := 4) (k := 1) rfl zl4 (by decide) (List.mem_of_getElem? (i := 98) (by decide +kernel)) (zd_dr dc_Na_becomeProduct 24 rfl)) ?_
  refine zd_ac (ok_icmp_ge (l := l) (B := B) (y := m_Na_becomeProduct) (pc := 43) (zd_dr dc_Na_becomeProduct 25 rfl) (by decide)) ?_
  refine zd_ac (ok_aload_n (l := l) (B := B) (y := m_Na_becomeProduct) (pc := 46) (k := 1) rfl (zd_dr dc_Na_becomeProduct 26 rfl)) ?_
  refine zd_ac (ok_getf (l := l) (B := B) (y := m_Na_becomeProduct) (pc := 47) hG (C := zR4) (T := zT4) (N := 2) (ci := 4) (k := 0) rfl zl4 (by decide) (List.mem_of_getElem? (i := 96) (by decide +kernel)) (zd_dr dc_Na_becomeProduct 27 rfl)) ?_
  refine zd_ac (ok_iload_n (l := l) (B := B) (y := m_Na_becomeProduct) (pc := 50) (k := 3) rfl (zd_dr dc_Na_becomeProduct 28 rfl)) ?_
  refine zd_ac (ok_iaload (l := l) (B := B) (y := m_Na_becomeProduct) (pc := 51) hG (zd_dr dc_Na_becomeProduct 29 rfl)) ?_
  refine zd_ac (ok_i2l (l := l) (B := B) (y := m_Na_becomeProduct) (pc := 52) (zd_dr dc_Na_becomeProduct 30 rfl)) ?_
  refine zd_ac (ok_lstore (l := l) (B := B) (y := m_Na_becomeProduct) (pc := 53) (zd_dr dc_Na_becomeProduct 31 rfl) (by decide)) ?_
  refine zd_ac (ok_lconst (l := l) (B := B) (y := m_Na_becomeProduct) (pc := 55) (n := 0) (zd_dr dc_Na_becomeProduct 32 rfl) rfl) ?_
  refine zd_ac (ok_lstore (l := l) (B := B) (y := m_Na_becomeProduct) (pc := 56) (zd_dr dc_Na_becomeProduct 33 rfl) (by decide)) ?_
  refine zd_ac (ok_iconst (l := l) (B := B) (y := m_Na_becomeProduct) (pc := 58) (n := (0)) (zd_dr dc_Na_becomeProduct 34 rfl) rfl) ?_
  refine zd_ac (ok_istore (l := l) (B := B) (y := m_Na_becomeProduct) (pc := 59) (zd_dr dc_Na_becomeProduct 35 rfl) (by decide)) ?_
  refine zd_ac (ok_iload (l := l) (B := B) (y := m_Na_becomeProduct) (pc := 61) (zd_dr dc_Na_becomeProduct 36 rfl)) ?_
  refine zd_ac (ok_aload_n (l := l) (B := B) (y := m_Na_becomeProduct) (pc := 63) (k := 2) rfl (zd_dr dc_Na_becomeProduct 37 rfl)) ?_
  refine zd_ac (ok_getf (l := l) (B := B) (y := m_Na_becomeProduct) (pc := 64) hG (C := zR4) (T := zT4) (N := 2) (ci := 4) (k := 1) rfl zl4 (by decide) (List.mem_of_getElem? (i := 98) (by decide +kernel)) (zd_dr dc_Na_becomeProduct 38 rfl)) ?_
  refine zd_ac (ok_icmp_ge (l := l) (B := B) (y := m_Na_becomeProduct) (pc := 67) (zd_dr dc_Na_becomeProduct 39 rfl) (by decide)) ?_
  refine zd_ac (ok_lload (l := l) (B := B) (y := m_Na_becomeProduct) (pc := 70) (zd_dr dc_Na_becomeProduct 40 rfl)) ?_
  refine zd_ac (ok_aload_n (l := l) (B := B) (y := m_Na_becomeProduct) (pc := 72) (k := 2) rfl (zd_dr dc_Na_becomeProduct 41 rfl)) ?_
  refine zd_ac (ok_getf (l := l) (B := B) (y := m_Na_becomeProduct) (pc := 73) hG (C := zR4) (T := zT4) (N := 2) (ci := 4) (k := 0) rfl zl4 (by decide) (List.mem_of_getElem? (i := 96) (by decide +kernel)) (zd_dr dc_Na_becomeProduct 42 rfl)) ?_
  refine zd_ac (ok_iload (l := l) (B := B) (y := m_Na_becomeProduct) (pc := 76) (zd_dr dc_Na_becomeProduct 43 rfl)) ?_
  refine zd_ac (ok_iaload (l := l) (B := B) (y := m_Na_becomeProduct) (pc := 78) hG (zd_dr dc_Na_becomeProduct 44 rfl)) ?_
  refine zd_ac (ok_i2l (l := l) (B := B) (y := m_Na_becomeProduct) (pc := 79) (zd_dr dc_Na_becomeProduct 45 rfl)) ?_
  refine zd_ac (ok_lmul (l := l) (B := B) (y := m_Na_becomeProduct) (pc := 80) (zd_dr dc_Na_becomeProduct 46 rfl)) ?_
  refine zd_ac (ok_aload_n (l := l) (B := B) (y := m_Na_becomeProduct) (pc := 81) (k := 0) rfl (zd_dr dc_Na_becomeProduct 47 rfl)) ?_
  refine zd_ac (ok_getf (l := l) (B := B) (y := m_Na_becomeProduct) (pc := 82) hG (C := zR4) (T := zT4) (N := 2) (ci := 4) (k := 0) rfl zl4 (by decide) (List.mem_of_getElem? (i := 96) (by decide +kernel)) (zd_dr dc_Na_becomeProduct 48 rfl)) ?_
  refine zd_ac (ok_iload_n (l := l) (B := B) (y := m_Na_becomeProduct) (pc := 85) (k := 3) rfl (zd_dr dc_Na_becomeProduct 49 rfl)) ?_
  refine zd_ac (ok_iload (l := l) (B := B) (y := m_Na_becomeProduct) (pc := 86) (zd_dr dc_Na_becomeProduct 50 rfl)) ?_
  refine zd_ac (ok_iadd (l := l) (B := B) (y := m_Na_becomeProduct) (pc := 88) (zd_dr dc_Na_becomeProduct 51 rfl)) ?_
  refine zd_ac (ok_iaload (l := l) (B := B) (y := m_Na_becomeProduct) (pc := 89) hG (zd_dr dc_Na_becomeProduct 52 rfl)) ?_
  refine zd_ac (ok_i2l (l := l) (B := B) (y := m_Na_becomeProduct) (pc := 90) (zd_dr dc_Na_becomeProduct 53 rfl)) ?_
  refine zd_ac (ok_ladd (l := l) (B := B) (y := m_Na_becomeProduct) (pc := 91) (zd_dr dc_Na_becomeProduct 54 rfl)) ?_
  refine zd_ac (ok_lload (l := l) (B := B) (y := m_Na_becomeProduct) (pc := 92) (zd_dr dc_Na_becomeProduct 55 rfl)) ?_
  refine zd_ac (ok_ladd (l := l) (B := B) (y := m_Na_becomeProduct) (pc := 94) (zd_dr dc_Na_becomeProduct 56 rfl)) ?_
  refine zd_ac (ok_lstore (l := l) (B := B) (y := m_Na_becomeProduct) (pc := 95) (zd_dr dc_Na_becomeProduct 57 rfl) (by decide)) ?_
  refine zd_ac (ok_lload (l := l) (B := B) (y := m_Na_becomeProduct) (pc := 97) (zd_dr dc_Na_becomeProduct 58 rfl)) ?_
  refine zd_ac (ok_ldc2 (l := l) (B := B) (y := m_Na_becomeProduct) (pc := 99) hG (List.mem_of_getElem? (i := 504) (by decide +kernel)) (zd_dr dc_Na_becomeProduct 59 rfl)) ?_
  refine zd_ac (ok_ldiv (l := l) (B := B) (y := m_Na_becomeProduct) (pc := 102) (zd_dr dc_Na_becomeProduct 60 rfl)) ?_
  refine zd_ac (ok_lstore (l := l) (B := B) (y := m_Na_becomeProduct) (pc := 103) (zd_dr dc_Na_becomeProduct 61 rfl) (by decide)) ?_
  refine zd_ac (ok_aload_n (l := l) (B := B) (y := m_Na_becomeProduct) (pc := 105) (k := 0) rfl (zd_dr dc_Na_becomeProduct 62 rfl)) ?_
  refine zd_ac (ok_getf (l := l) (B := B) (y := m_Na_becomeProduct) (pc := 106) hG (C := zR4) (T := zT4) (N := 2) (ci := 4) (k := 0) rfl zl4 (by decide) (List.mem_of_getElem? (i := 96) (by decide +kernel)) (zd_dr dc_Na_becomeProduct 63 rfl)) ?_
  refine zd_ac (ok_iload_n (l := l) (B := B) (y := m_Na_becomeProduct) (pc := 109) (k := 3) rfl (zd_dr dc_Na_becomeProduct 64 rfl)) ?_
  refine zd_ac (ok_iload (l := l) (B := B) (y := m_Na_becomeProduct) (pc := 110) (zd_dr dc_Na_becomeProduct 65 rfl)) ?_
  refine zd_ac (ok_iadd (l := l) (B := B) (y := m_Na_becomeProduct) (pc := 112) (zd_dr dc_Na_becomeProduct 66 rfl)) ?_
  refine zd_ac (ok_lload (l := l) (B := B) (y := m_Na_becomeProduct) (pc := 113) (zd_dr dc_Na_becomeProduct 67 rfl)) ?_
  refine zd_ac (ok_lload (l := l) (B := B) (y := m_Na_becomeProduct) (pc := 115) (zd_dr dc_Na_becomeProduct 68 rfl)) ?_
  refine zd_ac (ok_ldc2 (l := l) (B := B) (y := m_Na_becomeProduct) (pc := 117) hG (List.mem_of_getElem? (i := 504) (by decide +kernel)) (zd_dr dc_Na_becomeProduct 69 rfl)) ?_
  refine zd_ac (ok_lmul (l := l) (B := B) (y := m_Na_becomeProduct) (pc := 120) (zd_dr dc_Na_becomeProduct 70 rfl)) ?_
  refine zd_ac (ok_lsub (l := l) (B := B) (y := m_Na_becomeProduct) (pc := 121) (zd_dr dc_Na_becomeProduct 71 rfl)) ?_
  refine zd_ac (ok_l2i (l := l) (B := B) (y := m_Na_becomeProduct) (pc := 122) (zd_dr dc_Na_becomeProduct 72 rfl)) ?_
  refine zd_ac (ok_iastore (l := l) (B := B) (y := m_Na_becomeProduct) (pc := 123) hG (zd_dr dc_Na_becomeProduct 73 rfl)) ?_
  refine zd_ac (ok_iinc (l := l) (B := B) (y := m_Na_becomeProduct) (pc := 124) (zd_dr dc_Na_becomeProduct 74 rfl) (by decide) rfl) ?_
  refine zd_ac (ok_goto (l := l) (B := B) (y := m_Na_becomeProduct) (pc := 127) (zd_dr dc_Na_becomeProduct 75 rfl) (by decide)) ?_
  refine zd_ac (ok_aload_n (l := l) (B := B) (y := m_Na_becomeProduct) (pc := 130) (k := 0) rfl (zd_dr dc_Na_becomeProduct 76 rfl)) ?_
  refine zd_ac (ok_getf (l := l) (B := B) (y := m_Na_becomeProduct) (pc := 131) hG (C := zR4) (T := zT4) (N := 2) (ci := 4) (k := 0) rfl zl4 (by decide) (List.mem_of_getElem? (i := 96) (by decide +kernel)) (zd_dr dc_Na_becomeProduct 77 rfl)) ?_
  refine zd_ac (ok_iload_n (l := l) (B := B) (y := m_Na_becomeProduct) (pc := 134) (k := 3) rfl (zd_dr dc_Na_becomeProduct 78 rfl)) ?_
  refine zd_ac (ok_aload_n (l := l) (B := B) (y := m_Na_becomeProduct) (pc := 135) (k := 2) rfl (zd_dr dc_Na_becomeProduct 79 rfl)) ?_
  refine zd_ac (ok_getf (l := l) (B := B) (y := m_Na_becomeProduct) (pc := 136) hG (C := zR4) (T := zT4) (N := 2) (ci := 4) (k := 1) rfl zl4 (by decide) (List.mem_of_getElem? (i := 98) (by decide +kernel)) (zd_dr dc_Na_becomeProduct 80 rfl)) ?_
  refine zd_ac (ok_iadd (l := l) (B := B) (y := m_Na_becomeProduct) (pc := 139) (zd_dr dc_Na_becomeProduct 81 rfl)) ?_
  refine zd_ac (ok_lload (l := l) (B := B) (y := m_Na_becomeProduct) (pc := 140) (zd_dr dc_Na_becomeProduct 82 rfl)) ?_
  refine zd_ac (ok_l2i (l := l) (B := B) (y := m_Na_becomeProduct) (pc := 142) (zd_dr dc_Na_becomeProduct 83 rfl)) ?_
  refine zd_ac (ok_iastore (l := l) (B := B) (y := m_Na_becomeProduct) (pc := 143) hG (zd_dr dc_Na_becomeProduct 84 rfl)) ?_
  refine zd_ac (ok_iinc (l := l) (B := B) (y := m_Na_becomeProduct) (pc := 144) (zd_dr dc_Na_becomeProduct 85 rfl) (by decide) rfl) ?_
  refine zd_ac (ok_goto (l := l) (B := B) (y := m_Na_becomeProduct) (pc := 147) (zd_dr dc_Na_becomeProduct 86 rfl) (by decide)) ?_
  refine zd_ac (ok_aload_n (l := l) (B := B) (y := m_Na_becomeProduct) (pc := 150) (k := 0) rfl (zd_dr dc_Na_becomeProduct 87 rfl)) ?_
  refine zd_ac (ok_callv (l := l) (B := B) (y := m_Na_becomeProduct) (pc := 151) hG (ci := 4) rfl cf_Na_becomeProduct_Na_trim rfl (List.mem_of_getElem? (i := 505) (by decide +kernel)) (List.mem_of_getElem? (i := 455) (by decide +kernel)) (List.mem_of_getElem? (i := 456) (by decide +kernel)) (zd_dr dc_Na_becomeProduct 88 rfl)) ?_
  refine zd_ac (ok_vret (l := l) (B := B) (y := m_Na_becomeProduct) (pc := 154) rfl (zd_dr dc_Na_becomeProduct 89 rfl)) ?_
  exact zd_an
def dl_Na_move : List (Nat × Instr × Nat) := [(0, .iload_n 1, 1), (1, .ifCond .eq (10), 3), (4, .aload_n 0, 1), (5, .getfield 15, 3), (8, .ifCond .ne (5), 3), (11, .iconst (0), 1), (12, .ireturn, 1), (13, .iload_n 1, 1), (14, .ifCond .ge (10), 3), (17, .aload_n 0, 1), (18, .iload_n 1, 1), (19, .ineg, 1), (20, .invokevirtual 50, 3), (23, .ireturn, 1), (24, .aload_n 0, 1), (25, .iload_n 1, 1), (26, .invokevirtual 54, 3), (29, .iconst (0), 1), (30, .ireturn, 1)]
theorem dc_Na_move : ∀ q ∈ dl_Na_move, decode (zd_yb m_Na_move) q.1 = .ok q.2 := by decide +kernel
def cd_Na_move (l : Launch) (B : zd_B) : List (Nat × zd_S) := [(0, oc_iload 1 1), (1, oc_if_eq 11 4), (4, oc_aload 0 5), (5, oc_getf B 4 1 8), (8, oc_if_ne 13 11), (11, oc_ci (0) 12), (12, oc_iret .boolean), (13, oc_iload 1 14), (14, oc_if_ge 24 17), (17, oc_aload 0 18), (18, oc_iload 1 19), (19, oc_ineg 20), (20, oc_callv l B 4 m_Na_moveDown 1 23), (23, oc_iret .boolean), (24, oc_aload 0 25), (25, oc_iload 1 26), (26, oc_callv l B 4 m_Na_moveUp 1 29), (29, oc_ci (0) 30), (30, oc_iret .boolean)]
set_option maxRecDepth 20000 in
theorem ok_Na_move {l : Launch} {B : zd_B} (hG : zd_G B) (hl : l.stackTraces = false) : ∀ q ∈ cd_Na_move l B, zd_ok l B m_Na_move q.1 q.2 := by
  unfold cd_Na_move
  refine zd_ac (ok_iload_n (l := l) (B := B) (y := m_Na_move) (pc := 0) (k := 1) rfl (zd_dr dc_Na_move 0 rfl)) ?_
  refine zd_ac (ok_if_eq (l := l) (B := B) (y := m_Na_move) (pc := 1) (zd_dr dc_Na_move 1 rfl) (by decide)) ?_
  refine zd_ac (ok_aload_n (l := l) (B := B) (y := m_Na_move) (pc := 4) (k := 0) rfl (zd_dr dc_Na_move 2 rfl)) ?_
  refine zd_ac (ok_getf (l := l) (B := B) (y := m_Na_move) (pc := 5) hG (C := zR4) (T := zT4) (N := 2) (ci := 4) (k := 1) rfl zl4 (by decide) (List.mem_of_getElem? (i := 98) (by decide +kernel)) (zd_dr dc_Na_move 3 rfl)) ?_
  refine zd_ac (ok_if_ne (l := l) (B := B) (y := m_Na_move) (pc := 8) (zd_dr dc_Na_move 4 rfl) (by decide)) ?_
  refine zd_ac (ok_iconst (l := l) (B := B) (y := m_Na_move) (pc := 11) (n := (0)) (zd_dr dc_Na_move 5 rfl) rfl) ?_
  refine zd_ac (ok_iret (l := l) (B := B) (y := m_Na_move) (pc := 12) rfl (zd_dr dc_Na_move 6 rfl)) ?_
  refine zd_ac (ok_iload_n (l := l) (B := B) (y := m_Na_move) (pc := 13) (k := 1) rfl (zd_dr dc_Na_move 7 rfl)) ?_
  refine zd_ac (ok_if_ge (l := l) (B := B) (y := m_Na_move) (pc := 14) (zd_dr dc_Na_move 8 rfl) (by decide)) ?_
  refine zd_ac (ok_aload_n (l := l) (B := B) (y := m_Na_move) (pc := 17) (k := 0) rfl (zd_dr dc_Na_move 9 rfl)) ?_
  refine zd_ac (ok_iload_n (l := l) (B := B) (y := m_Na_move) (pc := 18) (k := 1) rfl (zd_dr dc_Na_move 10 rfl)) ?_
  refine zd_ac (ok_ineg (l := l) (B := B) (y := m_Na_move) (pc := 19) (zd_dr dc_Na_move 11 rfl)) ?_
  refine zd_ac (ok_callv (l := l) (B := B) (y := m_Na_move) (pc := 20) hG (ci := 4) rfl cf_Na_move_Na_moveDown rfl (List.mem_of_getElem? (i := 540) (by decide +kernel)) (List.mem_of_getElem? (i := 542) (by decide +kernel)) (List.mem_of_getElem? (i := 6) (by decide +kernel)) (zd_dr dc_Na_move 12 rfl)) ?_
  refine zd_ac (ok_iret (l := l) (B := B) (y := m_Na_move) (pc := 23) rfl (zd_dr dc_Na_move 13 rfl)) ?_
  refine zd_ac (ok_aload_n (l := l) (B := B) (y := m_Na_move) (pc := 24) (k := 0) rfl (zd_dr dc_Na_move 14 rfl)) ?_
  refine zd_ac (ok_iload_n (l := l) (B := B) (y := m_Na_move) (pc := 25) (k := 1) rfl (zd_dr dc_Na_move 15 rfl)) ?_
  refine zd_ac (ok_callv (l := l) (B := B) (y := m_Na_move) (pc := 26) hG (ci := 4) rfl cf_Na_move_Na_moveUp rfl (List.mem_of_getElem? (i := 545) (by decide +kernel)) (List.mem_of_getElem? (i := 547) (by decide +kernel)) (List.mem_of_getElem? (i := 7) (by decide +kernel)) (zd_dr dc_Na_move 16 rfl)) ?_
  refine zd_ac (ok_iconst (l := l) (B := B) (y := m_Na_move) (pc := 29) (n := (0)) (zd_dr dc_Na_move 17 rfl) rfl) ?_
  refine zd_ac (ok_iret (l := l) (B := B) (y := m_Na_move) (pc := 30) rfl (zd_dr dc_Na_move 18 rfl)) ?_
  exact zd_an
def dl_Na_moveUp : List (Nat × Instr × Nat) := [(0, .iload_n 1, 1), (1, .bipush (9), 2), (3, .idiv, 1), (4, .istore_n 2, 1), (5, .getstatic 19, 3), (8, .iload_n 1, 1), (9, .bipush (9), 2), (11, .irem, 1), (12, .iaload, 1), (13, .istore_n 3, 1), (14, .ldc 57, 2), (16, .iload_n 3, 1), (17, .idiv, 1), (18, .istore 4, 2), (20, .aload_n 0, 1), (21, .getfield 15, 3), (24, .istore 5, 2), (26, .aload_n 0, 1), (27, .aload_n 0, 1), (28, .invokevirtual 58, 3), (31, .iload_n 1, 1), (32, .iadd, 1), (33, .bipush (9), 2), (35, .iadd, 1), (36, .iconst (1), 1), (37, .isub, 1), (38, .bipush (9), 2), (40, .idiv, 1), (41, .invokevirtual 35, 3), (44, .aload_n 0, 1), (45, .getfield 15, 3), (48, .iconst (1), 1), (49, .isub, 1), (50, .istore 6, 2), (52, .iload 6, 2), (54, .iload_n 2, 1), (55, .if_icmp .lt (76), 3), (58, .iload 6, 2), (60, .iload_n 2, 1), (61, .isub, 1), (62, .iload 5, 2), (64, .if_icmp .ge (15), 3), (67, .aload_n 0, 1), (68, .getfield 9, 3), (71, .iload 6, 2), (73, .iload_n 2, 1), (74, .isub, 1), (75, .iaload, 1), (76, .goto (4), 3), (79, .iconst (0), 1), (80, .istore 7, 2), (82, .iload 6, 2), (84, .iload_n 2, 1), (85, .if_icmp .le (17), 3), (88, .aload_n 0, 1), (89, .getfield 9, 3), (92, .iload 6, 2), (94, .iload_n 2, 1), (95, .isub, 1), (96, .iconst (1), 1), (97, .isub, 1), (98, .iaload, 1), (99, .goto (4), 3), (102, .iconst (0), 1), (103, .istore 8, 2), (105, .aload_n 0, 1), (106, .getfield 9, 3), (109, .iload 6, 2), (111, .iload 7, 2), (113, .iload 4, 2), (115, .irem, 1), (116, .iload_n 3, 1), (117, .imul, 1), (118, .iload 8, 2), (120, .iload 4, 2), (122, .idiv, 1), (123, .iadd, 1), (124, .iastore, 1), (125, .iinc 6 (-1), 3), (128, .goto (-76), 3), (131, .iconst (0), 1), (132, .istore 6, 2), (134, .iload 6, 2), (136, .iload_n 2, 1), (137, .if_icmp .ge (17), 3), (140, .aload_n 0, 1), (141, .getfield 9, 3), (144, .iload 6, 2), (146, .iconst (0), 1), (147, .iastore, 1), (148, .iinc 6 (1), 3), (151, .goto (-17), 3), (154, .return_, 1)]
theorem dc_Na_moveUp : ∀ q ∈ dl_Na_moveUp, decode (zd_yb m_Na_moveUp) q.1 = .ok q.2 := by decide +kernel
def cd_Na_moveUp (l : Launch) (B : zd_B) : List (Nat × zd_S) := [(0, oc_iload 1 1), (1, oc_ci (9) 3), (3, oc_idiv 4), (4, oc_istore 2 5), (5, oc_tens B 8), (8, oc_iload 1 9), (9, oc_ci (9) 11), (11, oc_irem 12), (12, oc_iaload B 13), (13, oc_istore 3 14), (14, oc_ci (1000000000) 16), (16, oc_iload 3 17), (17, oc_idiv 18), (18, oc_istore 4 20), (20, oc_aload 0 21), (21, oc_getf B 4 1 24), (24, oc_istore 5 26), (26, oc_aload 0 27), (27, oc_aload 0 28), (28, oc_callv l B 4 m_Na_digits 0 31), (31, oc_iload 1 32), (32, oc_iadd 33), (33, oc_ci (9) 35), (35, oc_iadd 36), (36, oc_ci (1) 37), (37, oc_isub 38), (38, oc_ci (9) 40), (40, oc_idiv 41), (41, oc_callv l B 4 m_Na_claim 1 44), (44, oc_aload 0 45), (45, oc_getf B 4 1 48), (48, oc_ci (1) 49), (49, oc_isub 50), (50, oc_istore 6 52), (52, oc_iload 6 54), (54, oc_iload 2 55), (55, oc_icmp_lt 131 58), (58, oc_iload 6 60), (60, oc_iload 2 61), (61, oc_isub 62), (62, oc_iload 5 64), (64, oc_icmp_ge 79 67), (67, oc_aload 0 68), (68, oc_getf B 4 0 71), (71, oc_iload 6 73), (73, oc_iload 2 74), (74, oc_isub 75), (75, oc_iaload B 76), (76, oc_goto 80), (79, oc_ci (0) 80), (80, oc_istore 7 82), (82, oc_iload 6 84), (84, oc_iload 2 85), (85, oc_icmp_le 102 88), (88, oc_aload 0 89), (89, oc_getf B 4 0 92), (92, oc_iload 6 94), (94, oc_iload 2 95), (95, oc_isub 96), (96, oc_ci (1) 97), (97, oc_isub 98), (98, oc_iaload B 99), (99, oc_goto 103), (102, oc_ci (0) 103), (103, oc_istore 8 105), (105, oc_aload 0 106), (106, oc_getf B 4 0 109), (109, oc_iload 6 111), (111, oc_iload 7 113), (113, oc_iload 4 115), (115, oc_irem 116), (116, oc_iload 3 117), (117, oc_imul 118), (118, oc_iload 8 120), (120, oc_iload 4 122), (122, oc_idiv 123), (123, oc_iadd 124), (124, oc_iastore B 125), (125, oc_iinc 6 (-1) 128), (128, oc_goto 52), (131, oc_ci (0) 132), (132, oc_istore 6 134), (134, oc_iload 6 136), (136, oc_iload 2 137), (137, oc_icmp_ge 154 140), (140, oc_aload 0 141), (141, oc_getf B 4 0 144), (144, oc_iload 6 146), (146, oc_ci (0) 147), (147, oc_iastore B 148), (148, oc_iinc 6 (1) 151), (151, oc_goto 134), (154, oc_vret)]
set_option maxRecDepth 20000 in
theorem ok_Na_moveUp {l : Launch} {B : zd_B} (hG : zd_G B) (hl : l.stackTraces = false) : ∀ q ∈ cd_Na_moveUp l B, zd_ok l B m_Na_moveUp q.1 q.2 := by
  unfold cd_Na_moveUp
  refine zd_ac (ok_iload_n (l := l) (B := B) (y := m_Na_moveUp) (pc := 0) (k := 1) rfl (zd_dr dc_Na_moveUp 0 rfl)) ?_
  refine zd_ac (ok_bipush (l := l) (B := B) (y := m_Na_moveUp) (pc := 1) (n := (9)) (zd_dr dc_Na_moveUp 1 rfl) rfl) ?_
  refine zd_ac (ok_idiv (l := l) (B := B) (y := m_Na_moveUp) (pc := 3) (zd_dr dc_Na_moveUp 2 rfl)) ?_
  refine zd_ac (ok_istore_n (l := l) (B := B) (y := m_Na_moveUp) (pc := 4) (k := 2) rfl (zd_dr dc_Na_moveUp 3 rfl) (by decide)) ?_
  refine zd_ac (ok_tensN (l := l) (B := B) (y := m_Na_moveUp) (pc := 5) (host := "DecimalDesk") hG (List.mem_of_getElem? (i := 452) (by decide +kernel)) (zd_dr dc_Na_moveUp 4 rfl)) ?_
  refine zd_ac (ok_iload_n (l := l) (B := B) (y := m_Na_moveUp) (pc := 8) (k := 1) rfl (zd_dr dc_Na_moveUp 5 rfl)) ?_
  refine zd_ac (ok_bipush (l := l) (B := B) (y := m_Na_moveUp) (pc := 9) (n := (9)) (zd_dr dc_Na_moveUp 6 rfl) rfl) ?_
  refine zd_ac (ok_irem (l := l) (B := B) (y := m_Na_moveUp) (pc := 11) (zd_dr dc_Na_moveUp 7 rfl)) ?_
  refine zd_ac (ok_iaload (l := l) (B := B) (y := m_Na_moveUp) (pc := 12) hG (zd_dr dc_Na_moveUp 8 rfl)) ?_
  refine zd_ac (ok_istore_n (l := l) (B := B) (y := m_Na_moveUp) (pc := 13) (k := 3) rfl (zd_dr dc_Na_moveUp 9 rfl) (by decide)) ?_
  refine zd_ac (ok_ldc (l := l) (B := B) (y := m_Na_moveUp) (pc := 14) hG (List.mem_of_getElem? (i := 544) (by decide +kernel)) (zd_dr dc_Na_moveUp 10 rfl)) ?_
  refine zd_ac (ok_iload_n (l := l) (B := B) (y := m_Na_moveUp) (pc := 16) (k := 3) rfl (zd_dr dc_Na_moveUp 11 rfl)) ?_
  refine zd_ac (ok_idiv (l := l) (B := B) (y := m_Na_moveUp) (pc := 17) (zd_dr dc_Na_moveUp 12 rfl)) ?_
  refine zd_ac (ok_istore (l := l) (B := B) (y := m_Na_moveUp) (pc := 18) (zd_dr dc_Na_moveUp 13 rfl) (by decide)) ?_
  refine zd_ac (ok_aload_n (l := l) (B := B) (y := m_Na_moveUp) (pc := 20) (k := 0) rfl (zd_dr dc_Na_moveUp 14 rfl)) ?_
  refine zd_ac (ok_getf (l := l) (B := B) (y := m_Na_moveUp) (pc := 21) hG (C := zR4) (T := zT4) (N := 2) (ci := 4) (k := 1) rfl zl4 (by decide) (List.mem_of_getElem? (i := 98) (by decide +kernel)) (zd_dr dc_Na_moveUp 15 rfl)) ?_
  refine zd_ac (ok_istore (l := l) (B := B) (y := m_Na_moveUp) (pc := 24) (zd_dr dc_Na_moveUp 16 rfl) (by decide)) ?_
  refine zd_ac (ok_aload_n (l := l) (B := B) (y := m_Na_moveUp) (pc := 26) (k := 0) rfl (zd_dr dc_Na_moveUp 17 rfl)) ?_
  refine zd_ac (ok_aload_n (l := l) (B := B) (y := m_Na_moveUp) (pc := 27) (k := 0) rfl (zd_dr dc_Na_moveUp 18 rfl)) ?_
  refine zd_ac (ok_callv (l := l) (B := B) (y := m_Na_moveUp) (pc := 28) hG (ci := 4) rfl cf_Na_moveUp_Na_digits rfl (List.mem_of_getElem? (i := 549) (by decide +kernel)) (List.mem_of_getElem? (i := 474) (by decide +kernel)) (List.mem_of_getElem? (i := 475) (by decide +kernel)) (zd_dr dc_Na_moveUp 19 rfl)) ?_
  refine zd_ac (ok_iload_n (l := l) (B := B) (y := m_Na_moveUp) (pc := 31) (k := 1) rfl (zd_dr dc_Na_moveUp 20 rfl)) ?_
  refine zd_ac (ok_iadd (l := l) (B := B) (y := m_Na_moveUp) (pc := 32) (zd_dr dc_Na_moveUp 21 rfl)) ?_
  refine zd_ac (ok_bipush (l := l) (B := B) (y := m_Na_moveUp) (pc := 33) (n := (9)) (zd_dr dc_Na_moveUp 22 rfl) rfl) ?_
  refine zd_ac (ok_iadd (l := l) (B := B) (y := m_Na_moveUp) (pc := 35) (zd_dr dc_Na_moveUp 23 rfl)) ?_
  refine zd_ac (ok_iconst (l := l) (B := B) (y := m_Na_moveUp) (pc := 36) (n := (1)) (zd_dr dc_Na_moveUp 24 rfl) rfl) ?_
  refine zd_ac (ok_isub (l := l) (B := B) (y := m_Na_moveUp) (pc := 37) (zd_dr dc_Na_moveUp 25 rfl)) ?_
  refine zd_ac (ok_bipush (l := l) (B := B) (y := m_Na_moveUp) (pc := 38) (n := (9)) (zd_dr dc_Na_moveUp 26 rfl) rfl) ?_
  refine zd_ac (ok_idiv (l := l) (B := B) (y := m_Na_moveUp) (pc := 40) (zd_dr dc_Na_moveUp 27 rfl)) ?_
  refine zd_ac (ok_callv (l := l) (B := B) (y := m_Na_moveUp) (pc := 41) hG (ci := 4) rfl cf_Na_moveUp_Na_claim rfl (List.mem_of_getElem? (i := 441) (by decide +kernel)) (List.mem_of_getElem? (i := 442) (by decide +kernel)) (List.mem_of_getElem? (i := 443) (by decide +kernel)) (zd_dr dc_Na_moveUp 28 rfl)) ?_
  refine zd_ac (ok_aload_n (l := l) (B := B) (y := m_Na_moveUp) (pc := 44) (k := 0) rfl (zd_dr dc_Na_moveUp 29 rfl)) ?_
  refine zd_ac (ok_getf (l := l) (B := B) (y := m_Na_moveUp) (pc := 45) hG (C := zR4) (T := zT4) (N := 2) (ci := 4) (k := 1) rfl zl4 (by decide) (List.mem_of_getElem? (i := 98) (by decide +kernel)) (zd_dr dc_Na_moveUp 30 rfl)) ?_
  refine zd_ac (ok_iconst (l := l) (B := B) (y := m_Na_moveUp) (pc := 48) (n := (1)) (zd_dr dc_Na_moveUp 31 rfl) rfl) ?_
  refine zd_ac (ok_isub (l := l) (B := B) (y := m_Na_moveUp) (pc := 49) (zd_dr dc_Na_moveUp 32 rfl)) ?_
  refine zd_ac (ok_istore (l := l) (B := B) (y := m_Na_moveUp) (pc := 50) (zd_dr dc_Na_moveUp 33 rfl) (by decide)) ?_
  refine zd_ac (ok_iload (l := l) (B := B) (y := m_Na_moveUp) (pc := 52) (zd_dr dc_Na_moveUp 34 rfl)) ?_
  refine zd_ac (ok_iload_n (l := l) (B := B) (y := m_Na_moveUp) (pc := 54) (k := 2) rfl (zd_dr dc_Na_moveUp 35 rfl)) ?_
  refine zd_ac (ok_icmp_lt (l := l) (B := B) (y := m_Na_moveUp) (pc := 55) (zd_dr dc_Na_moveUp 36 rfl) (by decide)) ?_
  refine zd_ac (ok_iload (l := l) (B := B) (y := m_Na_moveUp) (pc := 58) (zd_dr dc_Na_moveUp 37 rfl)) ?_
  refine zd_ac (ok_iload_n (l := l) (B := B) (y := m_Na_moveUp) (pc := 60) (k := 2) rfl (zd_dr dc_Na_moveUp 38 rfl)) ?_
  refine zd_ac (ok_isub (l := l) (B := B) (y := m_Na_moveUp) (pc := 61) (zd_dr dc_Na_moveUp 39 rfl)) ?_
  refine zd_ac (ok_iload (l := l) (B := B) (y := m_Na_moveUp) (pc := 62) (zd_dr dc_Na_moveUp 40 rfl)) ?_
  refine zd_ac (ok_icmp_ge (l := l) (B := B) (y := m_Na_moveUp) (pc := 64) (zd_dr dc_Na_moveUp 41 rfl) (by decide)) ?_
  refine zd_ac (ok_aload_n (l := l) (B := B) (y := m_Na_moveUp) (pc := 67) (k := 0) rfl (zd_dr dc_Na_moveUp 42 rfl)) ?_
  refine zd_ac (ok_getf (l := l) (B := B) (y := m_Na_moveUp) (pc := 68) hG (C := zR4) (T := zT4) (N := 2) (ci := 4) (k := 0) rfl zl4 (by decide) (List.mem_of_getElem? (i := 96) (by decide +kernel)) (zd_dr dc_Na_moveUp 43 rfl)) ?_
  refine zd_ac (ok_iload (l := l) (B := B) (y := m_Na_moveUp) (pc := 71) (zd_dr dc_Na_moveUp 44 rfl)) ?_
  refine zd_ac (ok_iload_n (l := l) (B := B) (y := m_Na_moveUp) (pc := 73) (k := 2) rfl (zd_dr dc_Na_moveUp 45 rfl)) ?_
  refine zd_ac (ok_isub (l := l) (B := B) (y := m_Na_moveUp) (pc := 74) (zd_dr dc_Na_moveUp 46 rfl)) ?_
  refine zd_ac (ok_iaload (l := l) (B := B) (y := m_Na_moveUp) (pc := 75) hG (zd_dr dc_Na_moveUp 47 rfl)) ?_
  refine zd_ac (ok_goto (l := l) (B := B) (y := m_Na_moveUp) (pc := 76) (zd_dr dc_Na_moveUp 48 rfl) (by decide)) ?_
  refine zd_ac (ok_iconst (l := l) (B := B) (y := m_Na_moveUp) (pc := 79) (n := (0)) (zd_dr dc_Na_moveUp 49 rfl) rfl) ?_
  refine zd_ac (ok_istore (l := l) (B := B) (y := m_Na_moveUp) (pc := 80) (zd_dr dc_Na_moveUp 50 rfl) (by decide)) ?_
  refine zd_ac (ok_iload (l := l) (B := B) (y := m_Na_moveUp) (pc := 82) (zd_dr dc_Na_moveUp 51 rfl)) ?_
  refine zd_ac (ok_iload_n (l := l) (B := B) (y := m_Na_moveUp) (pc := 84) (k := 2) rfl (zd_dr dc_Na_moveUp 52 rfl)) ?_
  refine zd_ac (ok_icmp_le (l := l) (B := B) (y := m_Na_moveUp) (pc := 85) (zd_dr dc_Na_moveUp 53 rfl) (by decide)) ?_
  refine zd_ac (ok_aload_n (l := l) (B := B) (y := m_Na_moveUp) (pc := 88) (k := 0) rfl (zd_dr dc_Na_moveUp 54 rfl)) ?_
  refine zd_ac (ok_getf (l := l) (B := B) (y := m_Na_moveUp) (pc := 89) hG (C := zR4) (T := zT4) (N := 2) (ci := 4) (k := 0) rfl zl4 (by decide) (List.mem_of_getElem? (i := 96) (by decide +kernel)) (zd_dr dc_Na_moveUp 55 rfl)) ?_
  refine zd_ac (ok_iload (l := l) (B := B) (y := m_Na_moveUp) (pc := 92) (zd_dr dc_Na_moveUp 56 rfl)) ?_
  refine zd_ac (ok_iload_n (l := l) (B := B) (y := m_Na_moveUp) (pc := 94) (k := 2) rfl (zd_dr dc_Na_moveUp 57 rfl)) ?_
  refine zd_ac (ok_isub (l := l) (B := B) (y := m_Na_moveUp) (pc := 95) (zd_dr dc_Na_moveUp 58 rfl)) ?_
  refine zd_ac (ok_iconst (l := l) (B := B) (y := m_Na_moveUp) (pc := 96) (n := (1)) (zd_dr dc_Na_moveUp 59 rfl) rfl) ?_
  refine zd_ac (ok_isub (l := l) (B := B) (y := m_Na_moveUp) (pc := 97) (zd_dr dc_Na_moveUp 60 rfl)) ?_
  refine zd_ac (ok_iaload (l := l) (B := B) (y := m_Na_moveUp) (pc := 98) hG (zd_dr dc_Na_moveUp 61 rfl)) ?_
  refine zd_ac (ok_goto (l := l) (B := B) (y := m_Na_moveUp) (pc := 99) (zd_dr dc_Na_moveUp 62 rfl) (by decide)) ?_
  refine zd_ac (ok_iconst (l := l) (B := B) (y := m_Na_moveUp) (pc := 102) (n := (0)) (zd_dr dc_Na_moveUp 63 rfl) rfl) ?_
  refine zd_ac (ok_istore (l := l) (B := B) (y := m_Na_moveUp) (pc := 103) (zd_dr dc_Na_moveUp 64 rfl) (by decide)) ?_
  refine zd_ac (ok_aload_n (l := l) (B := B) (y := m_Na_moveUp) (pc := 105) (k := 0) rfl (zd_dr dc_Na_moveUp 65 rfl)) ?_
  refine zd_ac (ok_getf (l := l) (B := B) (y := m_Na_moveUp) (pc := 106) hG (C := zR4) (T := zT4) (N := 2) (ci := 4) (k := 0) rfl zl4 (by decide) (List.mem_of_getElem? (i := 96) (by decide +kernel)) (zd_dr dc_Na_moveUp 66 rfl)) ?_
  refine zd_ac (ok_iload (l := l) (B := B) (y := m_Na_moveUp) (pc := 109) (zd_dr dc_Na_moveUp 67 rfl)) ?_
  refine zd_ac (ok_iload (l := l) (B := B) (y := m_Na_moveUp) (pc := 111) (zd_dr dc_Na_moveUp 68 rfl)) ?_
  refine zd_ac (ok_iload (l := l) (B := B) (y := m_Na_moveUp) (pc := 113) (zd_dr dc_Na_moveUp 69 rfl)) ?_
  refine zd_ac (ok_irem (l := l) (B := B) (y := m_Na_moveUp) (pc := 115) (zd_dr dc_Na_moveUp 70 rfl)) ?_
  refine zd_ac (ok_iload_n (l := l) (B := B) (y := m_Na_moveUp) (pc := 116) (k := 3) rfl (zd_dr dc_Na_moveUp 71 rfl)) ?_
  refine zd_ac (ok_imul (l := l) (B := B) (y := m_Na_moveUp) (pc := 117) (zd_dr dc_Na_moveUp 72 rfl)) ?_
  refine zd_ac (ok_iload (l := l) (B := B) (y := m_Na_moveUp) (pc := 118) (zd_dr dc_Na_moveUp 73 rfl)) ?_
  refine zd_ac (ok_iload (l := l) (B := B) (y := m_Na_moveUp) (pc := 120) (zd_dr dc_Na_moveUp 74 rfl)) ?_
  refine zd_ac (ok_idiv (l := l) (B := B) (y := m_Na_moveUp) (pc := 122) (zd_dr dc_Na_moveUp 75 rfl)) ?_
  refine zd_ac (ok_iadd (l := l) (B := B) (y := m_Na_moveUp) (pc := 123) (zd_dr dc_Na_moveUp 76 rfl)) ?_
  refine zd_ac (ok_iastore (l := l) (B := B) (y := m_Na_moveUp) (pc := 124) hG (zd_dr dc_Na_moveUp 77 rfl)) ?_
  refine zd_ac (ok_iinc (l := l) (B := B) (y := m_Na_moveUp) (pc := 125) (zd_dr dc_Na_moveUp 78 rfl) (by decide) rfl) ?_
  refine zd_ac (ok_goto (l := l) (B := B) (y := m_Na_moveUp) (pc := 128) (zd_dr dc_Na_moveUp 79 rfl) (by decide)) ?_
  refine zd_ac (ok_iconst (l := l) (B := B) (y := m_Na_moveUp) (pc := 131) (n := (0)) (zd_dr dc_Na_moveUp 80 rfl) rfl) ?_
  refine zd_ac (ok_istore (l := l) (B := B) (y := m_Na_moveUp) (pc := 132) (zd_dr dc_Na_moveUp 81 rfl) (by decide)) ?_
  refine zd_ac (ok_iload (l := l) (B := B) (y := m_Na_moveUp) (pc := 134) (zd_dr dc_Na_moveUp 82 rfl)) ?_
  refine zd_ac (ok_iload_n (l := l) (B := B) (y := m_Na_moveUp) (pc := 136) (k := 2) rfl (zd_dr dc_Na_moveUp 83 rfl)) ?_
  refine zd_ac (ok_icmp_ge (l := l) (B := B) (y := m_Na_moveUp) (pc := 137) (zd_dr dc_Na_moveUp 84 rfl) (by decide)) ?_
  refine zd_ac (ok_aload_n (l := l) (B := B) (y := m_Na_moveUp) (pc := 140) (k := 0) rfl (zd_dr dc_Na_moveUp 85 rfl)) ?_
  refine zd_ac (ok_getf (l := l) (B := B) (y := m_Na_moveUp) (pc := 141) hG (C := zR4) (T := zT4) (N := 2) (ci := 4) (k := 0) rfl zl4 (by decide) (List.mem_of_getElem? (i := 96) (by decide +kernel)) (zd_dr dc_Na_moveUp 86 rfl)) ?_
  refine zd_ac (ok_iload (l := l) (B := B) (y := m_Na_moveUp) (pc := 144) (zd_dr dc_Na_moveUp 87 rfl)) ?_
  refine zd_ac (ok_iconst (l := l) (B := B) (y := m_Na_moveUp) (pc := 146) (n := (0)) (zd_dr dc_Na_moveUp 88 rfl) rfl) ?_
  refine zd_ac (ok_iastore (l := l) (B := B) (y := m_Na_moveUp) (pc := 147) hG (zd_dr dc_Na_moveUp 89 rfl)) ?_
  refine zd_ac (ok_iinc (l := l) (B := B) (y := m_Na_moveUp) (pc := 148) (zd_dr dc_Na_moveUp 90 rfl) (by decide) rfl) ?_
  refine zd_ac (ok_goto (l := l) (B := B) (y := m_Na_moveUp) (pc := 151) (zd_dr dc_Na_moveUp 91 rfl) (by decide)) ?_
  refine zd_ac (ok_vret (l := l) (B := B) (y := m_Na_moveUp) (pc := 154) rfl (zd_dr dc_Na_moveUp 92 rfl)) ?_
  exact zd_an
def dl_Na_moveDown : List (Nat × Instr × Nat) := [(0, .iload_n 1, 1), (1, .bipush (9), 2), (3, .idiv, 1), (4, .istore_n 2, 1), (5, .iload_n 2, 1), (6, .aload_n 0, 1), (7, .getfield 15, 3), (10, .if_icmp .lt (10), 3), (13, .aload_n 0, 1), (14, .iconst (0), 1), (15, .putfield 15, 3), (18, .iconst (1), 1), (19, .ireturn, 1), (20, .getstatic 19, 3), (23, .iload_n 1, 1), (24, .bipush (9), 2), (26, .irem, 1), (27, .iaload, 1), (28, .istore_n 3, 1), (29, .ldc 57, 2), (31, .iload_n 3, 1), (32, .idiv, 1), (33, .istore 4, 2), (35, .aload_n 0, 1), (36, .getfield 9, 3), (39, .iload_n 2, 1), (40, .iaload, 1), (41, .iload_n 3, 1), (42, .irem, 1), (43, .ifCond .eq (7), 3), (46, .iconst (1), 1), (47, .goto (4), 3), (50, .iconst (0), 1), (51, .istore 5, 2), (53, .iconst (0), 1), (54, .istore 6, 2), (56, .iload 6, 2), (58, .iload_n 2, 1), (59, .if_icmp .ge (31), 3), (62, .iload 5, 2), (64, .ifCond .ne (26), 3), (67, .aload_n 0, 1), (68, .getfield 9, 3), (71, .iload 6, 2), (73, .iaload, 1), (74, .ifCond .eq (7), 3), (77, .iconst (1), 1), (78, .goto (4), 3), (81, .iconst (0), 1), (82, .istore 5, 2), (84, .iinc 6 (1), 3), (87, .goto (-31), 3), (90, .iload_n 2, 1), (91, .istore 6, 2), (93, .iload 6, 2), (95, .aload_n 0, 1), (96, .getfield 15, 3), (99, .if_icmp .ge (61), 3), (102, .iload 6, 2), (104, .iconst (1), 1), (105, .iadd, 1), (106, .aload_n 0, 1), (107, .getfield 15, 3), (110, .if_icmp .ge (15), 3), (113, .aload_n 0, 1), (114, .getfield 9, 3), (117, .iload 6, 2), (119, .iconst (1), 1), (120, .iadd, 1), (121, .iaload, 1), (122, .goto (4), 3), (125, .iconst (0), 1), (126, .istore 7, 2), (128, .aload_n 0, 1), (129, .getfield 9, 3), (132, .iload 6, 2), (134, .iload_n 2, 1), (135, .isub, 1), (136, .aload_n 0, 1), (137, .getfield 9, 3), (140, .iload 6, 2), (142, .iaload, 1), (143, .iload_n 3, 1), (144, .idiv, 1), (145, .iload 7, 2), (147, .iload_n 3, 1), (148, .irem, 1), (149, .iload 4, 2), (151, .imul, 1), (152, .iadd, 1), (153, .iastore, 1), (154, .iinc 6 (1), 3), (157, .goto (-64), 3), (160, .aload_n 0, 1), (161, .dup, 1), (162, .getfield 15, 3), (165, .iload_n 2, 1), (166, .isub, 1), (167, .putfield 15, 3), (170, .aload_n 0, 1), (171, .invokevirtual 47, 3), (174, .iload 5, 2), (176, .ireturn, 1)]
theorem dc_Na_moveDown : ∀ q ∈ dl_Na_moveDown, decode (zd_yb m_Na_moveDown) q.1 = .ok q.2 := by decide +kernel
def cd_Na_moveDown (l : Launch) (B : zd_B) : List (Nat × zd_S) := [(0, oc_iload 1 1), (1, oc_ci (9) 3), (3, oc_idiv 4), (4, oc_istore 2 5), (5, oc_iload 2 6), (6, oc_aload 0 7), (7, oc_getf B 4 1 10), (10, oc_icmp_lt 20 13), (13, oc_aload 0 14), (14, oc_ci (0) 15), (15, oc_putf B (zy4 1) 4 1 18), (18, oc_ci (1) 19), (19, oc_iret .boolean), (20, oc_tens B 23), (23, oc_iload 1 24), (24, oc_ci (9) 26), (26, oc_irem 27), (27, oc_iaload B 28), (28, oc_istore 3 29), (29, oc_ci (1000000000) 31), (31, oc_iload 3 32), (32, oc_idiv 33), (33, oc_istore 4 35), (35, oc_aload 0 36), (36, oc_getf B 4 0 39), (39, oc_iload 2 40), (40, oc_iaload B 41), (41, oc_iload 3 42), (42, oc_irem 43), (43, oc_if_eq 50 46), (46, oc_ci (1) 47), (47, oc_goto 51), (50, oc_ci (0) 51), (51, oc_istore 5 53), (53, oc_ci (0) 54), (54, oc_istore 6 56), (56, oc_iload 6 58), (58, oc_iload 2 59), (59, oc_icmp_ge 90 62), (62, oc_iload 5 64), (64, oc_if_ne 90 67), (67, oc_aload 0 68), (68, oc_getf B 4 0 71), (71, oc_iload 6 73), (73, oc_iaload B 74), (74, oc_if_eq 81 77), (77, oc_ci (1) 78), (78, oc_goto 82), (81, oc_ci (0) 82), (82, oc_istore 5 84), (84, oc_iinc 6 (1) 87), (87, oc_goto 56), (90, oc_iload 2 91), (91, oc_istore 6 93), (93, oc_iload 6 95), (95, oc_aload 0 96), (96, oc_getf B 4 1 99), (99, oc_icmp_ge 160 102), (102, oc_iload 6 104), (104, oc_ci (1) 105), (105, oc_iadd 106), (106, oc_aload 0 107), (107, oc_getf B 4 1 110), (110, oc_icmp_ge 125 113), (113, oc_aload 0 114), (114, oc_getf B 4 0 117), (117, oc_iload 6 119), (119, oc_ci (1) 120), (120, oc_iadd 121), (121, oc_iaload B 122), (122, oc_goto 126), (125, oc_ci (0) 126), (126, oc_istore 7 128), (128, oc_aload 0 129), (129, oc_getf B 4 0 132), (132, oc_iload 6 134), (134, oc_iload 2 135), (135, oc_isub 136), (136, oc_aload 0 137), (137, oc_getf B 4 0 140), (140, oc_iload 6 142), (142, oc_iaload B 143), (143, oc_iload 3 144), (144, oc_idiv 145), (145, oc_iload 7 147), (147, oc_iload 3 148), (148, oc_irem 149), (149, oc_iload 4 151), (151, oc_imul 152), (152, oc_iadd 153), (153, oc_iastore B 154), (154, oc_iinc 6 (1) 157), (157, oc_goto 93), (160, oc_aload 0 161), (161, oc_dup 162), (162, oc_getf B 4 1 165), (165, oc_iload 2 166), (166, oc_isub 167), (167, oc_putf B (zy4 1) 4 1 170), (170, oc_aload 0 171), (171, oc_callv l B 4 m_Na_trim 0 174), (174, oc_iload 5 176), (176, oc_iret .boolean)]
set_option maxRecDepth 20000 in
theorem ok_Na_moveDown {l : Launch} {B : zd_B} (hG : zd_G B) (hl : l.stackTraces = false) : ∀ q ∈ cd_Na_moveDown l B, zd_ok l B m_Na_moveDown q.1 q.2 := by
  unfold cd_Na_moveDown
  refine zd_ac (ok_iload_n (l := l) (B := B) (y := m_Na_moveDown) (pc := 0) (k := 1) rfl (zd_dr dc_Na_moveDown 0 rfl)) ?_
  refine zd_ac (ok_bipush (l := l) (B := B) (y := m_Na_moveDown) (pc := 1) (n := (9)) (zd_dr dc_Na_moveDown 1 rfl) rfl) ?_
  refine zd_ac (ok_idiv (l := l) (B := B) (y := m_Na_moveDown) (pc := 3) (zd_dr dc_Na_moveDown 2 rfl)) ?_
  refine zd_ac (ok_istore_n (l := l) (B := B) (y := m_Na_moveDown) (pc := 4) (k := 2) rfl (zd_dr dc_Na_moveDown 3 rfl) (by decide)) ?_
  refine zd_ac (ok_iload_n (l := l) (B := B) (y := m_Na_moveDown) (pc := 5) (k := 2) rfl (zd_dr dc_Na_moveDown 4 rfl)) ?_
  refine zd_ac (ok_aload_n (l := l) (B := B) (y := m_Na_moveDown) (pc := 6) (k := 0) rfl (zd_dr dc_Na_moveDown 5 rfl)) ?_
  refine zd_ac (ok_getf (l := l) (B := B) (y := m_Na_moveDown) (pc := 7) hG (C := zR4) (T := zT4) (N := 2) (ci := 4) (k := 1) rfl zl4 (by decide) (List.mem_of_getElem? (i := 98) (by decide +kernel)) (zd_dr dc_Na_moveDown 6 rfl)) ?_
  refine zd_ac (ok_icmp_lt (l := l) (B := B) (y := m_Na_moveDown) (pc := 10) (zd_dr dc_Na_moveDown 7 rfl) (by decide)) ?_
  refine zd_ac (ok_aload_n (l := l) (B := B) (y := m_Na_moveDown) (pc := 13) (k := 0) rfl (zd_dr dc_Na_moveDown 8 rfl)) ?_
  refine zd_ac (ok_iconst (l := l) (B := B) (y := m_Na_moveDown) (pc := 14) (n := (0)) (zd_dr dc_Na_moveDown 9 rfl) rfl) ?_
  refine zd_ac (ok_putf (l := l) (B := B) (y := m_Na_moveDown) (pc := 15) hG (C := zR4) (T := zT4) (N := 2) (ci := 4) (k := 1) rfl zl4 zt4 (by decide) (List.mem_of_getElem? (i := 98) (by decide +kernel)) rfl (zd_dr dc_Na_moveDown 10 rfl)) ?_
  refine zd_ac (ok_iconst (l := l) (B := B) (y := m_Na_moveDown) (pc := 18) (n := (1)) (zd_dr dc_Na_moveDown 11 rfl) rfl) ?_
  refine zd_ac (ok_iret (l := l) (B := B) (y := m_Na_moveDown) (pc := 19) rfl (zd_dr dc_Na_moveDown 12 rfl)) ?_
  refine zd_ac (ok_tensN (l := l) (B := B) (y := m_Na_moveDown) (pc := 20) (host := "DecimalDesk") hG (List.mem_of_getElem? (i := 452) (by decide +kernel)) (zd_dr dc_Na_moveDown 13 rfl)) ?_
  refine zd_ac (ok_iload_n (l := l) (B := B) (y := m_Na_moveDown) (pc := 23) (k := 1) rfl (zd_dr dc_Na_moveDown 14 rfl)) ?_
  refine zd_ac (ok_bipush (l := l) (B := B) (y := m_Na_moveDown) (pc := 24) (n := (9)) (zd_dr dc_Na_moveDown 15 rfl) rfl) ?_
  refine zd_ac (ok_irem (l := l) (B := B) (y := m_Na_moveDown) (pc := 26) (zd_dr dc_Na_moveDown 16 rfl)) ?_
  refine zd_ac (ok_iaload (l := l) (B := B) (y := m_Na_moveDown) (pc := 27) hG (zd_dr dc_Na_moveDown 17 rfl)) ?_
  refine zd_ac (ok_istore_n (l := l) (B := B) (y := m_Na_moveDown) (pc := 28) (k := 3) rfl (zd_dr dc_Na_moveDown 18 rfl) (by decide)) ?_
  refine zd_ac (ok_ldc (l := l) (B := B) (y := m_Na_moveDown) (pc := 29) hG (List.mem_of_getElem? (i := 544) (by decide +kernel)) (zd_dr dc_Na_moveDown 19 rfl)) ?_
  refine zd_ac (ok_iload_n (l := l) (B := B) (y := m_Na_moveDown) (pc := 31) (k := 3) rfl (zd_dr dc_Na_moveDown 20 rfl)) ?_
  refine zd_ac (ok_idiv (l := l) (B := B) (y := m_Na_moveDown) (pc := 32) (zd_dr dc_Na_moveDown 21 rfl)) ?_
  refine zd_ac (ok_istore (l := l) (B := B) (y := m_Na_moveDown) (pc := 33) (zd_dr dc_Na_moveDown 22 rfl) (by decide)) ?_
  refine zd_ac (ok_aload_n (l := l) (B := B) (y := m_Na_moveDown) (pc := 35) (k := 0) rfl (zd_dr dc_Na_moveDown 23 rfl)) ?_
  refine zd_ac (ok_getf (l := l) (B := B) (y := m_Na_moveDown) (pc := 36) hG (C := zR4) (T := zT4) (N := 2) (ci := 4) (k := 0) rfl zl4 (by decide) (List.mem_of_getElem? (i := 96) (by decide +kernel)) (zd_dr dc_Na_moveDown 24 rfl)) ?_
  refine zd_ac (ok_iload_n (l := l) (B := B) (y := m_Na_moveDown) (pc := 39) (k := 2) rfl (zd_dr dc_Na_moveDown 25 rfl)) ?_
  refine zd_ac (ok_iaload (l := l) (B := B) (y := m_Na_moveDown) (pc := 40) hG (zd_dr dc_Na_moveDown 26 rfl)) ?_
  refine zd_ac (ok_iload_n (l := l) (B := B) (y := m_Na_moveDown) (pc := 41) (k := 3) rfl (zd_dr dc_Na_moveDown 27 rfl)) ?_
  refine zd_ac (ok_irem (l := l) (B := B) (y := m_Na_moveDown) (pc := 42) (zd_dr dc_Na_moveDown 28 rfl)) ?_
  refine zd_ac (ok_if_eq (l := l) (B := B) (y := m_Na_moveDown) (pc := 43) (zd_dr dc_Na_moveDown 29 rfl) (by decide)) ?_
  refine zd_ac (ok_iconst (l := l) (B := B) (y := m_Na_moveDown) (pc := 46) (n := (1)) (zd_dr dc_Na_moveDown 30 rfl) rfl) ?_
  refine zd_ac (ok_goto (l := l) (B := B) (y := m_Na_moveDown) (pc := 47) (zd_dr dc_Na_moveDown 31 rfl) (by decide)) ?_
  refine zd_ac (ok_iconst (l := l) (B := B) (y := m_Na_moveDown) (pc := 50) (n := (0)) (zd_dr dc_Na_moveDown 32 rfl) rfl) ?_
  refine zd_ac (ok_istore (l := l) (B := B) (y := m_Na_moveDown) (pc := 51) (zd_dr dc_Na_moveDown 33 rfl) (by decide)) ?_
  refine zd_ac (ok_iconst (l := l) (B := B) (y := m_Na_moveDown) (pc := 53) (n := (0)) (zd_dr dc_Na_moveDown 34 rfl) rfl) ?_
  refine zd_ac (ok_istore (l := l) (B := B) (y := m_Na_moveDown) (pc := 54) (zd_dr dc_Na_moveDown 35 rfl) (by decide)) ?_
  refine zd_ac (ok_iload (l := l) (B := B) (y := m_Na_moveDown) (pc := 56) (zd_dr dc_Na_moveDown 36 rfl)) ?_
  refine zd_ac (ok_iload_n (l := l) (B := B) (y := m_Na_moveDown) (pc := 58) (k := 2) rfl (zd_dr dc_Na_moveDown 37 rfl)) ?_
  refine zd_ac (ok_icmp_ge (l := l) (B := B) (y := m_Na_moveDown) (pc := 59) (zd_dr dc_Na_moveDown 38 rfl) (by decide)) ?_
  refine zd_ac (ok_iload (l := l) (B := B) (y := m_Na_moveDown) (pc := 62) (zd_dr dc_Na_moveDown 39 rfl)) ?_
  refine zd_ac (ok_if_ne (l := l) (B := B) (y := m_Na_moveDown) (pc := 64) (zd_dr dc_Na_moveDown 40 rfl) (by decide)) ?_
  refine zd_ac (ok_aload_n (l := l) (B := B) (y := m_Na_moveDown) (pc := 67) (k := 0) rfl (zd_dr dc_Na_moveDown 41 rfl)) ?_
  refine zd_ac (ok_getf (l := l) (B := B) (y := m_Na_moveDown) (pc := 68) hG (C := zR4) (T := zT4) (N := 2) (ci := 4) (k := 0) rfl zl4 (by decide) (List.mem_of_getElem? (i := 96) (by decide +kernel)) (zd_dr dc_Na_moveDown 42 rfl)) ?_
  refine zd_ac (ok_iload (l := l) (B := B) (y := m_Na_moveDown) (pc := 71) (zd_dr dc_Na_moveDown 43 rfl)) ?_
  refine zd_ac (ok_iaload (l := l) (B := B) (y := m_Na_moveDown) (pc := 73) hG (zd_dr dc_Na_moveDown 44 rfl)) ?_
  refine zd_ac (ok_if_eq (l := l) (B := B) (y := m_Na_moveDown) (pc := 74) (zd_dr dc_Na_moveDown 45 rfl) (by decide)) ?_
  refine zd_ac (ok_iconst (l := l) (B := B) (y := m_Na_moveDown) (pc := 77) (n := (1)) (zd_dr dc_Na_moveDown 46 rfl) rfl) ?_
  refine zd_ac (ok_goto (l := l) (B := B) (y := m_Na_moveDown) (pc := 78) (zd_dr dc_Na_moveDown 47 rfl) (by decide)) ?_
  refine zd_ac (ok_iconst (l := l) (B := B) (y := m_Na_moveDown) (pc := 81) (n := (0)) (zd_dr dc_Na_moveDown 48 rfl) rfl) ?_
  refine zd_ac (ok_istore (l := l) (B := B) (y := m_Na_moveDown) (pc := 82) (zd_dr dc_Na_moveDown 49 rfl) (by decide)) ?_
  refine zd_ac (ok_iinc (l := l) (B := B) (y := m_Na_moveDown) (pc := 84) (zd_dr dc_Na_moveDown 50 rfl) (by decide) rfl) ?_
  refine zd_ac (ok_goto (l := l) (B := B) (y := m_Na_moveDown) (pc := 87) (zd_dr dc_Na_moveDown 51 rfl) (by decide)) ?_
  refine zd_ac (ok_iload_n (l := l) (B := B) (y := m_Na_moveDown) (pc := 90) (k := 2) rfl (zd_dr dc_Na_moveDown 52 rfl)) ?_
  refine zd_ac (ok_istore (l := l) (B := B) (y := m_Na_moveDown) (pc := 91) (zd_dr dc_Na_moveDown 53 rfl) (by decide)) ?_
  refine zd_ac (ok_iload (l := l) (B := B) (y := m_Na_moveDown) (pc := 93) (zd_dr dc_Na_moveDown 54 rfl)) ?_
  refine zd_ac (ok_aload_n (l := l) (B := B) (y := m_Na_moveDown) (pc := 95) (k := 0) rfl (zd_dr dc_Na_moveDown 55 rfl)) ?_
  refine zd_ac (ok_getf (l := l) (B := B) (y := m_Na_moveDown) (pc := 96) hG (C := zR4) (T := zT4) (N := 2) (ci := 4) (k := 1) rfl zl4 (by decide) (List.mem_of_getElem? (i := 98) (by decide +kernel)) (zd_dr dc_Na_moveDown 56 rfl)) ?_
  refine zd_ac (ok_icmp_ge (l := l) (B := B) (y := m_Na_moveDown) (pc := 99) (zd_dr dc_Na_moveDown 57 rfl) (by decide)) ?_
  refine zd_ac (ok_iload (l := l) (B := B) (y := m_Na_moveDown) (pc := 102) (zd_dr dc_Na_moveDown 58 rfl)) ?_
  refine zd_ac (ok_iconst (l := l) (B := B) (y := m_Na_moveDown) (pc := 104) (n := (1)) (zd_dr dc_Na_moveDown 59 rfl) rfl) ?_
  refine zd_ac (ok_iadd (l := l) (B := B) (y := m_Na_moveDown) (pc := 105) (zd_dr dc_Na_moveDown 60 rfl)) ?_
  refine zd_ac (ok_aload_n (l := l) (B := B) (y := m_Na_moveDown) (pc := 106) (k := 0) rfl (zd_dr dc_Na_moveDown 61 rfl)) ?_
  refine zd_ac (ok_getf (l := l) (B := B) (y := m_Na_moveDown) (pc := 107) hG (C := zR4) (T := zT4) (N := 2) (ci := 4) (k := 1) rfl zl4 (by decide) (List.mem_of_getElem? (i := 98) (by decide +kernel)) (zd_dr dc_Na_moveDown 62 rfl)) ?_
  refine zd_ac (ok_icmp_ge (l := l) (B := B) (y := m_Na_moveDown) (pc := 110) (zd_dr dc_Na_moveDown 63 rfl) (by decide)) ?_
  refine zd_ac (ok_aload_n (l := l) (B := B) (y := m_Na_moveDown) (pc := 113) (k := 0) rfl (zd_dr dc_Na_moveDown 64 rfl)) ?_
  refine zd_ac (ok_getf (l := l) (B := B) (y := m_Na_moveDown) (pc := 114) hG (C := zR4) (T := zT4) (N := 2) (ci := 4) (k := 0) rfl zl4 (by decide) (List.mem_of_getElem? (i := 96) (by decide +kernel)) (zd_dr dc_Na_moveDown 65 rfl)) ?_
  refine zd_ac (ok_iload (l := l) (B := B) (y := m_Na_moveDown) (pc := 117) (zd_dr dc_Na_moveDown 66 rfl)) ?_
  refine zd_ac (ok_iconst (l := l) (B := B) (y := m_Na_moveDown) (pc := 119) (n := (1)) (zd_dr dc_Na_moveDown 67 rfl) rfl) ?_
  refine zd_ac (ok_iadd (l := l) (B := B) (y := m_Na_moveDown) (pc := 120) (zd_dr dc_Na_moveDown 68 rfl)) ?_
  refine zd_ac (ok_iaload (l := l) (B := B) (y := m_Na_moveDown) (pc := 121) hG (zd_dr dc_Na_moveDown 69 rfl)) ?_
  refine zd_ac (ok_goto (l := l) (B := B) (y := m_Na_moveDown) (pc := 122) (zd_dr dc_Na_moveDown 70 rfl) (by decide)) ?_
  refine zd_ac (ok_iconst (l := l) (B := B) (y := m_Na_moveDown) (pc := 125) (n := (0)) (zd_dr dc_Na_moveDown 71 rfl) rfl) ?_
  refine zd_ac (ok_istore (l := l) (B := B) (y := m_Na_moveDown) (pc := 126) (zd_dr dc_Na_moveDown 72 rfl) (by decide)) ?_
  refine zd_ac (ok_aload_n (l := l) (B := B) (y := m_Na_moveDown) (pc := 128) (k := 0) rfl (zd_dr dc_Na_moveDown 73 rfl)) ?_
  refine zd_ac (ok_getf (l := l) (B := B) (y := m_Na_moveDown) (pc := 129) hG (C := zR4) (T := zT4) (N := 2) (ci := 4) (k := 0) rfl zl4 (by decide) (List.mem_of_getElem? (i := 96) (by decide +kernel)) (zd_dr dc_Na_moveDown 74 rfl)) ?_
  refine zd_ac (ok_iload (l := l) (B := B) (y := m_Na_moveDown) (pc := 132) (zd_dr dc_Na_moveDown 75 rfl)) ?_
  refine zd_ac (ok_iload_n (l := l) (B := B) (y := m_Na_moveDown) (pc := 134) (k := 2) rfl (zd_dr dc_Na_moveDown 76 rfl)) ?_
  refine zd_ac (ok_isub (l := l) (B := B) (y := m_Na_moveDown) (pc := 135) (zd_dr dc_Na_moveDown 77 rfl)) ?_
  refine zd_ac (ok_aload_n (l := l) (B := B) (y := m_Na_moveDown) (pc := 136) (k := 0) rfl (zd_dr dc_Na_moveDown 78 rfl)) ?_
  refine zd_ac (ok_getf (l := l) (B := B) (y := m_Na_moveDown) (pc := 137) hG (C := zR4) (T := zT4) (N := 2) (ci := 4) (k := 0) rfl zl4 (by decide) (List.mem_of_getElem? (i := 96) (by decide +kernel)) (zd_dr dc_Na_moveDown 79 rfl)) ?_
  refine zd_ac (ok_iload (l := l) (B := B) (y := m_Na_moveDown) (pc := 140) (zd_dr dc_Na_moveDown 80 rfl)) ?_
  refine zd_ac (ok_iaload (l := l) (B := B) (y := m_Na_moveDown) (pc := 142) hG (zd_dr dc_Na_moveDown 81 rfl)) ?_
  refine zd_ac (ok_iload_n (l := l) (B := B) (y := m_Na_moveDown) (pc := 143) (k := 3) rfl (zd_dr dc_Na_moveDown 82 rfl)) ?_
  refine zd_ac (ok_idiv (l := l) (B := B) (y := m_Na_moveDown) (pc := 144) (zd_dr dc_Na_moveDown 83 rfl)) ?_
  refine zd_ac (ok_iload (l := l) (B := B) (y := m_Na_moveDown) (pc := 145) (zd_dr dc_Na_moveDown 84 rfl)) ?_
  refine zd_ac (ok_iload_n (l := l) (B := B) (y := m_Na_moveDown) (pc := 147) (k := 3) rfl (zd_dr dc_Na_moveDown 85 rfl)) ?_
  refine zd_ac (ok_irem (l := l) (B := B) (y := m_Na_moveDown) (pc := 148) (zd_dr dc_Na_moveDown 86 rfl)) ?_
  refine zd_ac (ok_iload (l := l) (B := B) (y := m_Na_moveDown) (pc := 149) (zd_dr dc_Na_moveDown 87 rfl)) ?_
  refine zd_ac (ok_imul (l := l) (B := B) (y := m_Na_moveDown) (pc := 151) (zd_dr dc_Na_moveDown 88 rfl)) ?_
  refine zd_ac (ok_iadd (l := l) (B := B) (y := m_Na_moveDown) (pc := 152) (zd_dr dc_Na_moveDown 89 rfl)) ?_
  refine zd_ac (ok_iastore (l := l) (B := B) (y := m_Na_moveDown) (pc := 153) hG (zd_dr dc_Na_moveDown 90 rfl)) ?_
  refine zd_ac (ok_iinc (l := l) (B := B) (y := m_Na_moveDown) (pc := 154) (zd_dr dc_Na_moveDown 91 rfl) (by decide) rfl) ?_
  refine zd_ac (ok_goto (l := l) (B := B) (y := m_Na_moveDown) (pc := 157) (zd_dr dc_Na_moveDown 92 rfl) (by decide)) ?_
  refine zd_ac (ok_aload_n (l := l) (B := B) (y := m_Na_moveDown) (pc := 160) (k := 0) rfl (zd_dr dc_Na_moveDown 93 rfl)) ?_
  refine zd_ac (ok_dup (l := l) (B := B) (y := m_Na_moveDown) (pc := 161) (zd_dr dc_Na_moveDown 94 rfl)) ?_
  refine zd_ac (ok_getf (l := l) (B := B) (y := m_Na_moveDown) (pc := 162) hG (C := zR4) (T := zT4) (N := 2) (ci := 4) (k := 1) rfl zl4 (by decide) (List.mem_of_getElem? (i := 98) (by decide +kernel)) (zd_dr dc_Na_moveDown 95 rfl)) ?_
  refine zd_ac (ok_iload_n (l := l) (B := B) (y := m_Na_moveDown) (pc := 165) (k := 2) rfl (zd_dr dc_Na_moveDown 96 rfl)) ?_
  refine zd_ac (ok_isub (l := l) (B := B) (y := m_Na_moveDown) (pc := 166) (zd_dr dc_Na_moveDown 97 rfl)) ?_
  refine zd_ac (ok_putf (l := l) (B := B) (y := m_Na_moveDown) (pc := 167) hG (C := zR4) (T := zT4) (N := 2) (ci := 4) (k := 1) rfl zl4 zt4 (by decide) (List.mem_of_getElem? (i := 98) (by decide +kernel)) rfl (zd_dr dc_Na_moveDown 98 rfl)) ?_
  refine zd_ac (ok_aload_n (l := l) (B := B) (y := m_Na_moveDown) (pc := 170) (k := 0) rfl (zd_dr dc_Na_moveDown 99 rfl)) ?_
  refine zd_ac (ok_callv (l := l) (B := B) (y := m_Na_moveDown) (pc := 171) hG (ci := 4) rfl cf_Na_moveDown_Na_trim rfl (List.mem_of_getElem? (i := 505) (by decide +kernel)) (List.mem_of_getElem? (i := 455) (by decide +kernel)) (List.mem_of_getElem? (i := 456) (by decide +kernel)) (zd_dr dc_Na_moveDown 100 rfl)) ?_
  refine zd_ac (ok_iload (l := l) (B := B) (y := m_Na_moveDown) (pc := 174) (zd_dr dc_Na_moveDown 101 rfl)) ?_
  refine zd_ac (ok_iret (l := l) (B := B) (y := m_Na_moveDown) (pc := 176) rfl (zd_dr dc_Na_moveDown 102 rfl)) ?_
  exact zd_an
def dl_Na_raiseBy : List (Nat × Instr × Nat) := [(0, .aload_n 0, 1), (1, .getfield 15, 3), (4, .aload_n 1, 1), (5, .getfield 15, 3), (8, .invokestatic 62, 3), (11, .istore_n 2, 1), (12, .aload_n 0, 1), (13, .getfield 15, 3), (16, .istore_n 3, 1), (17, .aload_n 0, 1), (18, .iload_n 2, 1), (19, .iconst (1), 1), (20, .iadd, 1), (21, .invokevirtual 35, 3), (24, .iconst (0), 1), (25, .istore 4, 2), (27, .iconst (0), 1), (28, .istore 5, 2), (30, .iload 5, 2), (32, .iload_n 2, 1), (33, .if_icmp .ge (89), 3), (36, .iload 4, 2), (38, .iload 5, 2), (40, .iload_n 3, 1), (41, .if_icmp .ge (13), 3), (44, .aload_n 0, 1), (45, .getfield 9, 3), (48, .iload 5, 2), (50, .iaload, 1), (51, .goto (4), 3), (54, .iconst (0), 1), (55, .iadd, 1), (56, .ldc 57, 2), (58, .isub, 1), (59, .iload 5, 2), (61, .aload_n 1, 1), (62, .getfield 15, 3), (65, .if_icmp .ge (13), 3), (68, .aload_n 1, 1), (69, .getfield 9, 3), (72, .iload 5, 2), (74, .iaload, 1), (75, .goto (4), 3), (78, .iconst (0), 1), (79, .iadd, 1), (80, .istore 6, 2), (82, .iload 6, 2), (84, .ifCond .lt (7), 3), (87, .iconst (1), 1), (88, .goto (4), 3), (91, .iconst (0), 1), (92, .istore 4, 2), (94, .aload_n 0, 1), (95, .getfield 9, 3), (98, .iload 5, 2), (100, .iload 6, 2), (102, .ifCond .lt (8), 3), (105, .iload 6, 2), (107, .goto (8), 3), (110, .iload 6, 2), (112, .ldc 57, 2), (114, .iadd, 1), (115, .iastore, 1), (116, .iinc 5 (1), 3), (119, .goto (-89), 3), (122, .aload_n 0, 1), (123, .getfield 9, 3), (126, .iload_n 2, 1), (127, .iload 4, 2), (129, .iastore, 1), (130, .aload_n 0, 1), (131, .invokevirtual 47, 3), (134, .return_, 1)]
theorem dc_Na_raiseBy : ∀ q ∈ dl_Na_raiseBy, decode (zd_yb m_Na_raiseBy) q.1 = .ok q.2 := by decide +kernel
def cd_Na_raiseBy (l : Launch) (B : zd_B) : List (Nat × zd_S) := [(0, oc_aload 0 1), (1, oc_getf B 4 1 4), (4, oc_aload 1 5), (5, oc_getf B 4 1 8), (8, oc_calls l B m_Ma_max 2 11), (11, oc_istore 2 12), (12, oc_aload 0 13), (13, oc_getf B 4 1 16), (16, oc_istore 3 17), (17, oc_aload 0 18), (18, oc_iload 2 19), (19, oc_ci (1) 20), (20, oc_iadd 21), (21, oc_callv l B 4 m_Na_claim 1 24), (24, oc_ci (0) 25), (25, oc_istore 4 27), (27, oc_ci (0) 28), (28, oc_istore 5 30), (30, oc_iload 5 32), (32, oc_iload 2 33), (33, oc_icmp_ge 122 36), (36, oc_iload 4 38), (38, oc_iload 5 40), (40, oc_iload 3 41), (41, oc_icmp_ge 54 44), (44, oc_aload 0 45), (45, oc_getf B 4 0 48), (48, oc_iload 5 50), (50, oc_iaload B 51), (51, oc_goto 55), (54, oc_ci (0) 55), (55, oc_iadd 56), (56, oc_ci (1000000000) 58), (58, oc_isub 59), (59, oc_iload 5 61), (61, oc_aload 1 62), (62, oc_getf B 4 1 65), (65, oc_icmp_ge 78 68), (68, oc_aload 1 69), (69, oc_getf B 4 0 72), (72, oc_iload 5 74), (74, oc_iaload B 75), (75, oc_goto 79), (78, oc_ci (0) 79), (79, oc_iadd 80), (80, oc_istore 6 82), (82, oc_iload 6 84), (84, oc_if_lt 91 87), (87, oc_ci (1) 88), (88, oc_goto 92), (91, oc_ci (0) 92), (92, oc_istore 4 94), (94, oc_aload 0 95), (95, oc_getf B 4 0 98), (98, oc_iload 5 100), (100, oc_iload 6 102), (102, oc_if_lt 110 105), (105, oc_iload 6 107), (107, oc_goto 115), (110, oc_iload 6 112), (112, oc_ci (1000000000) 114), (114, oc_iadd 115), (115, oc_iastore B 116), (116, oc_iinc 5 (1) 119), (119, oc_goto 30), (122, oc_aload 0 123), (123, oc_getf B 4 0 126), (126, oc_iload 2 127), (127, oc_iload 4 129), (129, oc_iastore B 130), (130, oc_aload 0 131), (131, oc_callv l B 4 m_Na_trim 0 134), (134, oc_vret)]
set_option maxRecDepth 20000 in
theorem ok_Na_raiseBy {l : Launch} {B : zd_B} (hG : zd_G B) (hl : l.stackTraces = false) : ∀ q ∈ cd_Na_raiseBy l B, zd_ok l B m_Na_raiseBy q.1 q.2 := by
  unfold cd_Na_raiseBy
  refine zd_ac (ok_aload_n (l := l) (B := B) (y := m_Na_raiseBy) (pc := 0) (k := 0) rfl (zd_dr dc_Na_raiseBy 0 rfl)) ?_
  refine zd_ac (ok_getf (l := l) (B := B) (y := m_Na_raiseBy) (pc := 1) hG (C := zR4) (T := zT4) (N := 2) (ci := 4) (k := 1) rfl zl4 (by decide) (List.mem_of_getElem? (i := 98) (by decide +kernel)) (zd_dr dc_Na_raiseBy 1 rfl)) ?_
  refine zd_ac (ok_aload_n (l := l) (B := B) (y := m_Na_raiseBy) (pc := 4) (k := 1) rfl (zd_dr dc_Na_raiseBy 2 rfl)) ?_
  refine zd_ac (ok_getf (l := l) (B := B) (y := m_Na_raiseBy) (pc := 5) hG (C := zR4) (T := zT4) (N := 2) (ci := 4) (k := 1) rfl zl4 (by decide) (List.mem_of_getElem? (i := 98) (by decide +kernel)) (zd_dr dc_Na_raiseBy 3 rfl)) ?_
  refine zd_ac (ok_calls (l := l) (B := B) (y := m_Na_raiseBy) (pc := 8) hG cf_Na_raiseBy_Ma_max rfl (List.mem_of_getElem? (i := 560) (by decide +kernel)) (List.mem_of_getElem? (i := 524) (by decide +kernel)) (List.mem_of_getElem? (i := 72) (by decide +kernel)) (zd_dr dc_Na_raiseBy 4 rfl)) ?_
  refine zd_ac (ok_istore_n (l := l) (B := B) (y := m_Na_raiseBy) (pc := 11) (k := 2) rfl (zd_dr dc_Na_raiseBy 5 rfl) (by decide)) ?_
  refine zd_ac (ok_aload_n (l := l) (B := B) (y := m_Na_raiseBy) (pc := 12) (k := 0) rfl (zd_dr dc_Na_raiseBy 6 rfl)) ?_
  refine zd_ac (ok_getf (l := l) (B := B) (y := m_Na_raiseBy) (pc := 13) hG (C := zR4) (T := zT4) (N := 2) (ci := 4) (k := 1) rfl zl4 (by decide) (List.mem_of_getElem? (i := 98) (by decide +kernel)) (zd_dr dc_Na_raiseBy 7 rfl)) ?_
  refine zd_ac (ok_istore_n (l := l) (B := B) (y := m_Na_raiseBy) (pc := 16) (k := 3) rfl (zd_dr dc_Na_raiseBy 8 rfl) (by decide)) ?_
  refine zd_ac (ok_aload_n (l := l) (B := B) (y := m_Na_raiseBy) (pc := 17) (k := 0) rfl (zd_dr dc_Na_raiseBy 9 rfl)) ?_
  refine zd_ac (ok_iload_n (l := l) (B := B) (y := m_Na_raiseBy) (pc := 18) (k := 2) rfl (zd_dr dc_Na_raiseBy 10 rfl)) ?_
  refine zd_ac (ok_iconst (l := l) (B := B) (y := m_Na_raiseBy) (pc := 19) (n := (1)) (zd_dr dc_Na_raiseBy 11 rfl) rfl) ?_
  refine zd_ac (ok_iadd (l := l) (B := B) (y := m_Na_raiseBy) (pc := 20) (zd_dr dc_Na_raiseBy 12 rfl)) ?_
  refine zd_ac (ok_callv (l := l) (B := B) (y := m_Na_raiseBy) (pc := 21) hG (ci := 4) rfl cf_Na_raiseBy_Na_claim rfl (List.mem_of_getElem? (i := 441) (by decide +kernel)) (List.mem_of_getElem? (i := 442) (by decide +kernel)) (List.mem_of_getElem? (i := 443) (by decide +kernel)) (zd_dr dc_Na_raiseBy 13 rfl)) ?_
  refine zd_ac (ok_iconst (l := l) (B := B) (y := m_Na_raiseBy) (pc := 24) (n := (0)) (zd_dr dc_Na_raiseBy 14 rfl) rfl) ?_
  refine zd_ac (ok_istore (l := l) (B := B) (y := m_Na_raiseBy) (pc := 25) (zd_dr dc_Na_raiseBy 15 rfl) (by decide)) ?_
  refine zd_ac (ok_iconst (l := l) (B := B) (y := m_Na_raiseBy) (pc := 27) (n := (0)) (zd_dr dc_Na_raiseBy 16 rfl) rfl) ?_
  refine zd_ac (ok_istore (l := l) (B := B) (y := m_Na_raiseBy) (pc := 28) (zd_dr dc_Na_raiseBy 17 rfl) (by decide)) ?_
  refine zd_ac (ok_iload (l := l) (B := B) (y := m_Na_raiseBy) (pc := 30) (zd_dr dc_Na_raiseBy 18 rfl)) ?_
  refine zd_ac (ok_iload_n (l := l) (B := B) (y := m_Na_raiseBy) (pc := 32) (k := 2) rfl (zd_dr dc_Na_raiseBy 19 rfl)) ?_
  refine zd_ac (ok_icmp_ge (l := l) (B := B) (y := m_Na_raiseBy) (pc := 33) (zd_dr dc_Na_raiseBy 20 rfl) (by decide)) ?_
  refine zd_ac (ok_iload (l := l) (B := B) (y := m_Na_raiseBy) (pc := 36) (zd_dr dc_Na_raiseBy 21 rfl)) ?_
  refine zd_ac (ok_iload (l := l) (B := B) (y := m_Na_raiseBy) (pc := 38) (zd_dr dc_Na_raiseBy 22 rfl)) ?_
  refine zd_ac (ok_iload_n (l := l) (B := B) (y := m_Na_raiseBy) (pc := 40) (k := 3) rfl (zd_dr dc_Na_raiseBy 23 rfl)) ?_
  refine zd_ac (ok_icmp_ge (l := l) (B := B) (y := m_Na_raiseBy) (pc := 41) (zd_dr dc_Na_raiseBy 24 rfl) (by decide)) ?_
  refine zd_ac (ok_aload_n (l := l) (B := B) (y := m_Na_raiseBy) (pc := 44) (k := 0) rfl (zd_dr dc_Na_raiseBy 25 rfl)) ?_
  refine zd_ac (ok_getf (l := l) (B := B) (y := m_Na_raiseBy) (pc := 45) hG (C := zR4) (T := zT4) (N := 2) (ci := 4) (k := 0) rfl zl4 (by decide) (List.mem_of_getElem? (i := 96) (by decide +kernel)) (zd_dr dc_Na_raiseBy 26 rfl)) ?_
  refine zd_ac (ok_iload (l := l) (B := B) (y := m_Na_raiseBy) (pc := 48) (zd_dr dc_Na_raiseBy 27 rfl)) ?_
  refine zd_ac (ok_iaload (l := l) (B := B) (y := m_Na_raiseBy) (pc := 50) hG (zd_dr dc_Na_raiseBy 28 rfl)) ?_
  refine zd_ac (ok_goto (l := l) (B := B) (y := m_Na_raiseBy) (pc := 51) (zd_dr dc_Na_raiseBy 29 rfl) (by decide)) ?_
  refine zd_ac (ok_iconst (l := l) (B := B) (y := m_Na_raiseBy) (pc := 54) (n := (0)) (zd_dr dc_Na_raiseBy 30 rfl) rfl) ?_
  refine zd_ac (ok_iadd (l := l) (B := B) (y := m_Na_raiseBy) (pc := 55) (zd_dr dc_Na_raiseBy 31 rfl)) ?_
  refine zd_ac (ok_ldc (l := l) (B := B) (y := m_Na_raiseBy) (pc := 56) hG (List.mem_of_getElem? (i := 544) (by decide +kernel)) (zd_dr dc_Na_raiseBy 32 rfl)) ?_
  refine zd_ac (ok_isub (l := l) (B := B) (y := m_Na_raiseBy) (pc := 58) (zd_dr dc_Na_raiseBy 33 rfl)) ?_
  refine zd_ac (ok_iload (l := l) (B := B) (y := m_Na_raiseBy) (pc := 59) (zd_dr dc_Na_raiseBy 34 rfl)) ?_
  refine zd_ac (ok_aload_n (l := l) (B := B) (y := m_Na_raiseBy) (pc := 61) (k := 1) rfl (zd_dr dc_Na_raiseBy 35 rfl)) ?_
  refine zd_ac (ok_getf (l := l) (B := B) (y := m_Na_raiseBy) (pc := 62) hG (C := zR4) (T := zT4) (N := 2) (ci := 4) (k := 1) rfl zl4 (by decide) (List.mem_of_getElem? (i := 98) (by decide +kernel)) (zd_dr dc_Na_raiseBy 36 rfl)) ?_
  refine zd_ac (ok_icmp_ge (l := l) (B := B) (y := m_Na_raiseBy) (pc := 65) (zd_dr dc_Na_raiseBy 37 rfl) (by decide)) ?_
  refine zd_ac (ok_aload_n (l := l) (B := B) (y := m_Na_raiseBy) (pc := 68) (k := 1) rfl (zd_dr dc_Na_raiseBy 38 rfl)) ?_
  refine zd_ac (ok_getf (l := l) (B := B) (y := m_Na_raiseBy) (pc := 69) hG (C := zR4) (T := zT4) (N := 2) (ci := 4) (k := 0) rfl zl4 (by decide) (List.mem_of_getElem? (i := 96) (by decide +kernel)) (zd_dr dc_Na_raiseBy 39 rfl)) ?_
  refine zd_ac (ok_iload (l := l) (B := B) (y := m_Na_raiseBy) (pc := 72) (zd_dr dc_Na_raiseBy 40 rfl)) ?_
  refine zd_ac (ok_iaload (l := l) (B := B) (y := m_Na_raiseBy) (pc := 74) hG (zd_dr dc_Na_raiseBy 41 rfl)) ?_
  refine zd_ac (ok_goto (l := l) (B := B) (y := m_Na_raiseBy) (pc := 75) (zd_dr dc_Na_raiseBy 42 rfl) (by decide)) ?_
  refine zd_ac (ok_iconst (l := l) (B := B) (y := m_Na_raiseBy) (pc := 78) (n := (0)) (zd_dr dc_Na_raiseBy 43 rfl) rfl) ?_
  refine zd_ac (ok_iadd (l := l) (B := B) (y := m_Na_raiseBy) (pc := 79) (zd_dr dc_Na_raiseBy 44 rfl)) ?_
  refine zd_ac (ok_istore (l := l) (B := B) (y := m_Na_raiseBy) (pc := 80) (zd_dr dc_Na_raiseBy 45 rfl) (by decide)) ?_
  refine zd_ac (ok_iload (l := l) (B := B) (y := m_Na_raiseBy) (pc := 82) (zd_dr dc_Na_raiseBy 46 rfl)) ?_
  refine zd_ac (ok_if_lt (l := l) (B := B) (y := m_Na_raiseBy) (pc := 84) (zd_dr dc_Na_raiseBy 47 rfl) (by decide)) ?_
  refine zd_ac (ok_iconst (l := l) (B := B) (y := m_Na_raiseBy) (pc := 87) (n := (1)) (zd_dr dc_Na_raiseBy 48 rfl) rfl) ?_
  refine zd_ac (ok_goto (l := l) (B := B) (y := m_Na_raiseBy) (pc := 88) (zd_dr dc_Na_raiseBy 49 rfl) (by decide)) ?_
  refine zd_ac (ok_iconst (l := l) (B := B) (y := m_Na_raiseBy) (pc := 91) (n := (0)) (zd_dr dc_Na_raiseBy 50 rfl) rfl) ?_
  refine zd_ac (ok_istore (l := l) (B := B) (y := m_Na_raiseBy) (pc := 92) (zd_dr dc_Na_raiseBy 51 rfl) (by decide)) ?_
  refine zd_ac (ok_aload_n (l := l) (B := B) (y := m_Na_raiseBy) (pc := 94) (k := 0) rfl (zd_dr dc_Na_raiseBy 52 rfl)) ?_
  refine zd_ac (ok_getf (l := l) (B := B) (y := m_Na_raiseBy) (pc := 95) hG (C := zR4) (T := zT4) (N := 2) (ci := 4) (k := 0) rfl zl4 (by decide) (List.mem_of_getElem? (i := 96) (by decide +kernel)) (zd_dr dc_Na_raiseBy 53 rfl)) ?_
  refine zd_ac (ok_iload (l := l) (B := B) (y := m_Na_raiseBy) (pc := 98) (zd_dr dc_Na_raiseBy 54 rfl)) ?_
  refine zd_ac (ok_iload (l := l) (B := B) (y := m_Na_raiseBy) (pc := 100) (zd_dr dc_Na_raiseBy 55 rfl)) ?_
  refine zd_ac (ok_if_lt (l := l) (B := B) (y := m_Na_raiseBy) (pc := 102) (zd_dr dc_Na_raiseBy 56 rfl) (by decide)) ?_
  refine zd_ac (ok_iload (l := l) (B := B) (y := m_Na_raiseBy) (pc := 105) (zd_dr dc_Na_raiseBy 57 rfl)) ?_
  refine zd_ac (ok_goto (l := l) (B := B) (y := m_Na_raiseBy) (pc := 107) (zd_dr dc_Na_raiseBy 58 rfl) (by decide)) ?_
  refine zd_ac (ok_iload (l := l) (B := B) (y := m_Na_raiseBy) (pc := 110) (zd_dr dc_Na_raiseBy 59 rfl)) ?_
  refine zd_ac (ok_ldc (l := l) (B := B) (y := m_Na_raiseBy) (pc := 112) hG (List.mem_of_getElem? (i := 544) (by decide +kernel)) (zd_dr dc_Na_raiseBy 60 rfl)) ?_
  refine zd_ac (ok_iadd (l := l) (B := B) (y := m_Na_raiseBy) (pc := 114) (zd_dr dc_Na_raiseBy 61 rfl)) ?_
  refine zd_ac (ok_iastore (l := l) (B := B) (y := m_Na_raiseBy) (pc := 115) hG (zd_dr dc_Na_raiseBy 62 rfl)) ?_
  refine zd_ac (ok_iinc (l := l) (B := B) (y := m_Na_raiseBy) (pc := 116) (zd_dr dc_Na_raiseBy 63 rfl) (by decide) rfl) ?_
  refine zd_ac (ok_goto (l := l) (B := B) (y := m_Na_raiseBy) (pc := 119) (zd_dr dc_Na_raiseBy 64 rfl) (by decide)) ?_
  refine zd_ac (ok_aload_n (l := l) (B := B) (y := m_Na_raiseBy) (pc := 122) (k := 0) rfl (zd_dr dc_Na_raiseBy 65 rfl)) ?_
  refine zd_ac (ok_getf (l := l) (B := B) (y := m_Na_raiseBy) (pc := 123) hG (C := zR4) (T := zT4) (N := 2) (ci := 4) (k := 0) rfl zl4 (by decide) (List.mem_of_getElem? (i := 96) (by decide +kernel)) (zd_dr dc_Na_raiseBy 66 rfl)) ?_
  refine zd_ac (ok_iload_n (l := l) (B := B) (y := m_Na_raiseBy) (pc := 126) (k := 2) rfl (zd_dr dc_Na_raiseBy 67 rfl)) ?_
  refine zd_ac (ok_iload (l := l) (B := B) (y := m_Na_raiseBy) (pc := 127) (zd_dr dc_Na_raiseBy 68 rfl)) ?_
  refine zd_ac (ok_iastore (l := l) (B := B) (y := m_Na_raiseBy) (pc := 129) hG (zd_dr dc_Na_raiseBy 69 rfl)) ?_
  refine zd_ac (ok_aload_n (l := l) (B := B) (y := m_Na_raiseBy) (pc := 130) (k := 0) rfl (zd_dr dc_Na_raiseBy 70 rfl)) ?_
  refine zd_ac (ok_callv (l := l) (B := B) (y := m_Na_raiseBy) (pc := 131) hG (ci := 4) rfl cf_Na_raiseBy_Na_trim rfl (List.mem_of_getElem? (i := 505) (by decide +kernel)) (List.mem_of_getElem? (i := 455) (by decide +kernel)) (List.mem_of_getElem? (i := 456) (by decide +kernel)) (zd_dr dc_Na_raiseBy 71 rfl)) ?_
  refine zd_ac (ok_vret (l := l) (B := B) (y := m_Na_raiseBy) (pc := 134) rfl (zd_dr dc_Na_raiseBy 72 rfl)) ?_
  exact zd_an
def dl_Na_lowerBy : List (Nat × Instr × Nat) := [(0, .iconst (0), 1), (1, .istore_n 2, 1), (2, .iconst (0), 1), (3, .istore_n 3, 1), (4, .iload_n 3, 1), (5, .aload_n 0, 1), (6, .getfield 15, 3), (9, .if_icmp .ge (70), 3), (12, .aload_n 0, 1), (13, .getfield 9, 3), (16, .iload_n 3, 1), (17, .iaload, 1), (18, .iload_n 2, 1), (19, .isub, 1), (20, .iload_n 3, 1), (21, .aload_n 1, 1), (22, .getfield 15, 3), (25, .if_icmp .ge (12), 3), (28, .aload_n 1, 1), (29, .getfield 9, 3), (32, .iload_n 3, 1), (33, .iaload, 1), (34, .goto (4), 3), (37, .iconst (0), 1), (38, .isub, 1), (39, .istore 4, 2), (41, .iload 4, 2), (43, .ifCond .ge (7), 3), (46, .iconst (1), 1), (47, .goto (4), 3), (50, .iconst (0), 1), (51, .istore_n 2, 1), (52, .aload_n 0, 1), (53, .getfield 9, 3), (56, .iload_n 3, 1), (57, .iload 4, 2), (59, .ifCond .ge (11), 3), (62, .iload 4, 2), (64, .ldc 57, 2), (66, .iadd, 1), (67, .goto (5), 3), (70, .iload 4, 2), (72, .iastore, 1), (73, .iinc 3 (1), 3), (76, .goto (-72), 3), (79, .aload_n 0, 1), (80, .invokevirtual 47, 3), (83, .return_, 1)]
theorem dc_Na_lowerBy : ∀ q ∈ dl_Na_lowerBy, decode (zd_yb m_Na_lowerBy) q.1 = .ok q.2 := by decide +kernel
def cd_Na_lowerBy (l : Launch) (B : zd_B) : List (Nat × zd_S) := [(0, oc_ci (0) 1), (1, oc_istore 2 2), (2, oc_ci (0) 3), (3, oc_istore 3 4), (4, oc_iload 3 5), (5, oc_aload 0 6), (6, oc_getf B 4 1 9), (9, oc_icmp_ge 79 12), (12, oc_aload 0 13), (13, oc_getf B 4 0 16), (16, oc_iload 3 17), (17, oc_iaload B 18), (18, oc_iload 2 19), (19, oc_isub 20), (20, oc_iload 3 21), (21, oc_aload 1 22), (22, oc_getf B 4 1 25), (25, oc_icmp_ge 37 28), (28, oc_aload 1 29), (29, oc_getf B 4 0 32), (32, oc_iload 3 33), (33, oc_iaload B 34), (34, oc_goto 38), (37, oc_ci (0) 38), (38, oc_isub 39), (39, oc_istore 4 41), (41, oc_iload 4 43), (43, oc_if_ge 50 46), (46, oc_ci (1) 47), (47, oc_goto 51), (50, oc_ci (0) 51), (51, oc_istore 2 52), (52, oc_aload 0 53), (53, oc_getf B 4 0 56), (56, oc_iload 3 57), (57, oc_iload 4 59), (59, oc_if_ge 70 62), (62, oc_iload 4 64), (64, oc_ci (1000000000) 66), (66, oc_iadd 67), (67, oc_goto 72), (70, oc_iload 4 72), (72, oc_iastore B 73), (73, oc_iinc 3 (1) 76), (76, oc_goto 4), (79, oc_aload 0 80), (80, oc_callv l B 4 m_Na_trim 0 83), (83, oc_vret)]
set_option maxRecDepth 20000 in
theorem ok_Na_lowerBy {l : Launch} {B : zd_B} (hG : zd_G B) (hl : l.stackTraces = false) : ∀ q ∈ cd_Na_lowerBy l B, zd_ok l B m_Na_lowerBy q.1 q.2 := by
  unfold cd_Na_lowerBy
  refine zd_ac (ok_iconst (l := l) (B := B) (y := m_Na_lowerBy) (pc := 0) (n := (0)) (zd_dr dc_Na_lowerBy 0 rfl) rfl) ?_
  refine zd_ac (ok_istore_n (l := l) (B := B) (y := m_Na_lowerBy) (pc := 1) (k := 2) rfl (zd_dr dc_Na_lowerBy 1 rfl) (by decide)) ?_
  refine zd_ac (ok_iconst (l := l) (B := B) (y := m_Na_lowerBy) (pc := 2) (n := (0)) (zd_dr dc_Na_lowerBy 2 rfl) rfl) ?_
  refine zd_ac (ok_istore_n (l := l) (B := B) (y := m_Na_lowerBy) (pc := 3) (k := 3) rfl (zd_dr dc_Na_lowerBy 3 rfl) (by decide)) ?_
  refine zd_ac (ok_iload_n (l := l) (B := B) (y := m_Na_lowerBy) (pc := 4) (k := 3) rfl (zd_dr dc_Na_lowerBy 4 rfl)) ?_
  refine zd_ac (ok_aload_n (l := l) (B := B) (y := m_Na_lowerBy) (pc := 5) (k := 0) rfl (zd_dr dc_Na_lowerBy 5 rfl)) ?_
  refine zd_ac (ok_getf (l := l) (B := B) (y := m_Na_lowerBy) (pc := 6) hG (C := zR4) (T := zT4) (N := 2) (ci := 4) (k := 1) rfl zl4 (by decide) (List.mem_of_getElem? (i := 98) (by decide +kernel)) (zd_dr dc_Na_lowerBy 6 rfl)) ?_
  refine zd_ac (ok_icmp_ge (l := l) (B := B) (y := m_Na_lowerBy) (pc := 9) (zd_dr dc_Na_lowerBy 7 rfl) (by decide)) ?_
  refine zd_ac (ok_aload_n (l := l) (B := B) (y := m_Na_lowerBy) (pc := 12) (k := 0) rfl (zd_dr dc_Na_lowerBy 8 rfl)) ?_
  refine zd_ac (ok_getf (l := l) (B := B) (y := m_Na_lowerBy) (pc := 13) hG (C := zR4) (T := zT4) (N := 2) (ci := 4) (k := 0) rfl zl4 (by decide) (List.mem_of_getElem? (i := 96) (by decide +kernel)) (zd_dr dc_Na_lowerBy 9 rfl)) ?_
  refine zd_ac (ok_iload_n (l := l) (B := B) (y := m_Na_lowerBy) (pc := 16) (k := 3) rfl (zd_dr dc_Na_lowerBy 10 rfl)) ?_
  refine zd_ac (ok_iaload (l := l) (B := B) (y := m_Na_lowerBy) (pc := 17) hG (zd_dr dc_Na_lowerBy 11 rfl)) ?_
  refine zd_ac (ok_iload_n (l := l) (B := B) (y := m_Na_lowerBy) (pc := 18) (k := 2) rfl (zd_dr dc_Na_lowerBy 12 rfl)) ?_
  refine zd_ac (ok_isub (l := l) (B := B) (y := m_Na_lowerBy) (pc := 19) (zd_dr dc_Na_lowerBy 13 rfl)) ?_
  refine zd_ac (ok_iload_n (l := l) (B := B) (y := m_Na_lowerBy) (pc := 20) (k := 3) rfl (zd_dr dc_Na_lowerBy 14 rfl)) ?_
  refine zd_ac (ok_aload_n (l := l) (B := B) (y := m_Na_lowerBy) (pc := 21) (k := 1) rfl (zd_dr dc_Na_lowerBy 15 rfl)) ?_
  refine zd_ac (ok_getf (l := l) (B := B) (y := m_Na_lowerBy) (pc := 22) hG (C := zR4) (T := zT4) (N := 2) (ci := 4) (k := 1) rfl zl4 (by decide) (List.mem_of_getElem? (i := 98) (by decide +kernel)) (zd_dr dc_Na_lowerBy 16 rfl)) ?_
  refine zd_ac (ok_icmp_ge (l := l) (B := B) (y := m_Na_lowerBy) (pc := 25) (zd_dr dc_Na_lowerBy 17 rfl) (by decide)) ?_
  refine zd_ac (ok_aload_n (l := l) (B := B) (y := m_Na_lowerBy) (pc := 28) (k := 1) rfl (zd_dr dc_Na_lowerBy 18 rfl)) ?_
  refine zd_ac (ok_getf (l := l) (B := B) (y := m_Na_lowerBy) (pc := 29) hG (C := zR4) (T := zT4) (N := 2) (ci := 4) (k := 0) rfl zl4 (by decide) (List.mem_of_getElem? (i := 96) (by decide +kernel)) (zd_dr dc_Na_lowerBy 19 rfl)) ?_
  refine zd_ac (ok_iload_n (l := l) (B := B) (y := m_Na_lowerBy) (pc := 32) (k := 3) rfl (zd_dr dc_Na_lowerBy 20 rfl)) ?_
  refine zd_ac (ok_iaload (l := l) (B := B) (y := m_Na_lowerBy) (pc := 33) hG (zd_dr dc_Na_lowerBy 21 rfl)) ?_
  refine zd_ac (ok_goto (l := l) (B := B) (y := m_Na_lowerBy) (pc := 34) (zd_dr dc_Na_lowerBy 22 rfl) (by decide)) ?_
  refine zd_ac (ok_iconst (l := l) (B := B) (y := m_Na_lowerBy) (pc := 37) (n := (0)) (zd_dr dc_Na_lowerBy 23 rfl) rfl) ?_
  refine zd_ac (ok_isub (l := l) (B := B) (y := m_Na_lowerBy) (pc := 38) (zd_dr dc_Na_lowerBy 24 rfl)) ?_
  refine zd_ac (ok_istore (l := l) (B := B) (y := m_Na_lowerBy) (pc := 39) (zd_dr dc_Na_lowerBy 25 rfl) (by decide)) ?_
  refine zd_ac (ok_iload (l := l) (B := B) (y := m_Na_lowerBy) (pc := 41) (zd_dr dc_Na_lowerBy 26 rfl)) ?_
  refine zd_ac (ok_if_ge (l := l) (B := B) (y := m_Na_lowerBy) (pc := 43) (zd_dr dc_Na_lowerBy 27 rfl) (by decide)) ?_
  refine zd_ac (ok_iconst (l := l) (B := B) (y := m_Na_lowerBy) (pc := 46) (n := (1)) (zd_dr dc_Na_lowerBy 28 rfl) rfl) ?_
  refine zd_ac (ok_goto (l := l) (B := B) (y := m_Na_lowerBy) (pc := 47) (zd_dr dc_Na_lowerBy 29 rfl) (by decide)) ?_
  refine zd_ac (ok_iconst (l := l) (B := B) (y := m_Na_lowerBy) (pc := 50) (n := (0)) (zd_dr dc_Na_lowerBy 30 rfl) rfl) ?_
  refine zd_ac (ok_istore_n (l := l) (B := B) (y := m_Na_lowerBy) (pc := 51) (k := 2) rfl (zd_dr dc_Na_lowerBy 31 rfl) (by decide)) ?_
  refine zd_ac (ok_aload_n (l := l) (B := B) (y := m_Na_lowerBy) (pc := 52) (k := 0) rfl (zd_dr dc_Na_lowerBy 32 rfl)) ?_
  refine zd_ac (ok_getf (l := l) (B := B) (y := m_Na_lowerBy) (pc := 53) hG (C := zR4) (T := zT4) (N := 2) (ci := 4) (k := 0) rfl zl4 (by decide) (List.mem_of_getElem? (i := 96) (by decide +kernel)) (zd_dr dc_Na_lowerBy 33 rfl)) ?_
  refine zd_ac (ok_iload_n (l := l) (B := B) (y := m_Na_lowerBy) (pc := 56) (k := 3) rfl (zd_dr dc_Na_lowerBy 34 rfl)) ?_
  refine zd_ac (ok_iload (l := l) (B := B) (y := m_Na_lowerBy) (pc := 57) (zd_dr dc_Na_lowerBy 35 rfl)) ?_
  refine zd_ac (ok_if_ge (l := l) (B := B) (y := m_Na_lowerBy) (pc := 59) (zd_dr dc_Na_lowerBy 36 rfl) (by decide)) ?_
  refine zd_ac (ok_iload (l := l) (B := B) (y := m_Na_lowerBy) (pc := 62) (zd_dr dc_Na_lowerBy 37 rfl)) ?_
  refine zd_ac (ok_ldc (l := l) (B := B) (y := m_Na_lowerBy) (pc := 64) hG (List.mem_of_getElem? (i := 544) (by decide +kernel)) (zd_dr dc_Na_lowerBy 38 rfl)) ?_
  refine zd_ac (ok_iadd (l := l) (B := B) (y := m_Na_lowerBy) (pc := 66) (zd_dr dc_Na_lowerBy 39 rfl)) ?_
  refine zd_ac (ok_goto (l := l) (B := B) (y := m_Na_lowerBy) (pc := 67) (zd_dr dc_Na_lowerBy 40 rfl) (by decide)) ?_
  refine zd_ac (ok_iload (l := l) (B := B) (y := m_Na_lowerBy) (pc := 70) (zd_dr dc_Na_lowerBy 41 rfl)) ?_
  refine zd_ac (ok_iastore (l := l) (B := B) (y := m_Na_lowerBy) (pc := 72) hG (zd_dr dc_Na_lowerBy 42 rfl)) ?_
  refine zd_ac (ok_iinc (l := l) (B := B) (y := m_Na_lowerBy) (pc := 73) (zd_dr dc_Na_lowerBy 43 rfl) (by decide) rfl) ?_
  refine zd_ac (ok_goto (l := l) (B := B) (y := m_Na_lowerBy) (pc := 76) (zd_dr dc_Na_lowerBy 44 rfl) (by decide)) ?_
  refine zd_ac (ok_aload_n (l := l) (B := B) (y := m_Na_lowerBy) (pc := 79) (k := 0) rfl (zd_dr dc_Na_lowerBy 45 rfl)) ?_
  refine zd_ac (ok_callv (l := l) (B := B) (y := m_Na_lowerBy) (pc := 80) hG (ci := 4) rfl cf_Na_lowerBy_Na_trim rfl (List.mem_of_getElem? (i := 505) (by decide +kernel)) (List.mem_of_getElem? (i := 455) (by decide +kernel)) (List.mem_of_getElem? (i := 456) (by decide +kernel)) (zd_dr dc_Na_lowerBy 46 rfl)) ?_
  refine zd_ac (ok_vret (l := l) (B := B) (y := m_Na_lowerBy) (pc := 83) rfl (zd_dr dc_Na_lowerBy 47 rfl)) ?_
  exact zd_an
def dl_Na_increment : List (Nat × Instr × Nat) := [(0, .iconst (0), 1), (1, .istore_n 1, 1), (2, .iload_n 1, 1), (3, .aload_n 0, 1), (4, .getfield 15, 3), (7, .if_icmp .ge (27), 3), (10, .aload_n 0, 1), (11, .getfield 9, 3), (14, .iload_n 1, 1), (15, .iaload, 1), (16, .ldc 67, 2), (18, .if_icmp .ne (16), 3), (21, .aload_n 0, 1), (22, .getfield 9, 3), (25, .iload_n 1, 1), (26, .iconst (0), 1), (27, .iastore, 1), (28, .iinc 1 (1), 3), (31, .goto (-29), 3), (34, .iload_n 1, 1), (35, .aload_n 0, 1), (36, .getfield 15, 3), (39, .if_icmp .ge (16), 3), (42, .aload_n 0, 1), (43, .getfield 9, 3), (46, .iload_n 1, 1), (47, .dup2, 1), (48, .iaload, 1), (49, .iconst (1), 1), (50, .iadd, 1), (51, .iastore, 1), (52, .goto (20), 3), (55, .aload_n 0, 1), (56, .aload_n 0, 1), (57, .getfield 15, 3), (60, .iconst (1), 1), (61, .iadd, 1), (62, .invokevirtual 35, 3), (65, .aload_n 0, 1), (66, .getfield 9, 3), (69, .iload_n 1, 1), (70, .iconst (1), 1), (71, .iastore, 1), (72, .return_, 1)]
theorem dc_Na_increment : ∀ q ∈ dl_Na_increment, decode (zd_yb m_Na_increment) q.1 = .ok q.2 := by decide +kernel
def cd_Na_increment (l : Launch) (B : zd_B) : List (Nat × zd_S) := [(0, oc_ci (0) 1), (1, oc_istore 1 2), (2, oc_iload 1 3), (3, oc_aload 0 4), (4, oc_getf B 4 1 7), (7, oc_icmp_ge 34 10), (10, oc_aload 0 11), (11, oc_getf B 4 0 14), (14, oc_iload 1 15), (15, oc_iaload B 16), (16, oc_ci (999999999) 18), (18, oc_icmp_ne 34 21), (21, oc_aload 0 22), (22, oc_getf B 4 0 25), (25, oc_iload 1 26), (26, oc_ci (0) 27), (27, oc_iastore B 28), (28, oc_iinc 1 (1) 31), (31, oc_goto 2), (34, oc_iload 1 35), (35, oc_aload 0 36), (36, oc_getf B 4 1 39), (39, oc_icmp_ge 55 42), (42, oc_aload 0 43), (43, oc_getf B 4 0 46), (46, oc_iload 1 47), (47, oc_dup2 48), (48, oc_iaload B 49), (49, oc_ci (1) 50), (50, oc_iadd 51), (51, oc_iastore B 52), (52, oc_goto 72), (55, oc_aload 0 56), (56, oc_aload 0 57), (57, oc_getf B 4 1 60), (60, oc_ci (1) 61), (61, oc_iadd 62), (62, oc_callv l B 4 m_Na_claim 1 65), (65, oc_aload 0 66), (66, oc_getf B 4 0 69), (69, oc_iload 1 70), (70, oc_ci (1) 71), (71, oc_iastore B 72), (72, oc_vret)]
set_option maxRecDepth 20000 in
theorem ok_Na_increment {l : Launch} {B : zd_B} (hG : zd_G B) (hl : l.stackTraces = false) : ∀ q ∈ cd_Na_increment l B, zd_ok l B m_Na_increment q.1 q.2 := by
  unfold cd_Na_increment
  refine zd_ac (ok_iconst (l := l) (B := B) (y := m_Na_increment) (pc := 0) (n := (0)) (zd_dr dc_Na_increment 0 rfl) rfl) ?_
  refine zd_ac (ok_istore_n (l := l) (B := B) (y := m_Na_increment) (pc := 1) (k := 1) rfl (zd_dr dc_Na_increment 1 rfl) (by decide)) ?_
  refine zd_ac (ok_iload_n (l := l) (B := B) (y := m_Na_increment) (pc := 2) (k := 1) rfl (zd_dr dc_Na_increment 2 rfl)) ?_
  refine zd_ac (ok_aload_n (l := l) (B := B) (y := m_Na_increment) (pc := 3) (k := 0) rfl (zd_dr dc_Na_increment 3 rfl)) ?_
  refine zd_ac (ok_getf (l := l) (B := B) (y := m_Na_increment) (pc := 4) hG (C := zR4) (T := zT4) (N := 2) (ci := 4) (k := 1) rfl zl4 (by decide) (List.mem_of_getElem? (i := 98) (by decide +kernel)) (zd_dr dc_Na_increment 4 rfl)) ?_
  refine zd_ac (ok_icmp_ge (l := l) (B := B) (y := m_Na_increment) (pc := 7) (zd_dr dc_Na_increment 5 rfl) (by decide)) ?_
  refine zd_ac (ok_aload_n (l := l) (B := B) (y := m_Na_increment) (pc := 10) (k := 0) rfl (zd_dr dc_Na_increment 6 rfl)) ?_
  refine zd_ac (ok_getf (l := l) (B := B) (y := m_Na_increment) (pc := 11) hG (C := zR4) (T := zT4) (N := 2) (ci := 4) (k := 0) rfl zl4 (by decide) (List.mem_of_getElem? (i := 96) (by decide +kernel)) (zd_dr dc_Na_increment 7 rfl)) ?_
  refine zd_ac (ok_iload_n (l := l) (B := B) (y := m_Na_increment) (pc := 14) (k := 1) rfl (zd_dr dc_Na_increment 8 rfl)) ?_
  refine zd_ac (ok_iaload (l := l) (B := B) (y := m_Na_increment) (pc := 15) hG (zd_dr dc_Na_increment 9 rfl)) ?_
  refine zd_ac (ok_ldc (l := l) (B := B) (y := m_Na_increment) (pc := 16) hG (List.mem_of_getElem? (i := 663) (by decide +kernel)) (zd_dr dc_Na_increment 10 rfl)) ?_
  refine zd_ac (ok_icmp_ne (l := l) (B := B) (y := m_Na_increment) (pc := 18) (zd_dr dc_Na_increment 11 rfl) (by decide)) ?_
  refine zd_ac (ok_aload_n (l := l) (B := B) (y := m_Na_increment) (pc := 21) (k := 0) rfl (zd_dr dc_Na_increment 12 rfl)) ?_
  refine zd_ac (ok_getf (l := l) (B := B) (y := m_Na_increment) (pc := 22) hG (C := zR4) (T := zT4) (N := 2) (ci := 4) (k := 0) rfl zl4 (by decide) (List.mem_of_getElem? (i := 96) (by decide +kernel)) (zd_dr dc_Na_increment 13 rfl)) ?_
  refine zd_ac (ok_iload_n (l := l) (B := B) (y := m_Na_increment) (pc := 25) (k := 1) rfl (zd_dr dc_Na_increment 14 rfl)) ?_
  refine zd_ac (ok_iconst (l := l) (B := B) (y := m_Na_increment) (pc := 26) (n := (0)) (zd_dr dc_Na_increment 15 rfl) rfl) ?_
  refine zd_ac (ok_iastore (l := l) (B := B) (y := m_Na_increment) (pc := 27) hG (zd_dr dc_Na_increment 16 rfl)) ?_
  refine zd_ac (ok_iinc (l := l) (B := B) (y := m_Na_increment) (pc := 28) (zd_dr dc_Na_increment 17 rfl) (by decide) rfl) ?_
  refine zd_ac (ok_goto (l := l) (B := B) (y := m_Na_increment) (pc := 31) (zd_dr dc_Na_increment 18 rfl) (by decide)) ?_
  refine zd_ac (ok_iload_n (l := l) (B := B) (y := m_Na_increment) (pc := 34) (k := 1) rfl (zd_dr dc_Na_increment 19 rfl)) ?_
  refine zd_ac (ok_aload_n (l := l) (B := B) (y := m_Na_increment) (pc := 35) (k := 0) rfl (zd_dr dc_Na_increment 20 rfl)) ?_
  refine zd_ac (ok_getf (l := l) (B := B) (y := m_Na_increment) (pc := 36) hG (C := zR4) (T := zT4) (N := 2) (ci := 4) (k := 1) rfl zl4 (by decide) (List.mem_of_getElem? (i := 98) (by decide +kernel)) (zd_dr dc_Na_increment 21 rfl)) ?_
  refine zd_ac (ok_icmp_ge (l := l) (B := B) (y := m_Na_increment) (pc := 39) (zd_dr dc_Na_increment 22 rfl) (by decide)) ?_
  refine zd_ac (ok_aload_n (l := l) (B := B) (y := m_Na_increment) (pc := 42) (k := 0) rfl (zd_dr dc_Na_increment 23 rfl)) ?_
  refine zd_ac (ok_getf (l := l) (B := B) (y := m_Na_increment) (pc := 43) hG (C := zR4) (T := zT4) (N := 2) (ci := 4) (k := 0) rfl zl4 (by decide) (List.mem_of_getElem? (i := 96) (by decide +kernel)) (zd_dr dc_Na_increment 24 rfl)) ?_
  refine zd_ac (ok_iload_n (l := l) (B := B) (y := m_Na_increment) (pc := 46) (k := 1) rfl (zd_dr dc_Na_increment 25 rfl)) ?_
  refine zd_ac (ok_dup2 (l := l) (B := B) (y := m_Na_increment) (pc := 47) (zd_dr dc_Na_increment 26 rfl)) ?_
  refine zd_ac (ok_iaload (l := l) (B := B) (y := m_Na_increment) (pc := 48) hG (zd_dr dc_Na_increment 27 rfl)) ?_
  refine zd_ac (ok_iconst (l := l) (B := B) (y := m_Na_increment) (pc := 49) (n := (1)) (zd_dr dc_Na_increment 28 rfl) rfl) ?_
  refine zd_ac (ok_iadd (l := l) (B := B) (y := m_Na_increment) (pc := 50) (zd_dr dc_Na_increment 29 rfl)) ?_
  refine zd_ac (ok_iastore (l := l) (B := B) (y := m_Na_increment) (pc := 51) hG (zd_dr dc_Na_increment 30 rfl)) ?_
  refine zd_ac (ok_goto (l := l) (B := B) (y := m_Na_increment) (pc := 52) (zd_dr dc_Na_increment 31 rfl) (by decide)) ?_
  refine zd_ac (ok_aload_n (l := l) (B := B) (y := m_Na_increment) (pc := 55) (k := 0) rfl (zd_dr dc_Na_increment 32 rfl)) ?_
  refine zd_ac (ok_aload_n (l := l) (B := B) (y := m_Na_increment) (pc := 56) (k := 0) rfl (zd_dr dc_Na_increment 33 rfl)) ?_
  refine zd_ac (ok_getf (l := l) (B := B) (y := m_Na_increment) (pc := 57) hG (C := zR4) (T := zT4) (N := 2) (ci := 4) (k := 1) rfl zl4 (by decide) (List.mem_of_getElem? (i := 98) (by decide +kernel)) (zd_dr dc_Na_increment 34 rfl)) ?_
  refine zd_ac (ok_iconst (l := l) (B := B) (y := m_Na_increment) (pc := 60) (n := (1)) (zd_dr dc_Na_increment 35 rfl) rfl) ?_
  refine zd_ac (ok_iadd (l := l) (B := B) (y := m_Na_increment) (pc := 61) (zd_dr dc_Na_increment 36 rfl)) ?_
  refine zd_ac (ok_callv (l := l) (B := B) (y := m_Na_increment) (pc := 62) hG (ci := 4) rfl cf_Na_increment_Na_claim rfl (List.mem_of_getElem? (i := 441) (by decide +kernel)) (List.mem_of_getElem? (i := 442) (by decide +kernel)) (List.mem_of_getElem? (i := 443) (by decide +kernel)) (zd_dr dc_Na_increment 37 rfl)) ?_
  refine zd_ac (ok_aload_n (l := l) (B := B) (y := m_Na_increment) (pc := 65) (k := 0) rfl (zd_dr dc_Na_increment 38 rfl)) ?_
  refine zd_ac (ok_getf (l := l) (B := B) (y := m_Na_increment) (pc := 66) hG (C := zR4) (T := zT4) (N := 2) (ci := 4) (k := 0) rfl zl4 (by decide) (List.mem_of_getElem? (i := 96) (by decide +kernel)) (zd_dr dc_Na_increment 39 rfl)) ?_
  refine zd_ac (ok_iload_n (l := l) (B := B) (y := m_Na_increment) (pc := 69) (k := 1) rfl (zd_dr dc_Na_increment 40 rfl)) ?_
  refine zd_ac (ok_iconst (l := l) (B := B) (y := m_Na_increment) (pc := 70) (n := (1)) (zd_dr dc_Na_increment 41 rfl) rfl) ?_
  refine zd_ac (ok_iastore (l := l) (B := B) (y := m_Na_increment) (pc := 71) hG (zd_dr dc_Na_increment 42 rfl)) ?_
  refine zd_ac (ok_vret (l := l) (B := B) (y := m_Na_increment) (pc := 72) rfl (zd_dr dc_Na_increment 43 rfl)) ?_
  exact zd_an
def dl_Na_timesSmall : List (Nat × Instr × Nat) := [(0, .lconst 0, 1), (1, .lstore_n 2, 1), (2, .iconst (0), 1), (3, .istore 4, 2), (5, .iload 4, 2), (7, .aload_n 0, 1), (8, .getfield 15, 3), (11, .if_icmp .ge (47), 3), (14, .aload_n 0, 1), (15, .getfield 9, 3), (18, .iload 4, 2), (20, .iaload, 1), (21, .i2l, 1), (22, .iload_n 1, 1), (23, .i2l, 1), (24, .lmul, 1), (25, .lload_n 2, 1), (26, .ladd, 1), (27, .lstore 5, 2), (29, .lload 5, 2), (31, .ldc2_w 45, 3), (34, .ldiv, 1), (35, .lstore_n 2, 1), (36, .aload_n 0, 1), (37, .getfield 9, 3), (40, .iload 4, 2), (42, .lload 5, 2), (44, .lload_n 2, 1), (45, .ldc2_w 45, 3), (48, .lmul, 1), (49, .lsub, 1), (50, .l2i, 1), (51, .iastore, 1), (52, .iinc 4 (1), 3), (55, .goto (-50), 3), (58, .lload_n 2, 1), (59, .lconst 0, 1), (60, .lcmp, 1), (61, .ifCond .le (26), 3), (64, .aload_n 0, 1), (65, .aload_n 0, 1), (66, .getfield 15, 3), (69, .iconst (1), 1), (70, .iadd, 1), (71, .invokevirtual 35, 3), (74, .aload_n 0, 1), (75, .getfield 9, 3), (78, .aload_n 0, 1), (79, .getfield 15, 3), (82, .iconst (1), 1), (83, .isub, 1), (84, .lload_n 2, 1), (85, .l2i, 1), (86, .iastore, 1), (87, .return_, 1)]
theorem dc_Na_timesSmall : ∀ q ∈ dl_Na_timesSmall, decode (zd_yb m_Na_timesSmall) q.1 = .ok q.2 := by decide +kernel
def cd_Na_timesSmall (l : Launch) (B : zd_B) : List (Nat × zd_S) := [(0, oc_cl 0 1), (1, oc_lstore 2 2), (2, oc_ci (0) 3), (3, oc_istore 4 5), (5, oc_iload 4 7), (7, oc_aload 0 8), (8, oc_getf B 4 1 11), (11, oc_icmp_ge 58 14), (14, oc_aload 0 15), (15, oc_getf B 4 0 18), (18, oc_iload 4 20), (20, oc_iaload B 21), (21, oc_i2l 22), (22, oc_iload 1 23), (23, oc_i2l 24), (24, oc_lmul 25), (25, oc_lload 2 26), (26, oc_ladd 27), (27, oc_lstore 5 29), (29, oc_lload 5 31), (31, oc_cl (1000000000) 34), (34, oc_ldiv 35), (35, oc_lstore 2 36), (36, oc_aload 0 37), (37, oc_getf B 4 0 40), (40, oc_iload 4 42), (42, oc_lload 5 44), (44, oc_lload 2 45), (45, oc_cl (1000000000) 48), (48, oc_lmul 49), (49, oc_lsub 50), (50, oc_l2i 51), (51, oc_iastore B 52), (52, oc_iinc 4 (1) 55), (55, oc_goto 5), (58, oc_lload 2 59), (59, oc_cl 0 60), (60, oc_lcmp 61), (61, oc_if_le 87 64), (64, oc_aload 0 65), (65, oc_aload 0 66), (66, oc_getf B 4 1 69), (69, oc_ci (1) 70), (70, oc_iadd 71), (71, oc_callv l B 4 m_Na_claim 1 74), (74, oc_aload 0 75), (75, oc_getf B 4 0 78), (78, oc_aload 0 79), (79, oc_getf B 4 1 82), (82, oc_ci (1) 83), (83, oc_isub 84), (84, oc_lload 2 85), (85, oc_l2i 86), (86, oc_iastore B 87), (87, oc_vret)]
set_option maxRecDepth 20000 in
theorem ok_Na_timesSmall {l : Launch} {B : zd_B} (hG : zd_G B) (hl : l.stackTraces = false) : ∀ q ∈ cd_Na_timesSmall l B, zd_ok l B m_Na_timesSmall q.1 q.2 := by
  unfold cd_Na_timesSmall
  refine zd_ac (ok_lconst (l := l) (B := B) (y := m_Na_timesSmall) (pc := 0) (n := 0) (zd_dr dc_Na_timesSmall 0 rfl) rfl) ?_
  refine zd_ac (ok_lstore_n (l := l) (B := B) (y := m_Na_timesSmall) (pc := 1) (k := 2) rfl (zd_dr dc_Na_timesSmall 1 rfl) (by decide)) ?_
  refine zd_ac (ok_iconst (l := l) (B := B) (y := m_Na_timesSmall) (pc := 2) (n := (0)) (zd_dr dc_Na_timesSmall 2 rfl) rfl) ?_
  refine zd_ac (ok_istore (l := l) (B := B) (y := m_Na_timesSmall) (pc := 3) (zd_dr dc_Na_timesSmall 3 rfl) (by decide)) ?_
  refine zd_ac (ok_iload (l := l) (B := B) (y := m_Na_timesSmall) (pc := 5) (zd_dr dc_Na_timesSmall 4 rfl)) ?_
  refine zd_ac (ok_aload_n (l := l) (B := B) (y := m_Na_timesSmall) (pc := 7) (k := 0) rfl (zd_dr dc_Na_timesSmall 5 rfl)) ?_
  refine zd_ac (ok_getf (l := l) (B := B) (y := m_Na_timesSmall) (pc := 8) hG (C := zR4) (T := zT4) (N := 2) (ci := 4) (k := 1) rfl zl4 (by decide) (List.mem_of_getElem? (i := 98) (by decide +kernel)) (zd_dr dc_Na_timesSmall 6 rfl)) ?_
  refine zd_ac (ok_icmp_ge (l := l) (B := B) (y := m_Na_timesSmall) (pc := 11) (zd_dr dc_Na_timesSmall 7 rfl) (by decide)) ?_
  refine zd_ac (ok_aload_n (l := l) (B := B) (y := m_Na_timesSmall) (pc := 14) (k := 0) rfl (zd_dr dc_Na_timesSmall 8 rfl)) ?_
  refine zd_ac (ok_getf (l := l) (B := B) (y := m_Na_timesSmall) (pc := 15) hG (C := zR4) (T := zT4) (N := 2) (ci := 4) (k := 0) rfl zl4 (by decide) (List.mem_of_getElem? (i := 96) (by decide +kernel)) (zd_dr dc_Na_timesSmall 9 rfl)) ?_
  refine zd_ac (ok_iload (l := l) (B := B) (y := m_Na_timesSmall) (pc := 18) (zd_dr dc_Na_timesSmall 10 rfl)) ?_
  refine zd_ac (ok_iaload (l := l) (B := B) (y := m_Na_timesSmall) (pc := 20) hG (zd_dr dc_Na_timesSmall 11 rfl)) ?_
  refine zd_ac (ok_i2l (l := l) (B := B) (y := m_Na_timesSmall) (pc := 21) (zd_dr dc_Na_timesSmall 12 rfl)) ?_
  refine zd_ac (ok_iload_n (l := l) (B := B) (y := m_Na_timesSmall) (pc := 22) (k := 1) rfl (zd_dr dc_Na_timesSmall 13 rfl)) ?_
  refine zd_ac (ok_i2l (l := l) (B := B) (y := m_Na_timesSmall) (pc := 23) (zd_dr dc_Na_timesSmall 14 rfl)) ?_
  refine zd_ac (ok_lmul (l := l) (B := B) (y := m_Na_timesSmall) (pc := 24) (zd_dr dc_Na_timesSmall 15 rfl)) ?_
  refine zd_ac (ok_lload_n (l := l) (B := B) (y := m_Na_timesSmall) (pc := 25) (k := 2) rfl (zd_dr dc_Na_timesSmall 16 rfl)) ?_
  refine zd_ac (ok_ladd (l := l) (B := B) (y := m_Na_timesSmall) (pc := 26) (zd_dr dc_Na_timesSmall 17 rfl)) ?_
  refine zd_ac (ok_lstore (l := l) (B := B) (y := m_Na_timesSmall) (pc := 27) (zd_dr dc_Na_timesSmall 18 rfl) (by decide)) ?_
  refine zd_ac (ok_lload (l := l) (B := B) (y := m_Na_timesSmall) (pc := 29) (zd_dr dc_Na_timesSmall 19 rfl)) ?_
  refine zd_ac (ok_ldc2 (l := l) (B := B) (y := m_Na_timesSmall) (pc := 31) hG (List.mem_of_getElem? (i := 504) (by decide +kernel)) (zd_dr dc_Na_timesSmall 20 rfl)) ?_
  refine zd_ac (ok_ldiv (l := l) (B := B) (y := m_Na_timesSmall) (pc := 34) (zd_dr dc_Na_timesSmall 21 rfl)) ?_
  refine zd_ac (ok_lstore_n (l := l) (B := B) (y := m_Na_timesSmall) (pc := 35) (k := 2) rfl (zd_dr dc_Na_timesSmall 22 rfl) (by decide)) ?_
  refine zd_ac (ok_aload_n (l := l) (B := B) (y := m_Na_timesSmall) (pc := 36) (k := 0) rfl (zd_dr dc_Na_timesSmall 23 rfl)) ?_
  refine zd_ac (ok_getf (l := l) (B := B) (y := m_Na_timesSmall) (pc := 37) hG (C := zR4) (T := zT4) (N := 2) (ci := 4) (k := 0) rfl zl4 (by decide) (List.mem_of_getElem? (i := 96) (by decide +kernel)) (zd_dr dc_Na_timesSmall 24 rfl)) ?_
  refine zd_ac (ok_iload (l := l) (B := B) (y := m_Na_timesSmall) (pc := 40) (zd_dr dc_Na_timesSmall 25 rfl)) ?_
  refine zd_ac (ok_lload (l := l) (B := B) (y := m_Na_timesSmall) (pc := 42) (zd_dr dc_Na_timesSmall 26 rfl)) ?_
  refine zd_ac (ok_lload_n (l := l) (B := B) (y := m_Na_timesSmall) (pc := 44) (k := 2) rfl (zd_dr dc_Na_timesSmall 27 rfl)) ?_
  refine zd_ac (ok_ldc2 (l := l) (B := B) (y := m_Na_timesSmall) (pc := 45) hG (List.mem_of_getElem? (i := 504) (by decide +kernel)) (zd_dr dc_Na_timesSmall 28 rfl)) ?_
  refine zd_ac (ok_lmul (l := l) (B := B) (y := m_Na_timesSmall) (pc := 48) (zd_dr dc_Na_timesSmall 29 rfl)) ?_
  refine zd_ac (ok_lsub (l := l) (B := B) (y := m_Na_timesSmall) (pc := 49) (zd_dr dc_Na_timesSmall 30 rfl)) ?_
  refine zd_ac (ok_l2i (l := l) (B := B) (y := m_Na_timesSmall) (pc := 50) (zd_dr dc_Na_timesSmall 31 rfl)) ?_
  refine zd_ac (ok_iastore (l := l) (B := B) (y := m_Na_timesSmall) (pc := 51) hG (zd_dr dc_Na_timesSmall 32 rfl)) ?_
  refine zd_ac (ok_iinc (l := l) (B := B) (y := m_Na_timesSmall) (pc := 52) (zd_dr dc_Na_timesSmall 33 rfl) (by decide) rfl) ?_
  refine zd_ac (ok_goto (l := l) (B := B) (y := m_Na_timesSmall) (pc := 55) (zd_dr dc_Na_timesSmall 34 rfl) (by decide)) ?_
  refine zd_ac (ok_lload_n (l := l) (B := B) (y := m_Na_timesSmall) (pc := 58) (k := 2) rfl (zd_dr dc_Na_timesSmall 35 rfl)) ?_
  refine zd_ac (ok_lconst (l := l) (B := B) (y := m_Na_timesSmall) (pc := 59) (n := 0) (zd_dr dc_Na_timesSmall 36 rfl) rfl) ?_
  refine zd_ac (ok_lcmp (l := l) (B := B) (y := m_Na_timesSmall) (pc := 60) (zd_dr dc_Na_timesSmall 37 rfl)) ?_
  refine zd_ac (ok_if_le (l := l) (B := B) (y := m_Na_timesSmall) (pc := 61) (zd_dr dc_Na_timesSmall 38 rfl) (by decide)) ?_
  refine zd_ac (ok_aload_n (l := l) (B := B) (y := m_Na_timesSmall) (pc := 64) (k := 0) rfl (zd_dr dc_Na_timesSmall 39 rfl)) ?_
  refine zd_ac (ok_aload_n (l := l) (B := B) (y := m_Na_timesSmall) (pc := 65) (k := 0) rfl (zd_dr dc_Na_timesSmall 40 rfl)) ?_
  refine zd_ac (ok_getf (l := l) (B := B) (y := m_Na_timesSmall) (pc := 66) hG (C := zR4) (T := zT4) (N := 2) (ci := 4) (k := 1) rfl zl4 (by decide) (List.mem_of_getElem? (i := 98) (by decide +kernel)) (zd_dr dc_Na_timesSmall 41 rfl)) ?_
  refine zd_ac (ok_iconst (l := l) (B := B) (y := m_Na_timesSmall) (pc := 69) (n := (1)) (zd_dr dc_Na_timesSmall 42 rfl) rfl) ?_
  refine zd_ac (ok_iadd (l := l) (B := B) (y := m_Na_timesSmall) (pc := 70) (zd_dr dc_Na_timesSmall 43 rfl)) ?_
  refine zd_ac (ok_callv (l := l) (B := B) (y := m_Na_timesSmall) (pc := 71) hG (ci := 4) rfl cf_Na_timesSmall_Na_claim rfl (List.mem_of_getElem? (i := 441) (by decide +kernel)) (List.mem_of_getElem? (i := 442) (by decide +kernel)) (List.mem_of_getElem? (i := 443) (by decide +kernel)) (zd_dr dc_Na_timesSmall 44 rfl)) ?_
  refine zd_ac (ok_aload_n (l := l) (B := B) (y := m_Na_timesSmall) (pc := 74) (k := 0) rfl (zd_dr dc_Na_timesSmall 45 rfl)) ?_
  refine zd_ac (ok_getf (l := l) (B := B) (y := m_Na_timesSmall) (pc := 75) hG (C := zR4) (T := zT4) (N := 2) (ci := 4) (k := 0) rfl zl4 (by decide) (List.mem_of_getElem? (i := 96) (by decide +kernel)) (zd_dr dc_Na_timesSmall 46 rfl)) ?_
  refine zd_ac (ok_aload_n (l := l) (B := B) (y := m_Na_timesSmall) (pc := 78) (k := 0) rfl (zd_dr dc_Na_timesSmall 47 rfl)) ?_
  refine zd_ac (ok_getf (l := l) (B := B) (y := m_Na_timesSmall) (pc := 79) hG (C := zR4) (T := zT4) (N := 2) (ci := 4) (k := 1) rfl zl4 (by decide) (List.mem_of_getElem? (i := 98) (by decide +kernel)) (zd_dr dc_Na_timesSmall 48 rfl)) ?_
  refine zd_ac (ok_iconst (l := l) (B := B) (y := m_Na_timesSmall) (pc := 82) (n := (1)) (zd_dr dc_Na_timesSmall 49 rfl) rfl) ?_
  refine zd_ac (ok_isub (l := l) (B := B) (y := m_Na_timesSmall) (pc := 83) (zd_dr dc_Na_timesSmall 50 rfl)) ?_
  refine zd_ac (ok_lload_n (l := l) (B := B) (y := m_Na_timesSmall) (pc := 84) (k := 2) rfl (zd_dr dc_Na_timesSmall 51 rfl)) ?_
  refine zd_ac (ok_l2i (l := l) (B := B) (y := m_Na_timesSmall) (pc := 85) (zd_dr dc_Na_timesSmall 52 rfl)) ?_
  refine zd_ac (ok_iastore (l := l) (B := B) (y := m_Na_timesSmall) (pc := 86) hG (zd_dr dc_Na_timesSmall 53 rfl)) ?_
  refine zd_ac (ok_vret (l := l) (B := B) (y := m_Na_timesSmall) (pc := 87) rfl (zd_dr dc_Na_timesSmall 54 rfl)) ?_
  exact zd_an
def dl_Na_overSmall : List (Nat × Instr × Nat) := [(0, .iload_n 1, 1), (1, .iconst (1), 1), (2, .if_icmp .gt (4), 3), (5, .return_, 1), (6, .lconst 0, 1), (7, .lstore_n 2, 1), (8, .aload_n 0, 1), (9, .getfield 15, 3), (12, .iconst (1), 1), (13, .isub, 1), (14, .istore 4, 2), (16, .iload 4, 2), (18, .ifCond .lt (44), 3), (21, .lload_n 2, 1), (22, .ldc2_w 45, 3), (25, .lmul, 1), (26, .aload_n 0, 1), (27, .getfield 9, 3), (30, .iload 4, 2), (32, .iaload, 1), (33, .i2l, 1), (34, .ladd, 1), (35, .lstore 5, 2), (37, .aload_n 0, 1), (38, .getfield 9, 3), (41, .iload 4, 2), (43, .lload 5, 2), (45, .iload_n 1, 1), (46, .i2l, 1), (47, .ldiv, 1), (48, .l2i, 1), (49, .iastore, 1), (50, .lload 5, 2), (52, .iload_n 1, 1), (53, .i2l, 1), (54, .lrem, 1), (55, .lstore_n 2, 1), (56, .iinc 4 (-1), 3), (59, .goto (-43), 3), (62, .aload_n 0, 1), (63, .invokevirtual 47, 3), (66, .return_, 1)]
theorem dc_Na_overSmall : ∀ q ∈ dl_Na_overSmall, decode (zd_yb m_Na_overSmall) q.1 = .ok q.2 := by decide +kernel
def cd_Na_overSmall (l : Launch) (B : zd_B) : List (Nat × zd_S) := [(0, oc_iload 1 1), (1, oc_ci (1) 2), (2, oc_icmp_gt 6 5), (5, oc_vret), (6, oc_cl 0 7), (7, oc_lstore 2 8), (8, oc_aload 0 9), (9, oc_getf B 4 1 12), (12, oc_ci (1) 13), (13, oc_isub 14), (14, oc_istore 4 16), (16, oc_iload 4 18), (18, oc_if_lt 62 21), (21, oc_lload 2 22), (22, oc_cl (1000000000) 25), (25, oc_lmul 26), (26, oc_aload 0 27), (27, oc_getf B 4 0 30), (30, oc_iload 4 32), (32, oc_iaload B 33), (33, oc_i2l 34), (34, oc_ladd 35), (35, oc_lstore 5 37), (37, oc_aload 0 38), (38, oc_getf B 4 0 41), (41, oc_iload 4 43), (43, oc_lload 5 45), (45, oc_iload 1 46), (46, oc_i2l 47), (47, oc_ldiv 48), (48, oc_l2i 49), (49, oc_iastore B 50), (50, oc_lload 5 52), (52, oc_iload 1 53), (53, oc_i2l 54), (54, oc_lrem 55), (55, oc_lstore 2 56), (56, oc_iinc 4 (-1) 59), (59, oc_goto 16), (62, oc_aload 0 63), (63, oc_callv l B 4 m_Na_trim 0 66), (66, oc_vret)]
set_option maxRecDepth 20000 in
theorem ok_Na_overSmall {l : Launch} {B : zd_B} (hG : zd_G B) (hl : l.stackTraces = false) : ∀ q ∈ cd_Na_overSmall l B, zd_ok l B m_Na_overSmall q.1 q.2 := by
  unfold cd_Na_overSmall
  refine zd_ac (ok_iload_n (l := l) (B := B) (y := m_Na_overSmall) (pc := 0) (k := 1) rfl (zd_dr dc_Na_overSmall 0 rfl)) ?_
  refine zd_ac (ok_iconst (l := l) (B := B) (y := m_Na_overSmall) (pc := 1) (n := (1)) (zd_dr dc_Na_overSmall 1 rfl) rfl) ?_
  refine zd_ac (ok_icmp_gt (l := l) (B := B) (y := m_Na_overSmall) (pc := 2) (zd_dr dc_Na_overSmall 2 rfl) (by decide)) ?_
  refine zd_ac (ok_vret (l := l) (B := B) (y := m_Na_overSmall) (pc := 5) rfl (zd_dr dc_Na_overSmall 3 rfl)) ?_
  refine zd_ac (ok_lconst (l := l) (B := B) (y := m_Na_overSmall) (pc := 6) (n := 0) (zd_dr dc_Na_overSmall 4 rfl) rfl) ?_
  refine zd_ac (ok_lstore_n (l := l) (B := B) (y := m_Na_overSmall) (pc := 7) (k := 2) rfl (zd_dr dc_Na_overSmall 5 rfl) (by decide)) ?_
  refine zd_ac (ok_aload_n (l := l) (B := B) (y := m_Na_overSmall) (pc := 8) (k := 0) rfl (zd_dr dc_Na_overSmall 6 rfl)) ?_
  refine zd_ac (ok_getf (l := l) (B := B) (y := m_Na_overSmall) (pc := 9) hG (C := zR4) (T := zT4) (N := 2) (ci := 4) (k := 1) rfl zl4 (by decide) (List.mem_of_getElem? (i := 98) (by decide +kernel)) (zd_dr dc_Na_overSmall 7 rfl)) ?_
  refine zd_ac (ok_iconst (l := l) (B := B) (y := m_Na_overSmall) (pc := 12) (n := (1)) (zd_dr dc_Na_overSmall 8 rfl) rfl) ?_
  refine zd_ac (ok_isub (l := l) (B := B) (y := m_Na_overSmall) (pc := 13) (zd_dr dc_Na_overSmall 9 rfl)) ?_
  refine zd_ac (ok_istore (l := l) (B := B) (y := m_Na_overSmall) (pc := 14) (zd_dr dc_Na_overSmall 10 rfl) (by decide)) ?_
  refine zd_ac (ok_iload (l := l) (B := B) (y := m_Na_overSmall) (pc := 16) (zd_dr dc_Na_overSmall 11 rfl)) ?_
  refine zd_ac (ok_if_lt (l := l) (B := B) (y := m_Na_overSmall) (pc := 18) (zd_dr dc_Na_overSmall 12 rfl) (by decide)) ?_
  refine zd_ac (ok_lload_n (l := l) (B := B) (y := m_Na_overSmall) (pc := 21) (k := 2) rfl (zd_dr dc_Na_overSmall 13 rfl)) ?_
  refine zd_ac (ok_ldc2 (l := l) (B := B) (y := m_Na_overSmall) (pc := 22) hG (List.mem_of_getElem? (i := 504) (by decide +kernel)) (zd_dr dc_Na_overSmall 14 rfl)) ?_
  refine zd_ac (ok_lmul (l := l) (B := B) (y := m_Na_overSmall) (pc := 25) (zd_dr dc_Na_overSmall 15 rfl)) ?_
  refine zd_ac (ok_aload_n (l := l) (B := B) (y := m_Na_overSmall) (pc := 26) (k := 0) rfl (zd_dr dc_Na_overSmall 16 rfl)) ?_
  refine zd_ac (ok_getf (l := l) (B := B) (y := m_Na_overSmall) (pc := 27) hG (C := zR4) (T := zT4) (N := 2) (ci := 4) (k := 0) rfl zl4 (by decide) (List.mem_of_getElem? (i := 96) (by decide +kernel)) (zd_dr dc_Na_overSmall 17 rfl)) ?_
  refine zd_ac (ok_iload (l := l) (B := B) (y := m_Na_overSmall) (pc := 30) (zd_dr dc_Na_overSmall 18 rfl)) ?_
  refine zd_ac (ok_iaload (l := l) (B := B) (y := m_Na_overSmall) (pc := 32) hG (zd_dr dc_Na_overSmall 19 rfl)) ?_
  refine zd_ac (ok_i2l (l := l) (B := B) (y := m_Na_overSmall) (pc := 33) (zd_dr dc_Na_overSmall 20 rfl)) ?_
  refine zd_ac (ok_ladd (l := l) (B := B) (y := m_Na_overSmall) (pc := 34) (zd_dr dc_Na_overSmall 21 rfl)) ?_
  refine zd_ac (ok_lstore (l := l) (B := B) (y := m_Na_overSmall) (pc := 35) (zd_dr dc_Na_overSmall 22 rfl) (by decide)) ?_
  refine zd_ac (ok_aload_n (l := l) (B := B) (y := m_Na_overSmall) (pc := 37) (k := 0) rfl (zd_dr dc_Na_overSmall 23 rfl)) ?_
  refine zd_ac (ok_getf (l := l) (B := B) (y := m_Na_overSmall) (pc := 38) hG (C := zR4) (T := zT4) (N := 2) (ci := 4) (k := 0) rfl zl4 (by decide) (List.mem_of_getElem? (i := 96) (by decide +kernel)) (zd_dr dc_Na_overSmall 24 rfl)) ?_
  refine zd_ac (ok_iload (l := l) (B := B) (y := m_Na_overSmall) (pc := 41) (zd_dr dc_Na_overSmall 25 rfl)) ?_
  refine zd_ac (ok_lload (l := l) (B := B) (y := m_Na_overSmall) (pc := 43) (zd_dr dc_Na_overSmall 26 rfl)) ?_
  refine zd_ac (ok_iload_n (l := l) (B := B) (y := m_Na_overSmall) (pc := 45) (k := 1) rfl (zd_dr dc_Na_overSmall 27 rfl)) ?_
  refine zd_ac (ok_i2l (l := l) (B := B) (y := m_Na_overSmall) (pc := 46) (zd_dr dc_Na_overSmall 28 rfl)) ?_
  refine zd_ac (ok_ldiv (l := l) (B := B) (y := m_Na_overSmall) (pc := 47) (zd_dr dc_Na_overSmall 29 rfl)) ?_
  refine zd_ac (ok_l2i (l := l) (B := B) (y := m_Na_overSmall) (pc := 48) (zd_dr dc_Na_overSmall 30 rfl)) ?_
  refine zd_ac (ok_iastore (l := l) (B := B) (y := m_Na_overSmall) (pc := 49) hG (zd_dr dc_Na_overSmall 31 rfl)) ?_
  refine zd_ac (ok_lload (l := l) (B := B) (y := m_Na_overSmall) (pc := 50) (zd_dr dc_Na_overSmall 32 rfl)) ?_
  refine zd_ac (ok_iload_n (l := l) (B := B) (y := m_Na_overSmall) (pc := 52) (k := 1) rfl (zd_dr dc_Na_overSmall 33 rfl)) ?_
  refine zd_ac (ok_i2l (l := l) (B := B) (y := m_Na_overSmall) (pc := 53) (zd_dr dc_Na_overSmall 34 rfl)) ?_
  refine zd_ac (ok_lrem (l := l) (B := B) (y := m_Na_overSmall) (pc := 54) (zd_dr dc_Na_overSmall 35 rfl)) ?_
  refine zd_ac (ok_lstore_n (l := l) (B := B) (y := m_Na_overSmall) (pc := 55) (k := 2) rfl (zd_dr dc_Na_overSmall 36 rfl) (by decide)) ?_
  refine zd_ac (ok_iinc (l := l) (B := B) (y := m_Na_overSmall) (pc := 56) (zd_dr dc_Na_overSmall 37 rfl) (by decide) rfl) ?_
  refine zd_ac (ok_goto (l := l) (B := B) (y := m_Na_overSmall) (pc := 59) (zd_dr dc_Na_overSmall 38 rfl) (by decide)) ?_
  refine zd_ac (ok_aload_n (l := l) (B := B) (y := m_Na_overSmall) (pc := 62) (k := 0) rfl (zd_dr dc_Na_overSmall 39 rfl)) ?_
  refine zd_ac (ok_callv (l := l) (B := B) (y := m_Na_overSmall) (pc := 63) hG (ci := 4) rfl cf_Na_overSmall_Na_trim rfl (List.mem_of_getElem? (i := 505) (by decide +kernel)) (List.mem_of_getElem? (i := 455) (by decide +kernel)) (List.mem_of_getElem? (i := 456) (by decide +kernel)) (zd_dr dc_Na_overSmall 40 rfl)) ?_
  refine zd_ac (ok_vret (l := l) (B := B) (y := m_Na_overSmall) (pc := 66) rfl (zd_dr dc_Na_overSmall 41 rfl)) ?_
  exact zd_an
end
section
/-! pure: limbs and digits -/
theorem zv_div {b : Nat} {g : Nat → Nat} (hb : 0 < b) {m : Nat} (n : Nat) (h : ∀ i, i < m → g i < b) : zv b g (m + n) / b ^ m = zv b (fun i => g (m + i)) n := by
  rw [zv_split, Nat.add_mul_div_left _ _ (Nat.pow_pos hb), Nat.div_eq_of_lt (zv_lt h), Nat.zero_add]
theorem zv_mod {b : Nat} {g : Nat → Nat} {m : Nat} (n : Nat) (h : ∀ i, i < m → g i < b) : zv b g (m + n) % b ^ m = zv b g m := by
  rw [zv_split, Nat.add_mul_mod_self_left, Nat.mod_eq_of_lt (zv_lt h)]
/-- the limb q, and all above it -/
theorem zv_from {b : Nat} {g : Nat → Nat} (hb : 0 < b) {n q : Nat} (hq : q < n) (h : ∀ i, i < n → g i < b) : zv b g n / b ^ q = g q + b * zv b (fun i => g (q + 1 + i)) (n - q - 1) := by
  have e : n = q + (1 + (n - q - 1)) := by omega
  rw [show zv b g n = zv b g (q + (1 + (n - q - 1))) by rw [← e], zv_div hb _ (fun i hi => h i (by omega)), zv_split]
  have e1 : zv b (fun i => g (q + i)) 1 = g q := by simp [zv]
  rw [e1, Nat.pow_one]
  congr 2
  exact zv_congr (fun i _ => by rw [Nat.add_assoc])
theorem zv_dig {b : Nat} {g : Nat → Nat} (hb : 0 < b) {n q : Nat} (hq : q < n) (h : ∀ i, i < n → g i < b) : zv b g n / b ^ q % b = g q := by
  rw [zv_from hb hq h, Nat.add_mul_mod_self_left, Nat.mod_eq_of_lt (h q hq)]
theorem p9 : (10 : Nat) ^ 9 = 1000000000 := by decide
theorem p9q (q : Nat) : (1000000000 : Nat) ^ q = 10 ^ (9 * q) := by rw [← p9, ← Nat.pow_mul]
/-- a decimal digit out of the limbs -/
theorem zv_digit {g : Nat → Nat} {n q r : Nat} (hq : q < n) (hr : r < 9) (h : ∀ i, i < n → g i < 1000000000) : zv 1000000000 g n / 10 ^ (9 * q + r) % 10 = g q / 10 ^ r % 10 := by
  rw [Nat.pow_add, ← p9q, ← Nat.div_div_eq_div_mul, zv_from (by decide) hq h]
  have e : (1000000000 : Nat) = 10 ^ r * (10 * 10 ^ (8 - r)) := by
    rw [← p9, ← Nat.pow_succ', ← Nat.pow_add]
    congr 1
    omega
  rw [show g q + 1000000000 * zv 1000000000 (fun i => g (q + 1 + i)) (n - q - 1) = g q + 10 ^ r * ((10 * 10 ^ (8 - r)) * zv 1000000000 (fun i => g (q + 1 + i)) (n - q - 1)) by rw [← Nat.mul_assoc, ← e], Nat.add_mul_div_left _ _ (Nat.pow_pos (by decide)), Nat.mul_assoc, Nat.add_mul_mod_self_left]
/-- how many decimal digits -/
def dg (v : Nat) : Nat := if v < 10 then 1 else dg (v / 10) + 1
decreasing_by omega
theorem dg_pos (v : Nat) : 1 ≤ dg v := by
  unfold dg
  split <;> omega
theorem dg_lt (v : Nat) : v < 10 ^ dg v := by
  induction v using Nat.strongRecOn with
  | ind v ih =>
    unfold dg
    split
    · simpa using ‹v < 10›
    · have := ih (v / 10) (by omega)
      rw [Nat.pow_succ]
      omega
theorem dg_ge (v : Nat) (h : 0 < v) : 10 ^ (dg v - 1) ≤ v := by
  induction v using Nat.strongRecOn with
  | ind v ih =>
    unfold dg
    split
    · have e : (10 : Nat) ^ (1 - 1) = 1 := rfl
      omega
    · have h1 := ih (v / 10) (by omega) (by omega)
      have h2 := dg_pos (v / 10)
      rw [show dg (v / 10) + 1 - 1 = (dg (v / 10) - 1) + 1 by omega, Nat.pow_succ]
      omega
theorem pow_lt_cancel {a b : Nat} (h : (10 : Nat) ^ a < 10 ^ b) : a < b := (Nat.pow_lt_pow_iff_right (by decide)).mp h
theorem dg_eq {v d : Nat} (h1 : 10 ^ d ≤ v) (h2 : v < 10 ^ (d + 1)) : dg v = d + 1 := by
  have hv : 0 < v := Nat.lt_of_lt_of_le (Nat.pow_pos (by decide)) h1
  have a := dg_lt v
  have b := dg_ge v hv
  have c := dg_pos v
  have x : d < dg v := pow_lt_cancel (Nat.lt_of_le_of_lt h1 a)
  have y : dg v - 1 < d + 1 := pow_lt_cancel (Nat.lt_of_le_of_lt b h2)
  omega
theorem dg_0 : dg 0 = 1 := by unfold dg; rfl
theorem dg_mono {v w : Nat} (h : v ≤ w) : dg v ≤ dg w := by
  by_cases hv : v = 0
  · rw [hv, dg_0]; exact dg_pos w
  · have a := dg_ge v (by omega)
    have b := dg_lt w
    have x : dg v - 1 < dg w := pow_lt_cancel (by omega)
    omega
/-- the digits of limbs whose top limb is not 0 -/
theorem zv_dg {g : Nat → Nat} {n c : Nat} (h : ∀ i, i < n + 1 → g i < 1000000000) (h1 : 10 ^ c ≤ g n) (h2 : g n < 10 ^ (c + 1)) : dg (zv 1000000000 g (n + 1)) = 9 * n + (c + 1) := by
  have hlt : zv 1000000000 g n < 10 ^ (9 * n) := by
    have := zv_lt (b := 1000000000) (n := n) (g := g) (fun i hi => h i (by omega))
    rwa [p9q] at this
  have e : zv 1000000000 g (n + 1) = zv 1000000000 g n + g n * 10 ^ (9 * n) := by
    show zv 1000000000 g n + g n * 1000000000 ^ n = _
    rw [p9q]
  rw [show 9 * n + (c + 1) = (9 * n + c) + 1 by omega]
  refine dg_eq ?_ ?_
  · rw [e, Nat.pow_add, Nat.mul_comm]
    exact Nat.le_trans (Nat.mul_le_mul_right _ h1) (Nat.le_add_left _ _)
  · rw [e, show 9 * n + c + 1 = 9 * n + (c + 1) by omega, Nat.pow_add]
    have : (g n + 1) * 10 ^ (9 * n) ≤ 10 ^ (c + 1) * 10 ^ (9 * n) := Nat.mul_le_mul_right _ h2
    rw [Nat.add_mul, Nat.one_mul] at this
    rw [Nat.mul_comm (10 ^ (9 * n))]
    omega
/-- the table of the powers of ten -/
theorem zd_tens_lt {i : Nat} (h : i < 10) : 10 ^ i < 2 ^ 31 := by
  have : (10 : Nat) ^ i ≤ 10 ^ 9 := Nat.pow_le_pow_right (by decide) (by omega)
  omega
end
section
/-! Natural: contracts -/
theorem zd_set_s {h : zd_H} {a : Nat} {c : zd_C} : (zd_set h a c).2.2 a = c := if_pos rfl
theorem zd_set_n {h : zd_H} {a q : Nat} {c : zd_C} (e : q ≠ a) : (zd_set h a c).2.2 q = h.2.2 q := if_neg e
theorem zd_push_n {h : zd_H} {a q n : Nat} {c : zd_C} (e : q ≠ a) : (zd_push h a c n).2.2 q = h.2.2 q := if_neg e
/-- from h to h' only cells of S have changed; d exceptions are new -/
def Fg (B : zd_B) (h h' : zd_H) (S : Nat → Prop) (d : Nat) : Prop := h'.1 = h.1 + d ∧ h'.2.1 = h.2.1 + 6 * d ∧ ∀ a, a < zd_b0 B + h.1 → ¬ S a → h'.2.2 a = h.2.2 a
theorem Fg.rf {B : zd_B} {h : zd_H} {S : Nat → Prop} : Fg B h h S 0 := ⟨rfl, rfl, fun _ _ _ => rfl⟩
theorem Fg.tr {B : zd_B} {h h1 h2 : zd_H} {S : Nat → Prop} {d1 d2 : Nat} (a : Fg B h h1 S d1) (b : Fg B h1 h2 S d2) : Fg B h h2 S (d1 + d2) :=
  ⟨by rw [b.1, a.1]; omega, by rw [b.2.1, a.2.1]; omega, fun q hq hs => (b.2.2 q (by rw [a.1]; omega) hs).trans (a.2.2 q hq hs)⟩
theorem Fg.mono {B : zd_B} {h h1 : zd_H} {S S' : Nat → Prop} {d : Nat} (a : Fg B h h1 S d) (hs : ∀ q, S q → S' q) : Fg B h h1 S' d := ⟨a.1, a.2.1, fun q hq hn => a.2.2 q hq (fun z => hn (hs q z))⟩
theorem Fg.set {B : zd_B} {h : zd_H} {S : Nat → Prop} {a : Nat} {c : zd_C} (ha : S a) : Fg B h (zd_set h a c) S 0 := ⟨rfl, rfl, fun q _ hn => zd_set_n (fun e => hn (e ▸ ha))⟩
theorem Fg.ob {B : zd_B} {h h' : zd_H} {S : Nat → Prop} {d a ci : Nat} {fs : List Value} (f : Fg B h h' S d) (ho : zd_Ob B h a ci fs) (hn : ¬ S a) : zd_Ob B h' a ci fs := ⟨⟨ho.1.1, by rw [f.1]; have := ho.1.2; omega⟩, (f.2.2 a ho.1.2 hn).trans ho.2⟩
theorem Fg.ai {B : zd_B} {h h' : zd_H} {S : Nat → Prop} {d a k n : Nat} {x : Nat → Int32} (f : Fg B h h' S d) (ho : zd_Ai B h a k n x) (hn : ¬ S a) : zd_Ai B h' a k n x := ⟨⟨ho.1.1, by rw [f.1]; have := ho.1.2; omega⟩, (f.2.2 a ho.1.2 hn).trans ho.2⟩
/-- nothing -/
def E0 : Nat → Prop := fun _ => False
/-- the exception that was thrown: the last cell of h', of class ci -/
def Fx (B : zd_B) (h h' : zd_H) (S : Nat → Prop) (ci : Nat) : Prop := Fg B h h' S 1 ∧ h'.2.2 (zd_b0 B + h.1) = .inl (ci, [])
theorem Fx.push {B : zd_B} {h : zd_H} {S : Nat → Prop} {ci : Nat} : Fx B h (zd_push h (zd_b0 B + h.1) (.inl (ci, [])) 6) S ci := ⟨⟨rfl, rfl, fun q hq _ => zd_push_n (by omega)⟩, if_pos rfl⟩
theorem Fx.after {B : zd_B} {h h1 h2 : zd_H} {S : Nat → Prop} {ci : Nat} (a : Fg B h h1 S 0) (b : Fx B h1 h2 S ci) : Fx B h h2 S ci := ⟨by have := a.tr b.1; simpa using this, by rw [← b.2, a.1]; rfl⟩
theorem Fx.mono {B : zd_B} {h h1 : zd_H} {S S' : Nat → Prop} {ci : Nat} (a : Fx B h h1 S ci) (hs : ∀ q, S q → S' q) : Fx B h h1 S' ci := ⟨a.1.mono hs, a.2⟩
/-- room for one exception more -/
def Rm (h : zd_H) : Prop := h.1 + 1 ≤ zd_CB ∧ h.2.1 + 6 ≤ zd_SB
theorem Rm.kept {B : zd_B} {h h' : zd_H} {S : Nat → Prop} (r : Rm h) (f : Fg B h h' S 0) : Rm h' := ⟨by rw [f.1]; exact r.1, by rw [f.2.1]; exact r.2⟩
/-- a Natural at the cell k: room for R limbs, the limbs g, n of them -/
def Nt (B : zd_B) (h : zd_H) (k R : Nat) (g : Nat → Nat) (n : Nat) : Prop := zd_Ob B h (zd_b0 B + k) 4 [.ref (zd_b0 B + k + 1), .int (nI n)] ∧ zd_Ai B h (zd_b0 B + k + 1) 0 R (fun i => nI (g i)) ∧ n ≤ R ∧ R < 1000 ∧ ∀ i, g i < 1000000000
def NS (B : zd_B) (k : Nat) : Nat → Prop := fun a => a = zd_b0 B + k ∨ a = zd_b0 B + k + 1
theorem Nt.kept {B : zd_B} {h h' : zd_H} {S : Nat → Prop} {d k R n : Nat} {g : Nat → Nat} (hN : Nt B h k R g n) (f : Fg B h h' S d) (h0 : ¬ S (zd_b0 B + k)) (h1 : ¬ S (zd_b0 B + k + 1)) : Nt B h' k R g n := ⟨f.ob hN.1 h0, f.ai hN.2.1 h1, hN.2.2⟩
theorem Nt.apart {B : zd_B} {h : zd_H} {k R n k' R' n' : Nat} {g g' : Nat → Nat} (a : Nt B h k R g n) (b : Nt B h k' R' g' n') (e : k ≠ k') : ¬ NS B k (zd_b0 B + k') ∧ ¬ NS B k (zd_b0 B + k' + 1) := by
  have h1 : k + 1 ≠ k' := fun q => by
    have x := a.2.1.2
    have z := b.1.2
    rw [← q, show zd_b0 B + (k + 1) = zd_b0 B + k + 1 by omega, x] at z
    cases z
  have h2 : k' + 1 ≠ k := fun q => by
    have x := b.2.1.2
    have z := a.1.2
    rw [← q, show zd_b0 B + (k' + 1) = zd_b0 B + k' + 1 by omega, x] at z
    cases z
  exact ⟨fun q => by rcases q with q | q <;> omega, fun q => by rcases q with q | q <;> omega⟩
theorem Nt.size {B : zd_B} {h : zd_H} {k R n n' : Nat} {g : Nat → Nat} (hN : Nt B h k R g n) (hn : n' ≤ R) : Nt B (zd_set h (zd_b0 B + k) (.inl (4, [.ref (zd_b0 B + k + 1), .int (nI n')]))) k R g n' :=
  ⟨⟨hN.1.1, zd_set_s⟩, ⟨hN.2.1.1, by rw [zd_set_n (by omega)]; exact hN.2.1.2⟩, hn, hN.2.2.2⟩
theorem Nt.put {B : zd_B} {h : zd_H} {k R n i v : Nat} {g : Nat → Nat} (hN : Nt B h k R g n) (hv : v < 1000000000) : Nt B (zd_set h (zd_b0 B + k + 1) (.inr (.inl (0, R, upd (fun i => nI (g i)) i (nI v))))) k R (zu g i v) n :=
  ⟨⟨hN.1.1, by rw [zd_set_n (by omega)]; exact hN.1.2⟩, ⟨hN.2.1.1, by rw [zd_set_s, upd_nI]⟩, hN.2.2.1, hN.2.2.2.1, fun j => by unfold zu; split; exact hv; exact hN.2.2.2.2 j⟩
section NA
variable {l : Launch} {B : zd_B} {h : zd_H} {Q : zd_O → zd_H → Prop}
theorem c_Na_isZero (hG : zd_G B) (hl : l.stackTraces = false) {k R n : Nat} {g : Nat → Nat} (hN : Nt B h k R g n) (hq : Q (.inl (some (.int (if n = 0 then 1 else 0)))) h) : zd_M l B m_Na_isZero [.ref (zd_b0 B + k)] h Q := by
  refine zd_go (ok_Na_isZero hG hl) [] 30 ?_
  conv => whnf
  refine ⟨_, hN.1, ?_⟩
  conv => whnf
  refine ⟨fun hc => ?_, fun hc => ?_⟩
  · conv => whnf
    refine ⟨rfl, ?_, trivial⟩
    rw [if_neg (fun e => hc (by rw [e]; exact nI_0))] at hq
    exact hq
  · conv => whnf
    refine ⟨rfl, ?_, trivial⟩
    rw [if_pos ((nI_eq (by have := hN.2.2; omega) (by omega)).mp (hc.trans nI_0.symm))] at hq
    exact hq
theorem c_Na_claim (hG : zd_G B) (hl : l.stackTraces = false) {k R n w : Nat} {g : Nat → Nat} (hN : Nt B h k R g n) (hw : w < 2 ^ 31) (hr : Rm h) (hok : ∀ h', w ≤ R → Fg B h h' (NS B k) 0 → Nt B h' k R g w → Q (.inl none) h') (hth : ∀ h', R < w → Fx B h h' E0 11 → Q (.inr (zd_b0 B + h.1, 11)) h') : zd_M l B m_Na_claim [.ref (zd_b0 B + k), .int (nI w)] h Q := by
  have hR := hN.2.2.2.1
  refine zd_go (ok_Na_claim hG hl) [] 30 ?_
  conv => whnf
  refine ⟨_, hN.1, ?_⟩
  conv => whnf
  refine ⟨R, Or.inl ⟨0, _, hN.2.1, by omega⟩, ?_⟩
  conv => whnf
  refine ⟨fun hc => ?_, fun hc => ?_⟩
  · rw [nI_leI hw (by omega)] at hc
    conv => whnf
    refine ⟨_, hN.1, Nat.lt_succ_self 1, ⟨rfl, rfl⟩, ?_⟩
    conv => whnf
    exact ⟨hok _ hc (Fg.set (Or.inl rfl)) (hN.size hc), trivial⟩
  · rw [nI_leI hw (by omega)] at hc
    conv => whnf
    exact ⟨⟨Nat.zero_le _, hr.1, hr.2⟩, hth _ (by omega) Fx.push, trivial⟩
/-- the loop of trim -/
theorem w_Na_trim (hG : zd_G B) (hl : l.stackTraces = false) {k R : Nat} {g : Nat → Nat} : ∀ (n : Nat) (h : zd_H), Nt B h k R g n → (∀ n' h', n' ≤ n → zv 1000000000 g n' = zv 1000000000 g n → (n' = 0 ∨ g (n' - 1) ≠ 0) → Fg B h h' (NS B k) 0 → Nt B h' k R g n' → Q (.inl none) h') → zd_W l B m_Na_trim 0 [some (.ref (zd_b0 B + k))] [] h Q := by
  intro n
  induction n with
  | zero =>
    intro h hN hq
    refine zd_go (ok_Na_trim hG hl) [] 30 ?_
    conv => whnf
    refine ⟨_, hN.1, ?_⟩
    conv => whnf
    refine ⟨fun hc => ?_, fun hc => ?_⟩
    · conv => whnf
      exact ⟨hq 0 h (Nat.le_refl _) rfl (Or.inl rfl) Fg.rf hN, trivial⟩
    · exact absurd (by rw [nI_0]; exact Int32.le_refl 0) hc
  | succ n ih =>
    intro h hN hq
    have hR := hN.2.2.2.1
    have hn := hN.2.2.1
    refine zd_go (ok_Na_trim hG hl) [0] 30 ?_
    conv => whnf
    refine ⟨_, hN.1, ?_⟩
    conv => whnf
    refine ⟨fun hc => absurd hc (nI_nle (by omega) (by omega)), fun hc => ?_⟩
    conv => whnf
    refine ⟨_, hN.1, ?_⟩
    conv => whnf
    refine ⟨_, hN.1, ?_⟩
    conv => whnf
    refine ⟨R, _, Or.inl hN.2.1, by rw [nI_pred]; exact vp_in_nI (by omega) (by omega), ?_⟩
    rw [nI_pred, nI_clamp (by omega)]
    conv => whnf
    refine ⟨fun hz => ?_, fun hz => ?_⟩
    · conv => whnf
      exact ⟨hq (n + 1) h (Nat.le_refl _) rfl (Or.inr (fun e => hz (by show nI (g n) = 0; rw [show g n = 0 from e]; exact nI_0))) Fg.rf hN, trivial⟩
    · have hg : g n = 0 := (nI_eq (by have := hN.2.2.2.2 n; omega) (by omega)).mp (hz.trans nI_0.symm)
      conv => whnf
      refine ⟨_, hN.1, ?_⟩
      conv => whnf
      refine ⟨_, hN.1, Nat.lt_succ_self 1, ⟨rfl, rfl⟩, ?_⟩
      rw [nI_pred]
      conv => whnf
      refine ⟨ih _ (hN.size (by omega)) (fun n' h' a1 a2 a3 a4 a5 => hq n' h' (by omega) (by rw [a2]; show _ = zv 1000000000 g n + g n * _; rw [hg]; omega) a3 ?_ a5), trivial⟩
      have := (Fg.set (h := h) (B := B) (c := .inl (4, [.ref (zd_b0 B + k + 1), .int (nI n)])) (S := NS B k) (Or.inl rfl)).tr a4
      simpa using this
theorem c_Na_trim (hG : zd_G B) (hl : l.stackTraces = false) {k R n : Nat} {g : Nat → Nat} (hN : Nt B h k R g n) (hq : ∀ n' h', n' ≤ n → zv 1000000000 g n' = zv 1000000000 g n → (n' = 0 ∨ g (n' - 1) ≠ 0) → Fg B h h' (NS B k) 0 → Nt B h' k R g n' → Q (.inl none) h') : zd_M l B m_Na_trim [.ref (zd_b0 B + k)] h Q := w_Na_trim hG hl n h hN hq
end NA
end
section
/-! Natural: copy, digits, digitAt, order -/
theorem Nt.cpy {B : zd_B} {h : zd_H} {k R n m : Nat} {g g2 : Nat → Nat} (hN : Nt B h k R g n) (hg : ∀ i, g2 i < 1000000000) : Nt B (zd_set h (zd_b0 B + k + 1) (.inr (.inl (0, R, va_cpy (fun i => nI (g2 i)) (fun i => nI (g i)) 0 0 m)))) k R (fun i => if i < m then g2 i else g i) n := by
  refine ⟨⟨hN.1.1, by rw [zd_set_n (by omega)]; exact hN.1.2⟩, ⟨hN.2.1.1, ?_⟩, hN.2.2.1, hN.2.2.2.1, fun j => ?_⟩
  · rw [zd_set_s]
    congr 4
    funext i
    unfold va_cpy
    by_cases e : i < m
    · rw [if_pos ⟨Nat.zero_le _, by omega⟩]
      show nI (g2 (0 + (i - 0))) = nI (if i < m then g2 i else g i)
      rw [if_pos e, Nat.zero_add, Nat.sub_zero]
    · rw [if_neg (fun q => e (by omega))]
      show nI (g i) = nI (if i < m then g2 i else g i)
      rw [if_neg e]
  · show (if j < m then g2 j else g j) < _
    split
    · exact hg j
    · exact hN.2.2.2.2 j
section NB
variable {l : Launch} {B : zd_B} {h : zd_H} {Q : zd_O → zd_H → Prop}
theorem c_Na_copy (hG : zd_G B) (hl : l.stackTraces = false) {k R n j R2 n2 : Nat} {g g2 : Nat → Nat} (hN : Nt B h k R g n) (hJ : Nt B h j R2 g2 n2) (hkj : k ≠ j) (hr : Rm h)
    (hok : ∀ h' g', n2 ≤ R → Fg B h h' (NS B k) 0 → Nt B h' k R g' n2 → (∀ i, i < n2 → g' i = g2 i) → Q (.inl none) h') (hth : ∀ h', R < n2 → Fx B h h' E0 11 → Q (.inr (zd_b0 B + h.1, 11)) h') : zd_M l B m_Na_copy [.ref (zd_b0 B + k), .ref (zd_b0 B + j)] h Q := by
  have hR := hN.2.2.2.1
  have hR2 := hJ.2.2.2.1
  have hn2 := hJ.2.2.1
  refine zd_go (ok_Na_copy hG hl) [] 30 ?_
  conv => whnf
  refine ⟨_, hJ.1, ?_⟩
  conv => whnf
  refine ⟨⟨_, hN.1⟩, ⟨rfl, Nat.zero_le _, Nat.le_of_ble_eq_true rfl⟩, ?_⟩
  refine c_Na_claim hG hl hN (by omega) hr (fun h1 a1 a2 a3 => ?_) (fun h1 a1 a2 => hth h1 a1 a2)
  have hJ1 := hJ.kept a2 (hN.apart hJ hkj).1 (hN.apart hJ hkj).2
  conv => whnf
  refine ⟨_, hJ1.1, ?_⟩
  conv => whnf
  refine ⟨_, a3.1, ?_⟩
  conv => whnf
  refine ⟨_, a3.1, ?_⟩
  conv => whnf
  refine ⟨R2, _, R, _, hJ1.2.1, a3.2.1, ⟨by decide, by decide, nI_pos (by omega), by rw [nI_clamp (by omega), sb_cl0]; omega, by rw [nI_clamp (by omega), sb_cl0]; omega, Nat.zero_le _⟩, ?_⟩
  rw [nI_clamp (by omega), sb_cl0]
  conv => whnf
  refine ⟨hok _ _ a1 ?_ (a3.cpy hJ.2.2.2.2) (fun i hi => if_pos hi), trivial⟩
  have := a2.tr (Fg.set (h := h1) (B := B) (c := .inr (.inl (0, R, va_cpy (fun i => nI (g2 i)) (fun i => nI (g i)) 0 0 n2))) (S := NS B k) (Or.inr rfl))
  simpa using this
theorem w_Na_digits (hG : zd_G B) (hl : l.stackTraces = false) {k R m : Nat} {g : Nat → Nat} (hN : Nt B h k R g (m + 1)) (hq : Q (.inl (some (.int (nI (dg (zv 1000000000 g (m + 1))))))) h) : ∀ (d c : Nat), c + 1 + d = 9 → 10 ^ c ≤ g m → zd_W l B m_Na_digits 11 [some (.ref (zd_b0 B + k)), some (.int (nI (c + 1)))] [] h Q := by
  have hR := hN.2.2.1
  have hR2 := hN.2.2.2.1
  have hgm := hN.2.2.2.2 m
  intro d
  induction d with
  | zero =>
    intro c hc hm
    have hc8 : c = 8 := by omega
    subst hc8
    refine zd_go (ok_Na_digits hG hl) [] 30 ?_
    conv => whnf
    refine ⟨fun z => ?_, fun z => absurd (by decide) z⟩
    conv => whnf
    refine ⟨_, hN.1, ?_⟩
    conv => whnf
    refine ⟨rfl, ?_, trivial⟩
    rw [zv_dg (c := 8) (fun i _ => hN.2.2.2.2 i) hm hgm] at hq
    rw [nI_pred, show (9 : Int32) = nI 9 from rfl, pk_mul, nI_add, show m * 9 + (8 + 1) = 9 * m + (8 + 1) by omega]
    exact hq
  | succ d ih =>
    intro c hc hm
    refine zd_go (ok_Na_digits hG hl) [11] 30 ?_
    conv => whnf
    refine ⟨fun z => absurd z (nI_ge (a := c + 1) (b := 9) (by omega) (by omega)), fun z => ?_⟩
    conv => whnf
    refine ⟨_, hN.1, ?_⟩
    conv => whnf
    refine ⟨_, hN.1, ?_⟩
    conv => whnf
    refine ⟨R, _, Or.inl hN.2.1, by rw [nI_pred]; exact vp_in_nI (by omega) (by omega), ?_⟩
    rw [nI_pred, nI_clamp (by omega)]
    conv => whnf
    refine ⟨10, _, Or.inr hG.2.2.2.2.1, vp_in_nI (by omega) (by omega), ?_⟩
    rw [nI_clamp (by omega)]
    conv => whnf
    have ht := zd_tens_lt (i := c + 1) (by omega)
    refine ⟨fun z => ?_, fun z => ?_⟩
    · have z' : g m < 10 ^ (c + 1) := (nI_ltI (by omega) ht).mp z
      conv => whnf
      refine ⟨_, hN.1, ?_⟩
      conv => whnf
      refine ⟨rfl, ?_, trivial⟩
      rw [zv_dg (c := c) (fun i _ => hN.2.2.2.2 i) hm z'] at hq
      rw [nI_pred, show (9 : Int32) = nI 9 from rfl, pk_mul, nI_add, show m * 9 + (c + 1) = 9 * m + (c + 1) by omega]
      exact hq
    · have z' : ¬ g m < 10 ^ (c + 1) := fun q => z ((nI_ltI (by omega) ht).mpr q)
      conv => whnf
      refine ⟨?_, trivial⟩
      show zd_W l B m_Na_digits 11 [some (.ref (zd_b0 B + k)), some (.int (nI (c + 1) + 1))] [] h Q
      rw [nI_1]
      exact ih (c + 1) (by omega) (by omega)
theorem c_Na_digits (hG : zd_G B) (hl : l.stackTraces = false) {k R n : Nat} {g : Nat → Nat} (hN : Nt B h k R g n) (hz : n = 0 ∨ g (n - 1) ≠ 0) (hq : Q (.inl (some (.int (nI (dg (zv 1000000000 g n)))))) h) : zd_M l B m_Na_digits [.ref (zd_b0 B + k)] h Q := by
  refine zd_go (ok_Na_digits hG hl) [11] 30 ?_
  conv => whnf
  refine ⟨_, hN.1, ?_⟩
  conv => whnf
  cases n with
  | zero =>
    refine ⟨fun z => absurd nI_0 z, fun z => ?_⟩
    conv => whnf
    refine ⟨rfl, ?_, trivial⟩
    rw [show zv 1000000000 g 0 = 0 from rfl, dg_0] at hq
    exact hq
  | succ m =>
    have hR := hN.2.2.1
    have hR2 := hN.2.2.2.1
    refine ⟨fun z => ?_, fun z => absurd z (nI_ne0 (by omega) (by omega))⟩
    conv => whnf
    refine ⟨w_Na_digits hG hl hN hq 8 0 (by omega) ?_, trivial⟩
    rcases hz with hz | hz
    · omega
    · have : g m ≠ 0 := hz
      show 1 ≤ g m
      omega
theorem c_Na_digitAt (hG : zd_G B) (hl : l.stackTraces = false) {k R n p : Nat} {g : Nat → Nat} (hN : Nt B h k R g n) (hp : p < 2 ^ 31) (hq : Q (.inl (some (.int (nI (zv 1000000000 g n / 10 ^ p % 10))))) h) : zd_M l B m_Na_digitAt [.ref (zd_b0 B + k), .int (nI p)] h Q := by
  have hR := hN.2.2.1
  have hR2 := hN.2.2.2.1
  have e9 : nI p / 9 = nI (p / 9) := pk_div (d := 9) hp (by omega) (by omega)
  have r9 : nI p - nI p / 9 * 9 = nI (p % 9) := pk_rem (d := 9) hp (by omega) (by omega)
  have h0 : ∀ {x : Nat}, n * 9 ≤ p → zv 1000000000 g n / 10 ^ p % 10 = 0 := by
    intro _ hx
    have a := zv_lt (b := 1000000000) (g := g) (n := n) (fun i _ => hN.2.2.2.2 i)
    rw [p9q] at a
    rw [Nat.div_eq_of_lt (Nat.lt_of_lt_of_le a (Nat.pow_le_pow_right (by decide) (by omega)))]
  refine zd_go (ok_Na_digitAt hG hl) [] 40 ?_
  conv => whnf
  refine ⟨fun z => absurd z (nI_pos hp), fun z => ?_⟩
  conv => whnf
  refine ⟨by decide, ?_⟩
  conv => whnf
  refine ⟨_, hN.1, ?_⟩
  conv => whnf
  refine ⟨fun z => ?_, fun z => ?_⟩
  · rw [e9] at z
    have z' : p / 9 < n := (nI_ltI (by omega) (by omega)).mp z
    conv => whnf
    refine ⟨_, hN.1, ?_⟩
    conv => whnf
    refine ⟨by decide, ?_⟩
    conv => whnf
    refine ⟨R, _, Or.inl hN.2.1, by rw [e9]; exact vp_in_nI (by omega) (by omega), ?_⟩
    rw [e9, nI_clamp (by omega)]
    conv => whnf
    refine ⟨by decide, ?_⟩
    conv => whnf
    refine ⟨10, _, Or.inr hG.2.2.2.2.1, by rw [r9]; exact vp_in_nI (by omega) (by omega), ?_⟩
    rw [r9, nI_clamp (by omega)]
    have ht := zd_tens_lt (i := p % 9) (by omega)
    have hp0 : 0 < 10 ^ (p % 9) := Nat.pow_pos (by decide)
    have hg := hN.2.2.2.2 (p / 9)
    conv => whnf
    refine ⟨nI_ne0 hp0 ht, ?_⟩
    rw [show zd_tens (p % 9) = nI (10 ^ (p % 9)) from rfl, pk_div (by omega) hp0 ht]
    conv => whnf
    refine ⟨by decide, ?_⟩
    have hd : g (p / 9) / 10 ^ (p % 9) < 2 ^ 31 := Nat.lt_of_le_of_lt (Nat.div_le_self _ _) (by omega)
    rw [show nI (g (p / 9) / 10 ^ (p % 9)) - nI (g (p / 9) / 10 ^ (p % 9)) / 10 * 10 = nI (g (p / 9) / 10 ^ (p % 9) % 10) from pk_rem (d := 10) hd (by omega) (by omega)]
    conv => whnf
    refine ⟨rfl, ?_, trivial⟩
    have e := zv_digit (g := g) (n := n) (q := p / 9) (r := p % 9) z' (by omega) (fun i _ => hN.2.2.2.2 i)
    rw [show 9 * (p / 9) + p % 9 = p by omega] at e
    rw [e] at hq
    exact hq
  · rw [e9] at z
    have z' : ¬ p / 9 < n := fun q => z ((nI_ltI (by omega) (by omega)).mpr q)
    conv => whnf
    refine ⟨rfl, ?_, trivial⟩
    rw [h0 (x := 0) (by omega)] at hq
    exact hq
end NB
end
section
/-! Integer.compare, Math.max, Math.min, Math.abs; order of Naturals -/
/-- pure: the order of two rows of limbs -/
theorem zv_lt_len {g g2 : Nat → Nat} {n m : Nat} (h : ∀ i, i < n → g i < 1000000000) (hm : g2 m ≠ 0) (hn : n ≤ m) : zv 1000000000 g n < zv 1000000000 g2 (m + 1) := by
  have a := zv_lt (b := 1000000000) h
  have b : (1000000000 : Nat) ^ n ≤ 1000000000 ^ m := Nat.pow_le_pow_right (by decide) hn
  have c : 1 * 1000000000 ^ m ≤ g2 m * 1000000000 ^ m := Nat.mul_le_mul_right _ (by omega)
  show _ < zv 1000000000 g2 m + g2 m * 1000000000 ^ m
  omega
theorem zv_lt_at {g g2 : Nat → Nat} {i : Nat} (h : ∀ j, j < i → g j < 1000000000) (hi : g i < g2 i) : ∀ n, (∀ j, i < j → j < i + 1 + n → g j = g2 j) → zv 1000000000 g (i + 1 + n) < zv 1000000000 g2 (i + 1 + n) := by
  intro n
  induction n with
  | zero =>
    intro _
    have a := zv_lt (b := 1000000000) h
    have c : (g i + 1) * 1000000000 ^ i ≤ g2 i * 1000000000 ^ i := Nat.mul_le_mul_right _ hi
    show zv 1000000000 g i + g i * 1000000000 ^ i < zv 1000000000 g2 i + g2 i * 1000000000 ^ i
    rw [Nat.add_mul, Nat.one_mul] at c
    omega
  | succ n ih =>
    intro he
    have a := ih (fun j h1 h2 => he j h1 (by omega))
    have b := he (i + 1 + n) (by omega) (by omega)
    show zv 1000000000 g (i + 1 + n) + g (i + 1 + n) * 1000000000 ^ (i + 1 + n) < zv 1000000000 g2 (i + 1 + n) + g2 (i + 1 + n) * 1000000000 ^ (i + 1 + n)
    rw [b]
    omega
/-- -1, 0 or 1 -/
def cmpN (a b : Nat) : Int32 := if a < b then -1 else if a = b then 0 else 1
theorem cmpN_eq {a b : Nat} (h : a = b) : cmpN a b = 0 := by unfold cmpN; rw [if_neg (by omega), if_pos h]
theorem cmpN_lt {a b : Nat} (h : a < b) : cmpN a b = -1 := by unfold cmpN; rw [if_pos h]
theorem cmpN_gt {a b : Nat} (h : b < a) : cmpN a b = 1 := by unfold cmpN; rw [if_neg (by omega), if_neg (by omega)]
theorem cmpN_same {a b c d : Nat} (h1 : a < b ↔ c < d) (h2 : a = b ↔ c = d) : cmpN a b = cmpN c d := by
  unfold cmpN
  by_cases x : a < b
  · rw [if_pos x, if_pos (h1.mp x)]
  · rw [if_neg x, if_neg (fun q => x (h1.mpr q))]
    by_cases z : a = b
    · rw [if_pos z, if_pos (h2.mp z)]
    · rw [if_neg z, if_neg (fun q => z (h2.mpr q))]
section NC
variable {l : Launch} {B : zd_B} {h : zd_H} {Q : zd_O → zd_H → Prop}
theorem c_In_compare (hG : zd_G B) (hl : l.stackTraces = false) {a b : Int32} (hq : Q (.inl (some (.int (if a < b then -1 else if a = b then 0 else 1)))) h) : zd_M l B m_In_compare [.int a, .int b] h Q := by
  refine zd_go (ok_In_compare hG hl) [] 30 ?_
  conv => whnf
  refine ⟨fun z => ?_, fun z => ?_⟩
  · rw [if_neg (Int32.not_lt.mpr z)] at hq
    conv => whnf
    refine ⟨fun e => ?_, fun e => ?_⟩
    · rw [if_neg e] at hq
      conv => whnf
      exact ⟨rfl, hq, trivial⟩
    · rw [if_pos e] at hq
      conv => whnf
      exact ⟨rfl, hq, trivial⟩
  · rw [if_pos (Int32.not_le.mp z)] at hq
    conv => whnf
    exact ⟨rfl, hq, trivial⟩
theorem c_In_compareN (hG : zd_G B) (hl : l.stackTraces = false) {a b : Nat} (ha : a < 2 ^ 31) (hb : b < 2 ^ 31) (hq : Q (.inl (some (.int (cmpN a b)))) h) : zd_M l B m_In_compare [.int (nI a), .int (nI b)] h Q := by
  refine c_In_compare hG hl ?_
  unfold cmpN at hq
  simp only [nI_ltI ha hb, nI_eq ha hb]
  exact hq
theorem c_Ma_max (hG : zd_G B) (hl : l.stackTraces = false) {a b : Int32} (hq : Q (.inl (some (.int (if a < b then b else a)))) h) : zd_M l B m_Ma_max [.int a, .int b] h Q := by
  refine zd_go (ok_Ma_max hG hl) [] 30 ?_
  conv => whnf
  refine ⟨fun z => ?_, fun z => ?_⟩
  · rw [if_pos z] at hq
    conv => whnf
    exact ⟨rfl, hq, trivial⟩
  · rw [if_neg z] at hq
    conv => whnf
    exact ⟨rfl, hq, trivial⟩
theorem c_Ma_min (hG : zd_G B) (hl : l.stackTraces = false) {a b : Int32} (hq : Q (.inl (some (.int (if b < a then b else a)))) h) : zd_M l B m_Ma_min [.int a, .int b] h Q := by
  refine zd_go (ok_Ma_min hG hl) [] 30 ?_
  conv => whnf
  refine ⟨fun z => ?_, fun z => ?_⟩
  · rw [if_pos z] at hq
    conv => whnf
    exact ⟨rfl, hq, trivial⟩
  · rw [if_neg z] at hq
    conv => whnf
    exact ⟨rfl, hq, trivial⟩
theorem c_Ma_abs (hG : zd_G B) (hl : l.stackTraces = false) {a : Int32} (hq : Q (.inl (some (.int (if 0 ≤ a then a else -a)))) h) : zd_M l B m_Ma_abs [.int a] h Q := by
  refine zd_go (ok_Ma_abs hG hl) [] 30 ?_
  conv => whnf
  refine ⟨fun z => ?_, fun z => ?_⟩
  · rw [if_pos z] at hq
    conv => whnf
    exact ⟨rfl, hq, trivial⟩
  · rw [if_neg z] at hq
    conv => whnf
    exact ⟨rfl, hq, trivial⟩
/-- the loop of order: above i all limbs are alike -/
theorem w_Na_order (hG : zd_G B) (hl : l.stackTraces = false) {k R j R2 m : Nat} {g g2 : Nat → Nat} (hN : Nt B h k R g (m + 1)) (hJ : Nt B h j R2 g2 (m + 1)) (hq : Q (.inl (some (.int (cmpN (zv 1000000000 g (m + 1)) (zv 1000000000 g2 (m + 1)))))) h) : ∀ i, i ≤ m → (∀ q, i < q → q < m + 1 → g q = g2 q) → zd_W l B m_Na_order 30 [some (.ref (zd_b0 B + k)), some (.ref (zd_b0 B + j)), some (.int (nI i))] [] h Q := by
  have r1 := hN.2.2.1
  have r2 := hN.2.2.2.1
  have r3 := hJ.2.2.1
  have r4 := hJ.2.2.2.1
  have fin : ∀ i, i ≤ m → (∀ q, i < q → q < m + 1 → g q = g2 q) → (i = 0 ∨ g i ≠ g2 i) → cmpN (g i) (g2 i) = cmpN (zv 1000000000 g (m + 1)) (zv 1000000000 g2 (m + 1)) := by
    intro i hi he hx
    have e1 : m + 1 = i + 1 + (m - i) := by omega
    rcases Nat.lt_trichotomy (g i) (g2 i) with hlt | heq | hgt
    · rw [cmpN_lt hlt, cmpN_lt]
      rw [e1]
      exact zv_lt_at (fun q _ => hN.2.2.2.2 q) hlt (m - i) (fun q a b => he q a (by omega))
    · have hi0 : i = 0 := by rcases hx with hx | hx; exact hx; exact absurd heq hx
      rw [cmpN_eq heq, cmpN_eq]
      refine zv_congr (fun q hqm => ?_)
      by_cases hq0 : q = 0
      · rw [hq0, ← hi0]; exact heq
      · exact he q (by omega) hqm
    · rw [cmpN_gt hgt, cmpN_gt]
      rw [e1]
      exact zv_lt_at (fun q _ => hJ.2.2.2.2 q) hgt (m - i) (fun q a b => (he q a (by omega)).symm)
  have last : ∀ i, i ≤ m → (∀ q, i < q → q < m + 1 → g q = g2 q) → (i = 0 ∨ g i ≠ g2 i) → zd_W l B m_Na_order 55 [some (.ref (zd_b0 B + k)), some (.ref (zd_b0 B + j)), some (.int (nI i))] [] h Q := by
    intro i hi he hx
    refine zd_go (ok_Na_order hG hl) [] 30 ?_
    conv => whnf
    refine ⟨fun z => ?_, fun z => absurd (nI_pos' (by omega)) z⟩
    conv => whnf
    refine ⟨_, hN.1, ?_⟩
    conv => whnf
    refine ⟨R, _, Or.inl hN.2.1, vp_in_nI (by omega) (by omega), ?_⟩
    rw [nI_clamp (by omega)]
    conv => whnf
    refine ⟨_, hJ.1, ?_⟩
    conv => whnf
    refine ⟨R2, _, Or.inl hJ.2.1, vp_in_nI (by omega) (by omega), ?_⟩
    rw [nI_clamp (by omega)]
    conv => whnf
    refine ⟨⟨rfl, Nat.zero_le _, Nat.le_of_ble_eq_true rfl⟩, ?_⟩
    refine c_In_compareN hG hl (by have := hN.2.2.2.2 i; omega) (by have := hJ.2.2.2.2 i; omega) ?_
    conv => whnf
    refine ⟨rfl, ?_, trivial⟩
    rw [fin i hi he hx]
    exact hq
  intro i
  induction i with
  | zero =>
    intro hi he
    refine zd_go (ok_Na_order hG hl) [55] 30 ?_
    conv => whnf
    refine ⟨fun z => ?_, fun z => absurd (by rw [nI_0]; exact Int32.le_refl 0) z⟩
    conv => whnf
    exact ⟨last 0 hi he (Or.inl rfl), trivial⟩
  | succ i ih =>
    intro hi he
    refine zd_go (ok_Na_order hG hl) [30, 55] 30 ?_
    conv => whnf
    refine ⟨fun z => absurd z (nI_nle (by omega) (by omega)), fun z => ?_⟩
    conv => whnf
    refine ⟨_, hN.1, ?_⟩
    conv => whnf
    refine ⟨R, _, Or.inl hN.2.1, vp_in_nI (by omega) (by omega), ?_⟩
    rw [nI_clamp (by omega)]
    conv => whnf
    refine ⟨_, hJ.1, ?_⟩
    conv => whnf
    refine ⟨R2, _, Or.inl hJ.2.1, vp_in_nI (by omega) (by omega), ?_⟩
    rw [nI_clamp (by omega)]
    conv => whnf
    have b1 := hN.2.2.2.2 (i + 1)
    have b2 := hJ.2.2.2.2 (i + 1)
    refine ⟨fun z => ?_, fun z => ?_⟩
    · have z' : g (i + 1) ≠ g2 (i + 1) := fun e => z (by show nI (g (i + 1)) = nI (g2 (i + 1)); rw [e])
      conv => whnf
      exact ⟨last (i + 1) hi he (Or.inr z'), trivial⟩
    · have z' : g (i + 1) = g2 (i + 1) := (nI_eq (by omega) (by omega)).mp z
      conv => whnf
      refine ⟨?_, trivial⟩
      show zd_W l B m_Na_order 30 [some (.ref (zd_b0 B + k)), some (.ref (zd_b0 B + j)), some (.int (nI (i + 1) + (-1)))] [] h Q
      rw [pk_m1]
      exact ih (by omega) (fun q a b => by
        by_cases e : q = i + 1
        · rw [e]; exact z'
        · exact he q (by omega) b)
theorem c_Na_order (hG : zd_G B) (hl : l.stackTraces = false) {k R n j R2 n2 : Nat} {g g2 : Nat → Nat} (hN : Nt B h k R g n) (hJ : Nt B h j R2 g2 n2) (hz : n = 0 ∨ g (n - 1) ≠ 0) (hz2 : n2 = 0 ∨ g2 (n2 - 1) ≠ 0) (hq : Q (.inl (some (.int (cmpN (zv 1000000000 g n) (zv 1000000000 g2 n2))))) h) : zd_M l B m_Na_order [.ref (zd_b0 B + k), .ref (zd_b0 B + j)] h Q := by
  have r1 := hN.2.2.1
  have r2 := hN.2.2.2.1
  have r3 := hJ.2.2.1
  have r4 := hJ.2.2.2.1
  refine zd_go (ok_Na_order hG hl) [30] 30 ?_
  conv => whnf
  refine ⟨_, hN.1, ?_⟩
  conv => whnf
  refine ⟨_, hJ.1, ?_⟩
  conv => whnf
  refine ⟨fun z => ?_, fun z => ?_⟩
  · have e : n = n2 := (nI_eq (by omega) (by omega)).mp z
    subst e
    conv => whnf
    refine ⟨_, hN.1, ?_⟩
    conv => whnf
    refine ⟨?_, trivial⟩
    show zd_W l B m_Na_order 30 [some (.ref (zd_b0 B + k)), some (.ref (zd_b0 B + j)), some (.int (nI n - 1))] [] h Q
    cases n with
    | zero =>
      refine zd_go (ok_Na_order hG hl) [] 30 ?_
      conv => whnf
      refine ⟨fun z => ?_, fun z => absurd (by decide) z⟩
      conv => whnf
      refine ⟨fun z => absurd z (by decide), fun z => ?_⟩
      conv => whnf
      refine ⟨rfl, ?_, trivial⟩
      rw [cmpN_eq (show zv 1000000000 g 0 = zv 1000000000 g2 0 from rfl)] at hq
      exact hq
    | succ m =>
      rw [nI_pred]
      exact w_Na_order hG hl hN hJ hq m (Nat.le_refl _) (fun q a b => by omega)
  · have e : n ≠ n2 := fun e => z (by rw [e])
    conv => whnf
    refine ⟨_, hN.1, ?_⟩
    conv => whnf
    refine ⟨_, hJ.1, ?_⟩
    conv => whnf
    refine ⟨⟨rfl, Nat.zero_le _, Nat.le_of_ble_eq_true rfl⟩, ?_⟩
    refine c_In_compareN hG hl (by omega) (by omega) ?_
    conv => whnf
    refine ⟨rfl, ?_, trivial⟩
    rcases Nat.lt_or_gt_of_ne e with h1 | h1
    · obtain ⟨m, rfl⟩ : ∃ m, n2 = m + 1 := ⟨n2 - 1, by omega⟩
      have hm : g2 m ≠ 0 := by rcases hz2 with q | q; omega; exact q
      rw [cmpN_lt (zv_lt_len (fun i _ => hN.2.2.2.2 i) hm (by omega))] at hq
      rw [cmpN_lt h1]
      exact hq
    · obtain ⟨m, rfl⟩ : ∃ m, n = m + 1 := ⟨n - 1, by omega⟩
      have hm : g m ≠ 0 := by rcases hz with q | q; omega; exact q
      rw [cmpN_gt (zv_lt_len (fun i _ => hJ.2.2.2.2 i) hm (by omega))] at hq
      rw [cmpN_gt h1]
      exact hq
end NC
end
section
/-! Natural: increment, timesSmall, overSmall -/
theorem zv_succ (b : Nat) (g : Nat → Nat) (n : Nat) : zv b g (n + 1) = zv b g n + g n * b ^ n := rfl
theorem Fg.set2 {B : zd_B} {h h1 : zd_H} {S : Nat → Prop} {a : Nat} {c : zd_C} (f : Fg B h h1 S 0) (ha : S a) : Fg B h (zd_set h1 a c) S 0 := by
  have := f.tr (Fg.set (h := h1) (B := B) (c := c) ha)
  simpa using this
theorem Fg.tr0 {B : zd_B} {h h1 h2 : zd_H} {S : Nat → Prop} (a : Fg B h h1 S 0) (b : Fg B h1 h2 S 0) : Fg B h h2 S 0 := by
  have := a.tr b
  simpa using this
section ND
variable {l : Launch} {B : zd_B} {h : zd_H} {Q : zd_O → zd_H → Prop}
/-- the loop of increment: all limbs below i were full, and are 0 -/
theorem w_Na_increment (hG : zd_G B) (hl : l.stackTraces = false) {k R n : Nat} {g0 : Nat → Nat} (hnR : n < R) (hz : n = 0 ∨ g0 (n - 1) ≠ 0)
    (hq : ∀ h' g' n', Fg B h h' (NS B k) 0 → Nt B h' k R g' n' → (n' = 0 ∨ g' (n' - 1) ≠ 0) → zv 1000000000 g' n' = zv 1000000000 g0 n + 1 → (n' = n ∨ n' = n + 1) → Q (.inl none) h') :
    ∀ (d i : Nat) (h1 : zd_H) (g : Nat → Nat), i + d = n → Fg B h h1 (NS B k) 0 → Nt B h1 k R g n → Rm h1 → (∀ j, i ≤ j → g j = g0 j) → zv 1000000000 g n + 1000000000 ^ i = zv 1000000000 g0 n + 1 → zd_W l B m_Na_increment 2 [some (.ref (zd_b0 B + k)), some (.int (nI i))] [] h1 Q := by
  intro d
  induction d with
  | zero =>
    intro i h1 g hd f hN hr hj hv
    have hi : i = n := by omega
    subst hi
    have r2 := hN.2.2.2.1
    refine zd_go (ok_Na_increment hG hl) [] 40 ?_
    conv => whnf
    refine ⟨_, hN.1, ?_⟩
    conv => whnf
    refine ⟨fun z => ?_, fun z => absurd (Int32.le_refl _) z⟩
    conv => whnf
    refine ⟨_, hN.1, ?_⟩
    conv => whnf
    refine ⟨fun z => ?_, fun z => absurd (Int32.le_refl _) z⟩
    conv => whnf
    refine ⟨_, hN.1, ?_⟩
    conv => whnf
    refine ⟨⟨_, hN.1⟩, ⟨rfl, Nat.zero_le _, Nat.le_of_ble_eq_true rfl⟩, ?_⟩
    rw [nI_1]
    refine c_Na_claim hG hl hN (by omega) hr (fun h2 a1 a2 a3 => ?_) (fun h2 a1 _ => by omega)
    conv => whnf
    refine ⟨_, a3.1, ?_⟩
    conv => whnf
    refine ⟨R, _, a3.2.1, vp_in_nI (by omega) (by omega), ?_⟩
    rw [nI_clamp (by omega)]
    conv => whnf
    refine ⟨hq _ (zu g i 1) (i + 1) ((f.tr0 a2).set2 (Or.inr rfl)) (a3.put (v := 1) (by omega)) (Or.inr (by show zu g i 1 (i + 1 - 1) ≠ 0; rw [Nat.add_sub_cancel, zu_s]; decide)) ?_ (Or.inr rfl), trivial⟩
    rw [zv_succ, zu_s, zv_zu_out (Nat.le_refl _)]
    omega
  | succ d ih =>
    intro i h1 g hd f hN hr hj hv
    have r2 := hN.2.2.2.1
    have hgi := hN.2.2.2.2 i
    refine zd_go (ok_Na_increment hG hl) [2] 40 ?_
    conv => whnf
    refine ⟨_, hN.1, ?_⟩
    conv => whnf
    refine ⟨fun z => absurd z (nI_ge (by omega) (by omega)), fun z => ?_⟩
    conv => whnf
    refine ⟨_, hN.1, ?_⟩
    conv => whnf
    refine ⟨R, _, Or.inl hN.2.1, vp_in_nI (by omega) (by omega), ?_⟩
    rw [nI_clamp (by omega)]
    conv => whnf
    refine ⟨fun z => ?_, fun z => ?_⟩
    · have z' : g i ≠ 999999999 := fun e => z (by show nI (g i) = _; rw [e]; rfl)
      conv => whnf
      refine ⟨_, hN.1, ?_⟩
      conv => whnf
      refine ⟨fun z => absurd z (nI_ge (by omega) (by omega)), fun z => ?_⟩
      conv => whnf
      refine ⟨_, hN.1, ?_⟩
      conv => whnf
      refine ⟨R, _, Or.inl hN.2.1, vp_in_nI (by omega) (by omega), ?_⟩
      rw [nI_clamp (by omega)]
      conv => whnf
      refine ⟨R, _, hN.2.1, vp_in_nI (by omega) (by omega), ?_⟩
      rw [nI_clamp (by omega), nI_1]
      conv => whnf
      refine ⟨hq _ (zu g i (g i + 1)) n (f.set2 (Or.inr rfl)) (hN.put (v := g i + 1) (by omega)) ?_ ?_ (Or.inl rfl), trivial⟩
      · rcases hz with hz | hz
        · omega
        · refine Or.inr ?_
          unfold zu
          split
          · omega
          · rw [hj (n - 1) (by omega)]; exact hz
      · have := zv_zu (b := 1000000000) (g := g) (n := n) (k := i) (v := g i + 1) (by omega)
        rw [Nat.add_mul, Nat.one_mul] at this
        omega
    · have z' : g i = 999999999 := (nI_eq (b := 999999999) (by omega) (by omega)).mp z
      conv => whnf
      refine ⟨_, hN.1, ?_⟩
      conv => whnf
      refine ⟨R, _, hN.2.1, vp_in_nI (by omega) (by omega), ?_⟩
      rw [nI_clamp (by omega)]
      conv => whnf
      refine ⟨?_, trivial⟩
      show zd_W l B m_Na_increment 2 [some (.ref (zd_b0 B + k)), some (.int (nI i + 1))] [] _ Q
      rw [nI_1]
      refine ih (i + 1) _ (zu g i 0) (by omega) (f.set2 (Or.inr rfl)) (hN.put (v := 0) (by omega)) hr (fun j hj2 => by rw [zu_n (by omega)]; exact hj j (by omega)) ?_
      have := zv_zu (b := 1000000000) (g := g) (n := n) (k := i) (v := 0) (by omega)
      rw [z'] at this
      rw [Nat.pow_succ]
      omega
theorem c_Na_increment (hG : zd_G B) (hl : l.stackTraces = false) {k R n : Nat} {g : Nat → Nat} (hN : Nt B h k R g n) (hr : Rm h) (hnR : n < R) (hz : n = 0 ∨ g (n - 1) ≠ 0)
    (hq : ∀ h' g' n', Fg B h h' (NS B k) 0 → Nt B h' k R g' n' → (n' = 0 ∨ g' (n' - 1) ≠ 0) → zv 1000000000 g' n' = zv 1000000000 g n + 1 → (n' = n ∨ n' = n + 1) → Q (.inl none) h') : zd_M l B m_Na_increment [.ref (zd_b0 B + k)] h Q := by
  refine zd_go (ok_Na_increment hG hl) [2] 40 ?_
  conv => whnf
  refine ⟨?_, trivial⟩
  exact w_Na_increment hG hl hnR hz hq n 0 h g (by omega) Fg.rf hN hr (fun j _ => rfl) rfl
/-- the loop of timesSmall -/
theorem w_Na_times (hG : zd_G B) (hl : l.stackTraces = false) {k R n m : Nat} {g0 : Nat → Nat} (hm : m < 1000000000) (hm1 : 1 ≤ m) (hnR : n < R)
    (hq : ∀ h' g' n', Fg B h h' (NS B k) 0 → Nt B h' k R g' n' → zv 1000000000 g' n' = zv 1000000000 g0 n * m → (n' = n ∨ (n' = n + 1 ∧ g' n ≠ 0)) → Q (.inl none) h') :
    ∀ (d i : Nat) (h1 : zd_H) (g : Nat → Nat) (c : Nat) (w : Option Value), i + d = n → Fg B h h1 (NS B k) 0 → Nt B h1 k R g n → Rm h1 → (∀ j, i ≤ j → g j = g0 j) → c < m → zv 1000000000 g i + c * 1000000000 ^ i = zv 1000000000 g0 i * m → zd_W l B m_Na_timesSmall 5 [some (.ref (zd_b0 B + k)), some (.int (nI m)), some (.long (lN c)), none, some (.int (nI i)), w, none] [] h1 Q := by
  intro d
  induction d with
  | zero =>
    intro i h1 g c w hd f hN hr hj hc hv
    have hi : i = n := by omega
    subst hi
    have r2 := hN.2.2.2.1
    refine zd_go (ok_Na_timesSmall hG hl) [] 50 ?_
    conv => whnf
    refine ⟨_, hN.1, ?_⟩
    conv => whnf
    refine ⟨fun z => ?_, fun z => absurd (Int32.le_refl _) z⟩
    conv => whnf
    refine ⟨fun z => ?_, fun z => ?_⟩
    · have z' : c = 0 := by
        have := (lg_cmp_le (lN c) 0).mp z
        have := (pk_lLE (a := c) (b := 0) (by omega) (by omega)).mp this
        omega
      conv => whnf
      refine ⟨hq _ g i f hN ?_ (Or.inl rfl), trivial⟩
      rw [z'] at hv
      omega
    · have z' : c ≠ 0 := fun e => z (by rw [e]; decide)
      conv => whnf
      refine ⟨_, hN.1, ?_⟩
      conv => whnf
      refine ⟨⟨_, hN.1⟩, ⟨rfl, Nat.zero_le _, Nat.le_of_ble_eq_true rfl⟩, ?_⟩
      rw [nI_1]
      refine c_Na_claim hG hl hN (by omega) hr (fun h2 a1 a2 a3 => ?_) (fun h2 a1 _ => by omega)
      conv => whnf
      refine ⟨_, a3.1, ?_⟩
      conv => whnf
      refine ⟨_, a3.1, ?_⟩
      conv => whnf
      refine ⟨R, _, a3.2.1, by rw [nI_pred]; exact vp_in_nI (by omega) (by omega), ?_⟩
      rw [nI_pred, nI_clamp (by omega), lN_i]
      conv => whnf
      refine ⟨hq _ (zu g i c) (i + 1) ((f.tr0 a2).set2 (Or.inr rfl)) (a3.put (v := c) (by omega)) ?_ (Or.inr ⟨rfl, by rw [zu_s]; exact z'⟩), trivial⟩
      rw [zv_succ, zu_s, zv_zu_out (Nat.le_refl _)]
      exact hv
  | succ d ih =>
    intro i h1 g c w hd f hN hr hj hc hv
    have r2 := hN.2.2.2.1
    have hgi := hN.2.2.2.2 i
    have hp : g i * m + c < 1000000000 * m := by
      have : (g i + 1) * m ≤ 1000000000 * m := Nat.mul_le_mul_right _ hgi
      rw [Nat.add_mul, Nat.one_mul] at this
      omega
    have hp2 : 1000000000 * m ≤ 1000000000 * 999999999 := Nat.mul_le_mul_left _ (by omega)
    refine zd_go (ok_Na_timesSmall hG hl) [5] 50 ?_
    conv => whnf
    refine ⟨_, hN.1, ?_⟩
    conv => whnf
    refine ⟨fun z => absurd z (nI_ge (by omega) (by omega)), fun z => ?_⟩
    conv => whnf
    refine ⟨_, hN.1, ?_⟩
    conv => whnf
    refine ⟨R, _, Or.inl hN.2.1, vp_in_nI (by omega) (by omega), ?_⟩
    rw [nI_clamp (by omega)]
    conv => whnf
    refine ⟨by decide, ?_⟩
    have e1 : (nI (g i)).toInt64 * (nI m).toInt64 + lN c = lN (g i * m + c) := by rw [nI_l (by omega), nI_l (by omega), lN_mul, lN_add]
    have e2 : lN (g i * m + c) / 1000000000 = lN ((g i * m + c) / 1000000000) := pk_lDiv (b := 1000000000) (by omega) (by omega) (by omega)
    rw [e1, e2]
    conv => whnf
    refine ⟨_, hN.1, ?_⟩
    conv => whnf
    refine ⟨R, _, hN.2.1, vp_in_nI (by omega) (by omega), ?_⟩
    have e3 : lN (g i * m + c) - lN ((g i * m + c) / 1000000000) * 1000000000 = lN ((g i * m + c) % 1000000000) := by
      rw [show (1000000000 : Int64) = lN 1000000000 from rfl, lN_mul, lN_sub (by omega)]
      congr 1
      omega
    rw [nI_clamp (by omega), e3, lN_i]
    conv => whnf
    refine ⟨?_, trivial⟩
    show zd_W l B m_Na_timesSmall 5 [some (.ref (zd_b0 B + k)), some (.int (nI m)), some (.long (lN ((g i * m + c) / 1000000000))), none, some (.int (nI i + 1)), some (.long (lN (g i * m + c))), none] [] _ Q
    rw [nI_1]
    have hc2 : (g i * m + c) / 1000000000 < m := by omega
    refine ih (i + 1) _ (zu g i ((g i * m + c) % 1000000000)) _ _ (by omega) (f.set2 (Or.inr rfl)) (hN.put (Nat.mod_lt _ (by decide))) hr (fun j hj2 => by rw [zu_n (by omega)]; exact hj j (by omega)) hc2 ?_
    rw [zv_succ, zu_s, zv_zu_out (Nat.le_refl _), zv_succ, ← hj i (Nat.le_refl _), Nat.add_mul, ← hv, Nat.pow_succ]
    have e4 := Nat.mod_add_div (g i * m + c) 1000000000
    generalize (g i * m + c) % 1000000000 = x at *
    generalize (g i * m + c) / 1000000000 = y at *
    generalize 1000000000 ^ i = p at *
    have e5 : (x + 1000000000 * y) * p = (g i * m + c) * p := by rw [e4]
    rw [Nat.add_mul, Nat.add_mul] at e5
    have e6 : y * (p * 1000000000) = 1000000000 * y * p := by rw [Nat.mul_comm p, ← Nat.mul_assoc, Nat.mul_comm y]
    have e7 : g i * p * m = g i * m * p := by rw [Nat.mul_assoc, Nat.mul_comm p, ← Nat.mul_assoc]
    omega
theorem c_Na_timesSmall (hG : zd_G B) (hl : l.stackTraces = false) {k R n m : Nat} {g : Nat → Nat} (hN : Nt B h k R g n) (hr : Rm h) (hm : m < 1000000000) (hm1 : 1 ≤ m) (hnR : n < R)
    (hq : ∀ h' g' n', Fg B h h' (NS B k) 0 → Nt B h' k R g' n' → zv 1000000000 g' n' = zv 1000000000 g n * m → (n' = n ∨ (n' = n + 1 ∧ g' n ≠ 0)) → Q (.inl none) h') : zd_M l B m_Na_timesSmall [.ref (zd_b0 B + k), .int (nI m)] h Q := by
  refine zd_go (ok_Na_timesSmall hG hl) [5] 50 ?_
  conv => whnf
  refine ⟨?_, trivial⟩
  exact w_Na_times hG hl hm hm1 hnR hq n 0 h g 0 none (by omega) Fg.rf hN hr (fun j _ => rfl) (by omega) (by simp [zv])
end ND
end
section
/-! Natural: overSmall, lowerBy -/
/-- pure: what the limbs from t on are -/
def zh (b : Nat) (g : Nat → Nat) (n t : Nat) : Nat := zv b (fun j => g (t + j)) (n - t)
theorem zh_0 (b : Nat) (g : Nat → Nat) (n : Nat) : zh b g n 0 = zv b g n := by
  unfold zh
  rw [Nat.sub_zero]
  exact zv_congr (fun i _ => by rw [Nat.zero_add])
theorem zh_n (b : Nat) (g : Nat → Nat) (n : Nat) : zh b g n n = 0 := by unfold zh; rw [Nat.sub_self]; rfl
theorem zh_step {b : Nat} {g : Nat → Nat} {n t : Nat} (h : t < n) : zh b g n t = g t + b * zh b g n (t + 1) := by
  unfold zh
  rw [show n - t = 1 + (n - (t + 1)) by omega, zv_split, Nat.pow_one]
  have e1 : zv b (fun j => g (t + j)) 1 = g t := by simp [zv]
  rw [e1]
  congr 2
  exact zv_congr (fun i _ => by rw [Nat.add_assoc])
theorem zh_congr {b : Nat} {g g' : Nat → Nat} {n t : Nat} (h : ∀ j, t ≤ j → g j = g' j) : zh b g n t = zh b g' n t := zv_congr (fun i _ => h _ (by omega))
/-- pure: limbs beyond n are 0 -/
def zm (g : Nat → Nat) (n : Nat) : Nat → Nat := fun j => if j < n then g j else 0
theorem zm_in {g : Nat → Nat} {n j : Nat} (h : j < n) : zm g n j = g j := if_pos h
theorem zm_out {g : Nat → Nat} {n j : Nat} (h : n ≤ j) : zm g n j = 0 := if_neg (by omega)
theorem zm_lt {g : Nat → Nat} {n j : Nat} (h : g j < 1000000000) : zm g n j < 1000000000 := by unfold zm; split; exact h; decide
theorem zv_zm (b : Nat) (g : Nat → Nat) (n d : Nat) : zv b (zm g n) (n + d) = zv b g n := by
  induction d with
  | zero => exact zv_congr (fun i hi => zm_in hi)
  | succ d ih =>
    show zv b (zm g n) (n + d) + zm g n (n + d) * b ^ (n + d) = _
    rw [ih, zm_out (by omega)]
    omega
section NE
variable {l : Launch} {B : zd_B} {h : zd_H} {Q : zd_O → zd_H → Prop}
theorem w_Na_over (hG : zd_G B) (hl : l.stackTraces = false) {k R n m : Nat} {g0 : Nat → Nat} (hm : m < 1000000000) (hm1 : 1 < m)
    (hq : ∀ h' g' n', Fg B h h' (NS B k) 0 → Nt B h' k R g' n' → (n' = 0 ∨ g' (n' - 1) ≠ 0) → zv 1000000000 g' n' = zv 1000000000 g0 n / m → n' ≤ n → Q (.inl none) h') :
    ∀ (t : Nat) (h1 : zd_H) (g : Nat → Nat) (r : Nat) (w : Option Value), t ≤ n → Fg B h h1 (NS B k) 0 → Nt B h1 k R g n → (∀ j, j < t → g j = g0 j) → r < m → zh 1000000000 g n t * m + r = zh 1000000000 g0 n t → zd_W l B m_Na_overSmall 16 [some (.ref (zd_b0 B + k)), some (.int (nI m)), some (.long (lN r)), none, some (.int (nI t - 1)), w, none] [] h1 Q := by
  intro t
  induction t with
  | zero =>
    intro h1 g r w ht f hN hj hr hv
    refine zd_go (ok_Na_overSmall hG hl) [] 50 ?_
    conv => whnf
    refine ⟨fun z => ?_, fun z => absurd (by decide) z⟩
    conv => whnf
    refine ⟨⟨_, hN.1⟩, ⟨rfl, Nat.zero_le _, Nat.le_of_ble_eq_true rfl⟩, ?_⟩
    refine c_Na_trim hG hl hN (fun n' h2 a1 a2 a3 a4 a5 => ?_)
    conv => whnf
    refine ⟨hq h2 g n' (f.tr0 a4) a5 a3 ?_ a1, trivial⟩
    rw [zh_0, zh_0] at hv
    rw [a2, ← hv, Nat.mul_comm, Nat.mul_add_div (by omega), Nat.div_eq_of_lt hr, Nat.add_zero]
  | succ t ih =>
    intro h1 g r w ht f hN hj hr hv
    have r1 := hN.2.2.1
    have r2 := hN.2.2.2.1
    have hgt := hN.2.2.2.2 t
    have hp : r * 1000000000 + g t < m * 1000000000 := by
      have : (r + 1) * 1000000000 ≤ m * 1000000000 := Nat.mul_le_mul_right _ hr
      omega
    have hdiv : (r * 1000000000 + g t) / m < 1000000000 := by
      rw [Nat.div_lt_iff_lt_mul (by omega)]
      omega
    rw [nI_pred]
    refine zd_go (ok_Na_overSmall hG hl) [16] 50 ?_
    conv => whnf
    refine ⟨fun z => absurd z (nI_pos (by omega)), fun z => ?_⟩
    conv => whnf
    refine ⟨_, hN.1, ?_⟩
    conv => whnf
    refine ⟨R, _, Or.inl hN.2.1, vp_in_nI (by omega) (by omega), ?_⟩
    rw [nI_clamp (by omega)]
    conv => whnf
    refine ⟨_, hN.1, ?_⟩
    conv => whnf
    have e0 : lN r * 1000000000 + (nI (g t)).toInt64 = lN (r * 1000000000 + g t) := by rw [nI_l (by omega), show (1000000000 : Int64) = lN 1000000000 from rfl, lN_mul, lN_add]
    have em : (nI m).toInt64 = lN m := nI_l (by omega)
    have hne : ¬ (nI m).toInt64 = 0 := by
      rw [em]
      intro q
      have := (pk_lEQ (a := m) (b := 0) (by omega) (by omega)).mp q
      omega
    refine ⟨hne, ?_⟩
    have e1 : lN (r * 1000000000 + g t) / lN m = lN ((r * 1000000000 + g t) / m) := pk_lDiv (by omega) (by omega) (by omega)
    have e2 : lN (r * 1000000000 + g t) - lN (r * 1000000000 + g t) / lN m * lN m = lN ((r * 1000000000 + g t) % m) := pk_lRem (by omega) (by omega) (by omega)
    rw [e0, em, e1]
    conv => whnf
    refine ⟨R, _, hN.2.1, vp_in_nI (by omega) (by omega), ?_⟩
    rw [nI_clamp (by omega), lN_i]
    conv => whnf
    refine ⟨hne, ?_⟩
    rw [em, e2]
    conv => whnf
    refine ⟨?_, trivial⟩
    show zd_W l B m_Na_overSmall 16 [some (.ref (zd_b0 B + k)), some (.int (nI m)), some (.long (lN ((r * 1000000000 + g t) % m))), none, some (.int (nI t + (-1))), some (.long (lN (r * 1000000000 + g t))), none] [] _ Q
    rw [show nI t + (-1) = nI t - 1 from (Int32.sub_eq_add_neg _ _).symm]
    refine ih _ (zu g t ((r * 1000000000 + g t) / m)) _ _ (by omega) (f.set2 (Or.inr rfl)) (hN.put hdiv) (fun j hj2 => by rw [zu_n (by omega)]; exact hj j (by omega)) (Nat.mod_lt _ (by omega)) ?_
    rw [zh_step (by omega), zh_step (g := g0) (by omega), zu_s, ← hv, ← hj t (by omega), zh_congr (g := zu g t ((r * 1000000000 + g t) / m)) (g' := g) (fun j hj2 => zu_n (by omega))]
    have e4 := Nat.div_add_mod (r * 1000000000 + g t) m
    generalize zh 1000000000 g n (t + 1) = H at *
    generalize (r * 1000000000 + g t) / m = x at *
    generalize (r * 1000000000 + g t) % m = y at *
    rw [Nat.add_mul, Nat.mul_add, Nat.mul_assoc, Nat.mul_comm x m]
    omega
theorem c_Na_overSmall (hG : zd_G B) (hl : l.stackTraces = false) {k R n m : Nat} {g : Nat → Nat} (hN : Nt B h k R g n) (hm : m < 1000000000) (hm1 : 1 ≤ m) (hz : n = 0 ∨ g (n - 1) ≠ 0)
    (hq : ∀ h' g' n', Fg B h h' (NS B k) 0 → Nt B h' k R g' n' → (n' = 0 ∨ g' (n' - 1) ≠ 0) → zv 1000000000 g' n' = zv 1000000000 g n / m → n' ≤ n → Q (.inl none) h') : zd_M l B m_Na_overSmall [.ref (zd_b0 B + k), .int (nI m)] h Q := by
  refine zd_go (ok_Na_overSmall hG hl) [16] 50 ?_
  conv => whnf
  refine ⟨fun z => ?_, fun z => ?_⟩
  · have z' : 1 < m := (nI_ltI (a := 1) (by omega) (by omega)).mp z
    conv => whnf
    refine ⟨_, hN.1, ?_⟩
    conv => whnf
    refine ⟨?_, trivial⟩
    exact w_Na_over hG hl hm z' hq n h g 0 none (Nat.le_refl _) Fg.rf hN (fun j _ => rfl) (by omega) (by rw [zh_n]; omega)
  · have z' : ¬ 1 < m := fun q => z ((nI_ltI (a := 1) (by omega) (by omega)).mpr q)
    have e : m = 1 := by omega
    conv => whnf
    exact ⟨hq h g n Fg.rf hN hz (by rw [e, Nat.div_one]) (Nat.le_refl _), trivial⟩
/-- lowerBy: behind the second limb -/
theorem w_Na_lower38 (hG : zd_G B) (hl : l.stackTraces = false) {k R n j : Nat} {g : Nat → Nat} (hN : Nt B h k R g n) {i br x : Nat} {w : Option Value} (hi : i < n) (hbr : br ≤ 1) (hx : x < 1000000000)
    (kk : ∀ (br' v : Nat) (w' : Option Value), br' ≤ 1 → v < 1000000000 → v + x + br = g i + br' * 1000000000 → zd_W l B m_Na_lowerBy 4 [some (.ref (zd_b0 B + k)), some (.ref (zd_b0 B + j)), some (.int (nI br')), some (.int (nI (i + 1))), w'] [] (zd_set h (zd_b0 B + k + 1) (.inr (.inl (0, R, upd (fun i => nI (g i)) i (nI v))))) Q) :
    zd_W l B m_Na_lowerBy 38 [some (.ref (zd_b0 B + k)), some (.ref (zd_b0 B + j)), some (.int (nI br)), some (.int (nI i)), w] [.int (nI x), .int (nI (g i) - nI br)] h Q := by
  have r1 := hN.2.2.1
  have r2 := hN.2.2.2.1
  have hgi := hN.2.2.2.2 i
  have e0 : nI (g i) - nI br - nI x = iI ((g i : Int) - br - x) := by rw [iI_nI, iI_nI, iI_nI, iI_sub, iI_sub]
  have c0 : ((0 : Int32) ≤ iI ((g i : Int) - br - x)) ↔ (0 : Int) ≤ (g i : Int) - br - x := iI_le (a := 0) ⟨by omega, by omega⟩ ⟨by omega, by omega⟩
  refine zd_go (ok_Na_lowerBy hG hl) [4] 50 ?_
  conv => whnf
  rw [e0]
  refine ⟨fun z => ?_, fun z => ?_⟩
  · have z' := c0.mp z
    conv => whnf
    refine ⟨_, hN.1, ?_⟩
    conv => whnf
    refine ⟨fun z => ?_, fun z2 => absurd z z2⟩
    conv => whnf
    refine ⟨R, _, hN.2.1, vp_in_nI (by omega) (by omega), ?_⟩
    rw [nI_clamp (by omega), show iI ((g i : Int) - br - x) = nI (g i - br - x) by rw [iI_nI]; congr 1; omega]
    conv => whnf
    refine ⟨?_, trivial⟩
    have := kk 0 (g i - br - x) (some (.int (nI (g i - br - x)))) (by omega) (by omega) (by omega)
    rw [← nI_1 i] at this
    exact this
  · have z' : ¬ (0 : Int) ≤ (g i : Int) - br - x := fun q => z (c0.mpr q)
    conv => whnf
    refine ⟨_, hN.1, ?_⟩
    conv => whnf
    refine ⟨fun z2 => absurd z2 z, fun z => ?_⟩
    conv => whnf
    refine ⟨R, _, hN.2.1, vp_in_nI (by omega) (by omega), ?_⟩
    rw [nI_clamp (by omega), show iI ((g i : Int) - br - x) + 1000000000 = nI (g i + 1000000000 - br - x) by rw [show (1000000000 : Int32) = iI 1000000000 from rfl, iI_add, iI_nI]; congr 1; omega]
    conv => whnf
    refine ⟨?_, trivial⟩
    have := kk 1 (g i + 1000000000 - br - x) (some (.int (iI ((g i : Int) - br - x)))) (by omega) (by omega) (by omega)
    rw [← nI_1 i] at this
    exact this
theorem w_Na_lower (hG : zd_G B) (hl : l.stackTraces = false) {k R n j R2 n2 : Nat} {g0 g2 : Nat → Nat} (hkj : k ≠ j) (hle : n2 ≤ n) (hVW : zv 1000000000 g2 n2 ≤ zv 1000000000 g0 n)
    (hq : ∀ h' g' n', Fg B h h' (NS B k) 0 → Nt B h' k R g' n' → (n' = 0 ∨ g' (n' - 1) ≠ 0) → zv 1000000000 g' n' = zv 1000000000 g0 n - zv 1000000000 g2 n2 → n' ≤ n → Q (.inl none) h') :
    ∀ (d i : Nat) (h1 : zd_H) (g : Nat → Nat) (br : Nat) (w : Option Value), i + d = n → Fg B h h1 (NS B k) 0 → Nt B h1 k R g n → Nt B h1 j R2 g2 n2 → (∀ q, i ≤ q → g q = g0 q) → br ≤ 1 → zv 1000000000 g i + zv 1000000000 (zm g2 n2) i = zv 1000000000 g0 i + br * 1000000000 ^ i → zd_W l B m_Na_lowerBy 4 [some (.ref (zd_b0 B + k)), some (.ref (zd_b0 B + j)), some (.int (nI br)), some (.int (nI i)), w] [] h1 Q := by
  intro d
  induction d with
  | zero =>
    intro i h1 g br w hd f hN hJ hj hbr hv
    have hi : i = n := by omega
    subst hi
    refine zd_go (ok_Na_lowerBy hG hl) [] 50 ?_
    conv => whnf
    refine ⟨_, hN.1, ?_⟩
    conv => whnf
    refine ⟨fun z => ?_, fun z => absurd (Int32.le_refl _) z⟩
    conv => whnf
    refine ⟨⟨_, hN.1⟩, ⟨rfl, Nat.zero_le _, Nat.le_of_ble_eq_true rfl⟩, ?_⟩
    refine c_Na_trim hG hl hN (fun n' h2 a1 a2 a3 a4 a5 => ?_)
    conv => whnf
    refine ⟨hq h2 g n' (f.tr0 a4) a5 a3 ?_ a1, trivial⟩
    have hw : zv 1000000000 (zm g2 n2) i = zv 1000000000 g2 n2 := by
      have := zv_zm 1000000000 g2 n2 (i - n2)
      rwa [show n2 + (i - n2) = i by omega] at this
    have hlt := zv_lt (b := 1000000000) (g := g) (n := i) (fun q _ => hN.2.2.2.2 q)
    rw [hw] at hv
    rw [a2]
    rcases (show br = 0 ∨ br = 1 by omega) with e | e
    · rw [e] at hv; omega
    · rw [e] at hv; omega
  | succ d ih =>
    intro i h1 g br w hd f hN hJ hj hbr hv
    have r1 := hN.2.2.1
    have r2 := hN.2.2.2.1
    have r3 := hJ.2.2.1
    have r4 := hJ.2.2.2.1
    have body : zd_W l B m_Na_lowerBy 38 [some (.ref (zd_b0 B + k)), some (.ref (zd_b0 B + j)), some (.int (nI br)), some (.int (nI i)), w] [.int (nI (zm g2 n2 i)), .int (nI (g i) - nI br)] h1 Q := by
      refine w_Na_lower38 hG hl hN (by omega) hbr (zm_lt (hJ.2.2.2.2 i)) (fun br' v w' b1 b2 b3 => ?_)
      refine ih (i + 1) _ (zu g i v) br' w' (by omega) (f.set2 (Or.inr rfl)) (hN.put b2) (hJ.kept (Fg.set (S := NS B k) (Or.inr rfl)) (hN.apart hJ hkj).1 (hN.apart hJ hkj).2) (fun q hq2 => by rw [zu_n (by omega)]; exact hj q (by omega)) b1 ?_
      rw [zv_succ, zu_s, zv_zu_out (Nat.le_refl _), zv_succ, zv_succ, ← hj i (Nat.le_refl _), Nat.pow_succ]
      have e5 : (v + zm g2 n2 i + br) * 1000000000 ^ i = (g i + br' * 1000000000) * 1000000000 ^ i := by rw [b3]
      rw [Nat.add_mul, Nat.add_mul, Nat.add_mul, Nat.mul_assoc br', Nat.mul_comm 1000000000 (1000000000 ^ i)] at e5
      omega
    refine zd_go (ok_Na_lowerBy hG hl) [4, 38] 50 ?_
    conv => whnf
    refine ⟨_, hN.1, ?_⟩
    conv => whnf
    refine ⟨fun z => absurd z (nI_ge (by omega) (by omega)), fun z => ?_⟩
    conv => whnf
    refine ⟨_, hN.1, ?_⟩
    conv => whnf
    refine ⟨R, _, Or.inl hN.2.1, vp_in_nI (by omega) (by omega), ?_⟩
    rw [nI_clamp (by omega)]
    conv => whnf
    refine ⟨_, hJ.1, ?_⟩
    conv => whnf
    refine ⟨fun z => ?_, fun z => ?_⟩
    · have z' : n2 ≤ i := (nI_leI (by omega) (by omega)).mp z
      rw [zm_out z'] at body
      conv => whnf
      exact ⟨body, trivial⟩
    · have z' : ¬ n2 ≤ i := fun q => z ((nI_leI (by omega) (by omega)).mpr q)
      rw [zm_in (by omega)] at body
      conv => whnf
      refine ⟨_, hJ.1, ?_⟩
      conv => whnf
      refine ⟨R2, _, Or.inl hJ.2.1, vp_in_nI (by omega) (by omega), ?_⟩
      rw [nI_clamp (by omega)]
      conv => whnf
      exact ⟨body, trivial⟩
theorem c_Na_lowerBy (hG : zd_G B) (hl : l.stackTraces = false) {k R n j R2 n2 : Nat} {g g2 : Nat → Nat} (hN : Nt B h k R g n) (hJ : Nt B h j R2 g2 n2) (hkj : k ≠ j) (hle : n2 ≤ n) (hVW : zv 1000000000 g2 n2 ≤ zv 1000000000 g n)
    (hq : ∀ h' g' n', Fg B h h' (NS B k) 0 → Nt B h' k R g' n' → (n' = 0 ∨ g' (n' - 1) ≠ 0) → zv 1000000000 g' n' = zv 1000000000 g n - zv 1000000000 g2 n2 → n' ≤ n → Q (.inl none) h') : zd_M l B m_Na_lowerBy [.ref (zd_b0 B + k), .ref (zd_b0 B + j)] h Q := by
  refine zd_go (ok_Na_lowerBy hG hl) [4] 50 ?_
  conv => whnf
  refine ⟨?_, trivial⟩
  exact w_Na_lower hG hl hkj hle hVW hq n 0 h g 0 none (by omega) Fg.rf hN hJ (fun q _ => rfl) (by omega) (by simp [zv])
end NE
end
section
/-! Natural: raiseBy, openDigits, setDigit -/
section NF
variable {l : Launch} {B : zd_B} {h : zd_H} {Q : zd_O → zd_H → Prop}
/-- raiseBy: behind the second limb: the sum is on the stack -/
theorem w_Na_raise79 (hG : zd_G B) (hl : l.stackTraces = false) {k R n j m b4 : Nat} {g : Nat → Nat} (hN : Nt B h k R g n) {i ca x y : Nat} {w : Option Value} (hi : i < n) (hca : ca ≤ 1) (hx : x < 1000000000) (hy : y < 1000000000)
    (kk : ∀ (ca' v : Nat) (w' : Option Value), ca' ≤ 1 → v < 1000000000 → v + ca' * 1000000000 = ca + x + y → zd_W l B m_Na_raiseBy 30 [some (.ref (zd_b0 B + k)), some (.ref (zd_b0 B + j)), some (.int (nI m)), some (.int (nI b4)), some (.int (nI ca')), some (.int (nI (i + 1))), w'] [] (zd_set h (zd_b0 B + k + 1) (.inr (.inl (0, R, upd (fun i => nI (g i)) i (nI v))))) Q) :
    zd_W l B m_Na_raiseBy 79 [some (.ref (zd_b0 B + k)), some (.ref (zd_b0 B + j)), some (.int (nI m)), some (.int (nI b4)), some (.int (nI ca)), some (.int (nI i)), w] [.int (nI y), .int (nI ca + nI x - 1000000000)] h Q := by
  have r1 := hN.2.2.1
  have r2 := hN.2.2.2.1
  have e0 : nI ca + nI x - 1000000000 + nI y = iI ((ca : Int) + x - 1000000000 + y) := by rw [iI_nI, iI_nI, iI_nI, show (1000000000 : Int32) = iI 1000000000 from rfl, iI_add, iI_sub, iI_add]
  have c0 : (iI ((ca : Int) + x - 1000000000 + y) < (0 : Int32)) ↔ (ca : Int) + x - 1000000000 + y < (0 : Int) := iI_lt (b := 0) ⟨by omega, by omega⟩ ⟨by omega, by omega⟩
  refine zd_go (ok_Na_raiseBy hG hl) [30] 50 ?_
  conv => whnf
  rw [e0]
  refine ⟨fun z => ?_, fun z => ?_⟩
  · have z' := c0.mp z
    conv => whnf
    refine ⟨_, hN.1, ?_⟩
    conv => whnf
    refine ⟨fun z => ?_, fun z2 => absurd z z2⟩
    conv => whnf
    refine ⟨R, _, hN.2.1, vp_in_nI (by omega) (by omega), ?_⟩
    rw [nI_clamp (by omega), show iI ((ca : Int) + x - 1000000000 + y) + 1000000000 = nI (ca + x + y) by rw [show (1000000000 : Int32) = iI 1000000000 from rfl, iI_add, iI_nI]; congr 1; omega]
    conv => whnf
    refine ⟨?_, trivial⟩
    have := kk 0 (ca + x + y) (some (.int (iI ((ca : Int) + x - 1000000000 + y)))) (by omega) (by omega) (by omega)
    rw [← nI_1 i] at this
    exact this
  · have z' : ¬ (ca : Int) + x - 1000000000 + y < (0 : Int) := fun q => z (c0.mpr q)
    conv => whnf
    refine ⟨_, hN.1, ?_⟩
    conv => whnf
    refine ⟨fun z2 => absurd z2 z, fun z => ?_⟩
    conv => whnf
    refine ⟨R, _, hN.2.1, vp_in_nI (by omega) (by omega), ?_⟩
    rw [nI_clamp (by omega), show iI ((ca : Int) + x - 1000000000 + y) = nI (ca + x + y - 1000000000) by rw [iI_nI]; congr 1; omega]
    conv => whnf
    refine ⟨?_, trivial⟩
    have := kk 1 (ca + x + y - 1000000000) (some (.int (nI (ca + x + y - 1000000000)))) (by omega) (by omega) (by omega)
    rw [← nI_1 i] at this
    exact this
theorem w_Na_raise (hG : zd_G B) (hl : l.stackTraces = false) {k R n j R2 n2 m : Nat} {g0 g2 : Nat → Nat} (hkj : k ≠ j) (hn : n ≤ m) (hn2 : n2 ≤ m) (hmR : m + 1 ≤ R)
    (hq : ∀ h' g' n', Fg B h h' (NS B k) 0 → Nt B h' k R g' n' → (n' = 0 ∨ g' (n' - 1) ≠ 0) → zv 1000000000 g' n' = zv 1000000000 g0 n + zv 1000000000 g2 n2 → n' ≤ m + 1 → Q (.inl none) h') :
    ∀ (d i : Nat) (h1 : zd_H) (g : Nat → Nat) (ca : Nat) (w : Option Value), i + d = m → Fg B h h1 (NS B k) 0 → Nt B h1 k R g (m + 1) → Nt B h1 j R2 g2 n2 → (∀ q, i ≤ q → g q = g0 q) → ca ≤ 1 → zv 1000000000 g i + ca * 1000000000 ^ i = zv 1000000000 (zm g0 n) i + zv 1000000000 (zm g2 n2) i → zd_W l B m_Na_raiseBy 30 [some (.ref (zd_b0 B + k)), some (.ref (zd_b0 B + j)), some (.int (nI m)), some (.int (nI n)), some (.int (nI ca)), some (.int (nI i)), w] [] h1 Q := by
  intro d
  induction d with
  | zero =>
    intro i h1 g ca w hd f hN hJ hj hca hv
    have hi : i = m := by omega
    subst hi
    have r2 := hN.2.2.2.1
    refine zd_go (ok_Na_raiseBy hG hl) [] 50 ?_
    conv => whnf
    refine ⟨fun z => ?_, fun z => absurd (Int32.le_refl _) z⟩
    conv => whnf
    refine ⟨_, hN.1, ?_⟩
    conv => whnf
    refine ⟨R, _, hN.2.1, vp_in_nI (by omega) (by omega), ?_⟩
    rw [nI_clamp (by omega)]
    conv => whnf
    have hN2 := hN.put (i := i) (v := ca) (by omega)
    refine ⟨⟨_, hN2.1⟩, ⟨rfl, Nat.zero_le _, Nat.le_of_ble_eq_true rfl⟩, ?_⟩
    refine c_Na_trim hG hl hN2 (fun n' h2 a1 a2 a3 a4 a5 => ?_)
    conv => whnf
    refine ⟨hq h2 _ n' ((f.set2 (Or.inr rfl)).tr0 a4) a5 a3 ?_ a1, trivial⟩
    have w1 : zv 1000000000 (zm g0 n) i = zv 1000000000 g0 n := by
      have := zv_zm 1000000000 g0 n (i - n)
      rwa [show n + (i - n) = i by omega] at this
    have w2 : zv 1000000000 (zm g2 n2) i = zv 1000000000 g2 n2 := by
      have := zv_zm 1000000000 g2 n2 (i - n2)
      rwa [show n2 + (i - n2) = i by omega] at this
    rw [a2, zv_succ, zu_s, zv_zu_out (Nat.le_refl _), hv, w1, w2]
  | succ d ih =>
    intro i h1 g ca w hd f hN hJ hj hca hv
    have r2 := hN.2.2.2.1
    have r3 := hJ.2.2.1
    have r4 := hJ.2.2.2.1
    have gi0 : zm g0 n i < 1000000000 := zm_lt (by rw [← hj i (Nat.le_refl _)]; exact hN.2.2.2.2 i)
    have body : zd_W l B m_Na_raiseBy 79 [some (.ref (zd_b0 B + k)), some (.ref (zd_b0 B + j)), some (.int (nI m)), some (.int (nI n)), some (.int (nI ca)), some (.int (nI i)), w] [.int (nI (zm g2 n2 i)), .int (nI ca + nI (zm g0 n i) - 1000000000)] h1 Q := by
      refine w_Na_raise79 hG hl hN (by omega) hca gi0 (zm_lt (hJ.2.2.2.2 i)) (fun ca' v w' b1 b2 b3 => ?_)
      refine ih (i + 1) _ (zu g i v) ca' w' (by omega) (f.set2 (Or.inr rfl)) (hN.put b2) (hJ.kept (Fg.set (S := NS B k) (Or.inr rfl)) (hN.apart hJ hkj).1 (hN.apart hJ hkj).2) (fun q hq2 => by rw [zu_n (by omega)]; exact hj q (by omega)) b1 ?_
      rw [zv_succ, zu_s, zv_zu_out (Nat.le_refl _), zv_succ, zv_succ, Nat.pow_succ]
      have e5 : (v + ca' * 1000000000) * 1000000000 ^ i = (ca + zm g0 n i + zm g2 n2 i) * 1000000000 ^ i := by rw [b3]
      rw [Nat.add_mul, Nat.add_mul, Nat.add_mul, Nat.mul_assoc ca', Nat.mul_comm 1000000000 (1000000000 ^ i)] at e5
      omega
    have mid : zd_W l B m_Na_raiseBy 55 [some (.ref (zd_b0 B + k)), some (.ref (zd_b0 B + j)), some (.int (nI m)), some (.int (nI n)), some (.int (nI ca)), some (.int (nI i)), w] [.int (nI (zm g0 n i)), .int (nI ca)] h1 Q := by
      refine zd_go (ok_Na_raiseBy hG hl) [79] 50 ?_
      conv => whnf
      refine ⟨_, hJ.1, ?_⟩
      conv => whnf
      refine ⟨fun z => ?_, fun z => ?_⟩
      · have z' : n2 ≤ i := (nI_leI (by omega) (by omega)).mp z
        rw [zm_out z'] at body
        conv => whnf
        exact ⟨body, trivial⟩
      · have z' : ¬ n2 ≤ i := fun q => z ((nI_leI (by omega) (by omega)).mpr q)
        rw [zm_in (g := g2) (by omega)] at body
        conv => whnf
        refine ⟨_, hJ.1, ?_⟩
        conv => whnf
        refine ⟨R2, _, Or.inl hJ.2.1, vp_in_nI (by omega) (by omega), ?_⟩
        rw [nI_clamp (by omega)]
        conv => whnf
        exact ⟨body, trivial⟩
    refine zd_go (ok_Na_raiseBy hG hl) [30, 55] 50 ?_
    conv => whnf
    refine ⟨fun z => absurd z (nI_ge (by omega) (by omega)), fun z => ?_⟩
    conv => whnf
    refine ⟨fun z => ?_, fun z => ?_⟩
    · have z' : n ≤ i := (nI_leI (by omega) (by omega)).mp z
      rw [zm_out z'] at mid
      conv => whnf
      exact ⟨mid, trivial⟩
    · have z' : ¬ n ≤ i := fun q => z ((nI_leI (by omega) (by omega)).mpr q)
      rw [zm_in (g := g0) (by omega), ← hj i (Nat.le_refl _)] at mid
      conv => whnf
      refine ⟨_, hN.1, ?_⟩
      conv => whnf
      refine ⟨R, _, Or.inl hN.2.1, vp_in_nI (by omega) (by omega), ?_⟩
      rw [nI_clamp (by omega)]
      conv => whnf
      exact ⟨mid, trivial⟩
theorem c_Na_raiseBy (hG : zd_G B) (hl : l.stackTraces = false) {k R n j R2 n2 : Nat} {g g2 : Nat → Nat} (hN : Nt B h k R g n) (hJ : Nt B h j R2 g2 n2) (hkj : k ≠ j) (hr : Rm h)
    (hq : ∀ h' g' n', (if n < n2 then n2 else n) + 1 ≤ R → Fg B h h' (NS B k) 0 → Nt B h' k R g' n' → (n' = 0 ∨ g' (n' - 1) ≠ 0) → zv 1000000000 g' n' = zv 1000000000 g n + zv 1000000000 g2 n2 → n' ≤ (if n < n2 then n2 else n) + 1 → Q (.inl none) h')
    (hth : ∀ h', R < (if n < n2 then n2 else n) + 1 → Fx B h h' E0 11 → Q (.inr (zd_b0 B + h.1, 11)) h') : zd_M l B m_Na_raiseBy [.ref (zd_b0 B + k), .ref (zd_b0 B + j)] h Q := by
  have r1 := hN.2.2.1
  have r2 := hN.2.2.2.1
  have r3 := hJ.2.2.1
  have r4 := hJ.2.2.2.1
  obtain ⟨m, em⟩ : ∃ m, m = (if n < n2 then n2 else n) := ⟨_, rfl⟩
  rw [← em] at hth
  have hm1 : n ≤ m := by rw [em]; split <;> omega
  have hm2 : n2 ≤ m := by rw [em]; split <;> omega
  have hm3 : m < 1000 := by rw [em]; split <;> omega
  refine zd_go (ok_Na_raiseBy hG hl) [30] 50 ?_
  conv => whnf
  refine ⟨_, hN.1, ?_⟩
  conv => whnf
  refine ⟨_, hJ.1, ?_⟩
  conv => whnf
  refine ⟨⟨rfl, Nat.zero_le _, Nat.le_of_ble_eq_true rfl⟩, ?_⟩
  refine c_Ma_max hG hl ?_
  have e1 : (if nI n < nI n2 then nI n2 else nI n) = nI m := by
    rw [em]
    by_cases hx : n < n2
    · rw [if_pos hx, if_pos ((nI_ltI (by omega) (by omega)).mpr hx)]
    · rw [if_neg hx, if_neg (fun q => hx ((nI_ltI (by omega) (by omega)).mp q))]
  rw [e1]
  conv => whnf
  refine ⟨_, hN.1, ?_⟩
  conv => whnf
  refine ⟨⟨_, hN.1⟩, ⟨rfl, Nat.zero_le _, Nat.le_of_ble_eq_true rfl⟩, ?_⟩
  rw [nI_1]
  refine c_Na_claim hG hl hN (by omega) hr (fun h1 a1 a2 a3 => ?_) (fun h1 a1 a2 => hth h1 a1 a2)
  conv => whnf
  refine ⟨?_, trivial⟩
  exact w_Na_raise hG hl hkj hm1 hm2 a1 (fun h' g' n' b1 b2 b3 b4 b5 => hq h' g' n' (by rw [← em]; exact a1) b1 b2 b3 b4 (by rw [← em]; exact b5)) m 0 h1 g 0 none (by omega) a2 a3 (hJ.kept a2 (hN.apart hJ hkj).1 (hN.apart hJ hkj).2) (fun q _ => rfl) (by omega) (by simp [zv])
/-- zeros written -/
theorem w_Na_open (hG : zd_G B) (hl : l.stackTraces = false) {k R n : Nat} {c1 : Int32}
    (hq : ∀ h' g', Fg B h h' (NS B k) 0 → Nt B h' k R g' n → (∀ i, i < n → g' i = 0) → Q (.inl none) h') :
    ∀ (d i : Nat) (h1 : zd_H) (g : Nat → Nat), i + d = n → Fg B h h1 (NS B k) 0 → Nt B h1 k R g n → (∀ q, q < i → g q = 0) → zd_W l B m_Na_openDigits 15 [some (.ref (zd_b0 B + k)), some (.int c1), some (.int (nI i))] [] h1 Q := by
  intro d
  induction d with
  | zero =>
    intro i h1 g hd f hN hj
    have hi : i = n := by omega
    subst hi
    refine zd_go (ok_Na_openDigits hG hl) [] 50 ?_
    conv => whnf
    refine ⟨_, hN.1, ?_⟩
    conv => whnf
    refine ⟨fun z => ?_, fun z => absurd (Int32.le_refl _) z⟩
    conv => whnf
    exact ⟨hq h1 g f hN hj, trivial⟩
  | succ d ih =>
    intro i h1 g hd f hN hj
    have r1 := hN.2.2.1
    have r2 := hN.2.2.2.1
    refine zd_go (ok_Na_openDigits hG hl) [15] 50 ?_
    conv => whnf
    refine ⟨_, hN.1, ?_⟩
    conv => whnf
    refine ⟨fun z => absurd z (nI_ge (by omega) (by omega)), fun z => ?_⟩
    conv => whnf
    refine ⟨_, hN.1, ?_⟩
    conv => whnf
    refine ⟨R, _, hN.2.1, vp_in_nI (by omega) (by omega), ?_⟩
    rw [nI_clamp (by omega)]
    conv => whnf
    refine ⟨?_, trivial⟩
    show zd_W l B m_Na_openDigits 15 [some (.ref (zd_b0 B + k)), some (.int c1), some (.int (nI i + 1))] [] _ Q
    rw [nI_1]
    refine ih (i + 1) _ (zu g i 0) (by omega) (f.set2 (Or.inr rfl)) (hN.put (v := 0) (by omega)) (fun q hq2 => ?_)
    unfold zu
    split
    · rfl
    · exact hj q (by omega)
theorem c_Na_openDigits (hG : zd_G B) (hl : l.stackTraces = false) {k R n c : Nat} {g : Nat → Nat} (hN : Nt B h k R g n) (hr : Rm h) (hc : (c + 8) / 9 ≤ R) (hc2 : c < 100000)
    (hq : ∀ h' g', Fg B h h' (NS B k) 0 → Nt B h' k R g' ((c + 8) / 9) → (∀ i, i < (c + 8) / 9 → g' i = 0) → Q (.inl none) h') : zd_M l B m_Na_openDigits [.ref (zd_b0 B + k), .int (nI c)] h Q := by
  have r2 := hN.2.2.2.1
  refine zd_go (ok_Na_openDigits hG hl) [15] 50 ?_
  conv => whnf
  refine ⟨by decide, ?_⟩
  have e1 : (nI c + 9 - 1) / 9 = nI ((c + 8) / 9) := by
    rw [show nI c + 9 = nI (c + 8 + 1) by rw [show (9 : Int32) = nI 9 from rfl, nI_add], nI_pred]
    exact pk_div (d := 9) (by omega) (by omega) (by omega)
  rw [e1]
  conv => whnf
  refine ⟨⟨_, hN.1⟩, ⟨rfl, Nat.zero_le _, Nat.le_of_ble_eq_true rfl⟩, ?_⟩
  refine c_Na_claim hG hl hN (by omega) hr (fun h1 a1 a2 a3 => ?_) (fun h1 a1 a2 => by omega)
  conv => whnf
  refine ⟨?_, trivial⟩
  exact w_Na_open hG hl hq ((c + 8) / 9) 0 h1 g (by omega) a2 a3 (fun q hq2 => by omega)
theorem c_Na_setDigit (hG : zd_G B) (hl : l.stackTraces = false) {k R n p d : Nat} {g : Nat → Nat} (hN : Nt B h k R g n) (hp : p / 9 < n) (hd : d < 10) (hlt : g (p / 9) + d * 10 ^ (p % 9) < 1000000000)
    (hq : ∀ h', Fg B h h' (NS B k) 0 → Nt B h' k R (zu g (p / 9) (g (p / 9) + d * 10 ^ (p % 9))) n → Q (.inl none) h') : zd_M l B m_Na_setDigit [.ref (zd_b0 B + k), .int (nI p), .int (nI d)] h Q := by
  have r1 := hN.2.2.1
  have r2 := hN.2.2.2.1
  have e9 : nI p / 9 = nI (p / 9) := pk_div (d := 9) (by omega) (by omega) (by omega)
  have r9 : nI p - nI p / 9 * 9 = nI (p % 9) := pk_rem (d := 9) (by omega) (by omega) (by omega)
  refine zd_go (ok_Na_setDigit hG hl) [] 50 ?_
  conv => whnf
  refine ⟨fun z => absurd z (nI_pos (by omega)), fun z => ?_⟩
  conv => whnf
  refine ⟨by decide, ?_⟩
  conv => whnf
  refine ⟨_, hN.1, ?_⟩
  rw [e9]
  conv => whnf
  refine ⟨fun z => absurd z (nI_ge (by omega) (by omega)), fun z => ?_⟩
  conv => whnf
  refine ⟨_, hN.1, ?_⟩
  conv => whnf
  refine ⟨by decide, ?_⟩
  rw [e9]
  conv => whnf
  refine ⟨R, _, Or.inl hN.2.1, vp_in_nI (by omega) (by omega), ?_⟩
  rw [nI_clamp (by omega)]
  conv => whnf
  refine ⟨by decide, ?_⟩
  conv => whnf
  refine ⟨10, _, Or.inr hG.2.2.2.2.1, by rw [r9]; exact vp_in_nI (by omega) (by omega), ?_⟩
  rw [r9, nI_clamp (by omega), show zd_tens (p % 9) = nI (10 ^ (p % 9)) from rfl]
  conv => whnf
  refine ⟨R, _, hN.2.1, vp_in_nI (by omega) (by omega), ?_⟩
  rw [nI_clamp (by omega), pk_mul, nI_add]
  conv => whnf
  exact ⟨hq _ (Fg.set (Or.inr rfl)) (hN.put hlt), trivial⟩
end NF
end
section
/-! Natural: becomeProduct -/
section NP
variable {l : Launch} {B : zd_B} {h : zd_H} {Q : zd_O → zd_H → Prop}
/-- the inner loop: one limb of a times all of b -/
theorem w_Na_prod61 (hG : zd_G B) (hl : l.stackTraces = false) {k R N ja Ra na jb Rb nb i : Nat} {ga gb go : Nat → Nat} (hka : k ≠ ja) (hkb : k ≠ jb) (hi : i < na) (hN' : na + nb = N)
    (kk : ∀ h' g', Fg B h h' (NS B k) 0 → Nt B h' k R g' N → Nt B h' ja Ra ga na → Nt B h' jb Rb gb nb → zv 1000000000 g' N = zv 1000000000 go N + ga i * zv 1000000000 gb nb * 1000000000 ^ i → (∀ q, i + nb < q → g' q = go q) → ∀ w1 w2 w3 w4 : Option Value, zd_W l B m_Na_becomeProduct 38 [some (.ref (zd_b0 B + k)), some (.ref (zd_b0 B + ja)), some (.ref (zd_b0 B + jb)), some (.int (nI (i + 1))), w1, none, w2, none, w3, w4, none] [] h' Q) (hgo : go (i + nb) = 0) :
    ∀ (d j : Nat) (h1 : zd_H) (g : Nat → Nat) (c : Nat) (w : Option Value), j + d = nb → Fg B h h1 (NS B k) 0 → Nt B h1 k R g N → Nt B h1 ja Ra ga na → Nt B h1 jb Rb gb nb → c < 1000000000 → (∀ q, i + j ≤ q → g q = go q) → zv 1000000000 g N + c * 1000000000 ^ (i + j) = zv 1000000000 go N + ga i * zv 1000000000 gb j * 1000000000 ^ i →
      zd_W l B m_Na_becomeProduct 61 [some (.ref (zd_b0 B + k)), some (.ref (zd_b0 B + ja)), some (.ref (zd_b0 B + jb)), some (.int (nI i)), some (.long (lN (ga i))), none, some (.long (lN c)), none, some (.int (nI j)), w, none] [] h1 Q := by
  intro d
  induction d with
  | zero =>
    intro j h1 g c w hd f hN hA hJ hc hj hv
    have hjn : j = nb := by omega
    subst hjn
    have r1 := hN.2.2.1
    have r2 := hN.2.2.2.1
    have r4 := hJ.2.2.2.1
    have r3 := hJ.2.2.1
    refine zd_go (ok_Na_becomeProduct hG hl) [38] 60 ?_
    conv => whnf
    refine ⟨_, hJ.1, ?_⟩
    conv => whnf
    refine ⟨fun z => ?_, fun z => absurd (Int32.le_refl _) z⟩
    conv => whnf
    refine ⟨_, hN.1, ?_⟩
    conv => whnf
    refine ⟨_, hJ.1, ?_⟩
    conv => whnf
    refine ⟨R, _, hN.2.1, by rw [nI_add]; exact vp_in_nI (by omega) (by omega), ?_⟩
    rw [nI_add, nI_clamp (by omega), lN_i]
    conv => whnf
    refine ⟨?_, trivial⟩
    have hg0 : g (i + j) = 0 := (hj (i + j) (Nat.le_refl _)).trans hgo
    have := kk _ (zu g (i + j) c) (f.set2 (Or.inr rfl)) (hN.put hc) (hA.kept (Fg.set (S := NS B k) (Or.inr rfl)) (hN.apart hA hka).1 (hN.apart hA hka).2) (hJ.kept (Fg.set (S := NS B k) (Or.inr rfl)) (hN.apart hJ hkb).1 (hN.apart hJ hkb).2) (by
      have e := zv_zu (b := 1000000000) (g := g) (n := N) (k := i + j) (v := c) (by omega)
      rw [hg0] at e
      omega) (fun q hq => by rw [zu_n (by omega)]; exact hj q (by omega)) (some (.long (lN (ga i)))) (some (.long (lN c))) (some (.int (nI j))) w
    rw [← nI_1 i] at this
    exact this
  | succ d ih =>
    intro j h1 g c w hd f hN hA hJ hc hj hv
    have r1 := hN.2.2.1
    have r2 := hN.2.2.2.1
    have r3 := hJ.2.2.1
    have r4 := hJ.2.2.2.1
    have r5 := hA.2.2.2.2 i
    have r6 := hJ.2.2.2.2 j
    have r7 := hN.2.2.2.2 (i + j)
    have hp1 : ga i * gb j ≤ 999999999 * 999999999 := Nat.mul_le_mul (by omega) (by omega)
    refine zd_go (ok_Na_becomeProduct hG hl) [61] 60 ?_
    conv => whnf
    refine ⟨_, hJ.1, ?_⟩
    conv => whnf
    refine ⟨fun z => absurd z (nI_ge (by omega) (by omega)), fun z => ?_⟩
    conv => whnf
    refine ⟨_, hJ.1, ?_⟩
    conv => whnf
    refine ⟨Rb, _, Or.inl hJ.2.1, vp_in_nI (by omega) (by omega), ?_⟩
    rw [nI_clamp (by omega)]
    conv => whnf
    refine ⟨_, hN.1, ?_⟩
    conv => whnf
    refine ⟨R, _, Or.inl hN.2.1, by rw [nI_add]; exact vp_in_nI (by omega) (by omega), ?_⟩
    rw [nI_add, nI_clamp (by omega)]
    have e1 : lN (ga i) * (nI (gb j)).toInt64 + (nI (g (i + j))).toInt64 + lN c = lN (ga i * gb j + g (i + j) + c) := by rw [nI_l (by omega), nI_l (by omega), lN_mul, lN_add, lN_add]
    have e2 : lN (ga i * gb j + g (i + j) + c) / 1000000000 = lN ((ga i * gb j + g (i + j) + c) / 1000000000) := pk_lDiv (b := 1000000000) (by omega) (by omega) (by omega)
    conv => whnf
    refine ⟨by decide, ?_⟩
    rw [e1, e2]
    conv => whnf
    refine ⟨_, hN.1, ?_⟩
    conv => whnf
    refine ⟨R, _, hN.2.1, by rw [nI_add]; exact vp_in_nI (by omega) (by omega), ?_⟩
    have e3 : lN (ga i * gb j + g (i + j) + c) - lN ((ga i * gb j + g (i + j) + c) / 1000000000) * 1000000000 = lN ((ga i * gb j + g (i + j) + c) % 1000000000) := by
      rw [show (1000000000 : Int64) = lN 1000000000 from rfl, lN_mul, lN_sub (by omega)]
      congr 1
      omega
    rw [nI_add, nI_clamp (by omega), e3, lN_i]
    conv => whnf
    refine ⟨?_, trivial⟩
    have hm : (ga i * gb j + g (i + j) + c) % 1000000000 < 1000000000 := Nat.mod_lt _ (by decide)
    have hd2 : (ga i * gb j + g (i + j) + c) / 1000000000 < 1000000000 := by omega
    have := ih (j + 1) _ (zu g (i + j) ((ga i * gb j + g (i + j) + c) % 1000000000)) ((ga i * gb j + g (i + j) + c) / 1000000000) (some (.long (lN (ga i * gb j + g (i + j) + c)))) (by omega) (f.set2 (Or.inr rfl)) (hN.put hm) (hA.kept (Fg.set (S := NS B k) (Or.inr rfl)) (hN.apart hA hka).1 (hN.apart hA hka).2) (hJ.kept (Fg.set (S := NS B k) (Or.inr rfl)) (hN.apart hJ hkb).1 (hN.apart hJ hkb).2) hd2 (fun q hq => by rw [zu_n (by omega)]; exact hj q (by omega)) (by
      have e := zv_zu (b := 1000000000) (g := g) (n := N) (k := i + j) (v := (ga i * gb j + g (i + j) + c) % 1000000000) (by omega)
      have e4 := Nat.mod_add_div (ga i * gb j + g (i + j) + c) 1000000000
      rw [zv_succ, show i + (j + 1) = i + j + 1 by omega, Nat.pow_succ]
      have e5 : ((ga i * gb j + g (i + j) + c) % 1000000000 + 1000000000 * ((ga i * gb j + g (i + j) + c) / 1000000000)) * 1000000000 ^ (i + j) = (ga i * gb j + g (i + j) + c) * 1000000000 ^ (i + j) := by rw [e4]
      generalize (ga i * gb j + g (i + j) + c) % 1000000000 = x at *
      generalize (ga i * gb j + g (i + j) + c) / 1000000000 = y at *
      have e6 : ga i * (zv 1000000000 gb j + gb j * 1000000000 ^ j) * 1000000000 ^ i = ga i * zv 1000000000 gb j * 1000000000 ^ i + ga i * gb j * 1000000000 ^ (i + j) := by
        rw [Nat.mul_add, Nat.add_mul, Nat.pow_add, ← Nat.mul_assoc, Nat.mul_assoc (ga i * gb j), Nat.mul_comm (1000000000 ^ j)]
      rw [e6]
      rw [Nat.add_mul, Nat.add_mul, Nat.add_mul] at e5
      generalize 1000000000 ^ (i + j) = P at *
      have e7 : y * (P * 1000000000) = 1000000000 * y * P := by rw [Nat.mul_comm P, ← Nat.mul_assoc, Nat.mul_comm y]
      omega)
    rw [← nI_1 j] at this
    exact this
/-- the outer loop -/
theorem w_Na_prod38 (hG : zd_G B) (hl : l.stackTraces = false) {k R N ja Ra na jb Rb nb : Nat} {ga gb : Nat → Nat} (hka : k ≠ ja) (hkb : k ≠ jb) (hN' : na + nb = N)
    (hq : ∀ h' g' n', Fg B h h' (NS B k) 0 → Nt B h' k R g' n' → (n' = 0 ∨ g' (n' - 1) ≠ 0) → zv 1000000000 g' n' = zv 1000000000 ga na * zv 1000000000 gb nb → n' ≤ N → Q (.inl none) h') :
    ∀ (d i : Nat) (h1 : zd_H) (g : Nat → Nat) (w1 w2 w3 w4 : Option Value), i + d = na → Fg B h h1 (NS B k) 0 → Nt B h1 k R g N → Nt B h1 ja Ra ga na → Nt B h1 jb Rb gb nb → (∀ q, i + nb ≤ q → q < N → g q = 0) → zv 1000000000 g N = zv 1000000000 ga i * zv 1000000000 gb nb →
      zd_W l B m_Na_becomeProduct 38 [some (.ref (zd_b0 B + k)), some (.ref (zd_b0 B + ja)), some (.ref (zd_b0 B + jb)), some (.int (nI i)), w1, none, w2, none, w3, w4, none] [] h1 Q := by
  intro d
  induction d with
  | zero =>
    intro i h1 g w1 w2 w3 w4 hd f hN hA hJ hz hv
    have hi : i = na := by omega
    subst hi
    refine zd_go (ok_Na_becomeProduct hG hl) [] 60 ?_
    conv => whnf
    refine ⟨_, hA.1, ?_⟩
    conv => whnf
    refine ⟨fun z => ?_, fun z => absurd (Int32.le_refl _) z⟩
    conv => whnf
    refine ⟨⟨_, hN.1⟩, ⟨rfl, Nat.zero_le _, Nat.le_of_ble_eq_true rfl⟩, ?_⟩
    refine c_Na_trim hG hl hN (fun n' h2 a1 a2 a3 a4 a5 => ?_)
    conv => whnf
    exact ⟨hq h2 g n' (f.tr0 a4) a5 a3 (by rw [a2, hv]) a1, trivial⟩
  | succ d ih =>
    intro i h1 g w1 w2 w3 w4 hd f hN hA hJ hz hv
    have r3 := hA.2.2.1
    have r4 := hA.2.2.2.1
    have r5 := hA.2.2.2.2 i
    have hgo : g (i + nb) = 0 := hz (i + nb) (Nat.le_refl _) (by omega)
    refine zd_go (ok_Na_becomeProduct hG hl) [38, 61] 60 ?_
    conv => whnf
    refine ⟨_, hA.1, ?_⟩
    conv => whnf
    refine ⟨fun z => absurd z (nI_ge (by omega) (by omega)), fun z => ?_⟩
    conv => whnf
    refine ⟨_, hA.1, ?_⟩
    conv => whnf
    refine ⟨Ra, _, Or.inl hA.2.1, vp_in_nI (by omega) (by omega), ?_⟩
    rw [nI_clamp (by omega)]
    conv => whnf
    refine ⟨?_, trivial⟩
    have := w_Na_prod61 (h := h1) hG hl (k := k) (R := R) (Ra := Ra) (Rb := Rb) (go := g) hka hkb (i := i) (by omega) hN' (fun h2 g2 b1 b2 b3 b4 b5 b6 x1 x2 x3 x4 => ih (i + 1) h2 g2 x1 x2 x3 x4 (by omega) (f.tr0 b1) b2 b3 b4 (fun q hq1 hq2 => by rw [b6 q (by omega)]; exact hz q (by omega) hq2) (by
      rw [b5, hv, zv_succ, Nat.add_mul]
      congr 1
      rw [Nat.mul_assoc, Nat.mul_comm (zv 1000000000 gb nb), ← Nat.mul_assoc])) hgo nb 0 h1 g 0 w4 (by omega) Fg.rf hN hA hJ (by decide) (fun q _ => rfl) (by simp [zv])
    rw [← nI_l (by omega : ga i < 2 ^ 31)] at this
    exact this
/-- the zeros -/
theorem w_Na_prod15 (hG : zd_G B) (hl : l.stackTraces = false) {k R N ja Ra na jb Rb nb : Nat} {ga gb : Nat → Nat} (hka : k ≠ ja) (hkb : k ≠ jb) (hN' : na + nb = N)
    (hq : ∀ h' g' n', Fg B h h' (NS B k) 0 → Nt B h' k R g' n' → (n' = 0 ∨ g' (n' - 1) ≠ 0) → zv 1000000000 g' n' = zv 1000000000 ga na * zv 1000000000 gb nb → n' ≤ N → Q (.inl none) h') :
    ∀ (d i : Nat) (h1 : zd_H) (g : Nat → Nat), i + d = N → Fg B h h1 (NS B k) 0 → Nt B h1 k R g N → Nt B h1 ja Ra ga na → Nt B h1 jb Rb gb nb → (∀ q, q < i → g q = 0) →
      zd_W l B m_Na_becomeProduct 15 [some (.ref (zd_b0 B + k)), some (.ref (zd_b0 B + ja)), some (.ref (zd_b0 B + jb)), some (.int (nI i)), none, none, none, none, none, none, none] [] h1 Q := by
  intro d
  induction d with
  | zero =>
    intro i h1 g hd f hN hA hJ hz
    have hi : i = N := by omega
    subst hi
    refine zd_go (ok_Na_becomeProduct hG hl) [38] 60 ?_
    conv => whnf
    refine ⟨_, hN.1, ?_⟩
    conv => whnf
    refine ⟨fun z => ?_, fun z => absurd (Int32.le_refl _) z⟩
    conv => whnf
    refine ⟨?_, trivial⟩
    exact w_Na_prod38 hG hl hka hkb hN' hq na 0 h1 g none none none none (by omega) f hN hA hJ (fun q _ hq2 => hz q hq2) (by rw [zv_zero (fun q hq2 => hz q hq2)]; simp [zv])
  | succ d ih =>
    intro i h1 g hd f hN hA hJ hz
    have r1 := hN.2.2.1
    have r2 := hN.2.2.2.1
    refine zd_go (ok_Na_becomeProduct hG hl) [15] 60 ?_
    conv => whnf
    refine ⟨_, hN.1, ?_⟩
    conv => whnf
    refine ⟨fun z => absurd z (nI_ge (by omega) (by omega)), fun z => ?_⟩
    conv => whnf
    refine ⟨_, hN.1, ?_⟩
    conv => whnf
    refine ⟨R, _, hN.2.1, vp_in_nI (by omega) (by omega), ?_⟩
    rw [nI_clamp (by omega)]
    conv => whnf
    refine ⟨?_, trivial⟩
    have := ih (i + 1) _ (zu g i 0) (by omega) (f.set2 (Or.inr rfl)) (hN.put (v := 0) (by omega)) (hA.kept (Fg.set (S := NS B k) (Or.inr rfl)) (hN.apart hA hka).1 (hN.apart hA hka).2) (hJ.kept (Fg.set (S := NS B k) (Or.inr rfl)) (hN.apart hJ hkb).1 (hN.apart hJ hkb).2) (fun q hq2 => by
      unfold zu
      split
      · rfl
      · exact hz q (by omega))
    rw [← nI_1 i] at this
    exact this
theorem c_Na_becomeProduct (hG : zd_G B) (hl : l.stackTraces = false) {k R n ja Ra na jb Rb nb : Nat} {g ga gb : Nat → Nat} (hN : Nt B h k R g n) (hA : Nt B h ja Ra ga na) (hJ : Nt B h jb Rb gb nb) (hka : k ≠ ja) (hkb : k ≠ jb) (hr : Rm h) (hs : na + nb ≤ R)
    (hq : ∀ h' g' n', Fg B h h' (NS B k) 0 → Nt B h' k R g' n' → (n' = 0 ∨ g' (n' - 1) ≠ 0) → zv 1000000000 g' n' = zv 1000000000 ga na * zv 1000000000 gb nb → n' ≤ na + nb → Q (.inl none) h') : zd_M l B m_Na_becomeProduct [.ref (zd_b0 B + k), .ref (zd_b0 B + ja), .ref (zd_b0 B + jb)] h Q := by
  have r2 := hN.2.2.2.1
  refine zd_go (ok_Na_becomeProduct hG hl) [15] 60 ?_
  conv => whnf
  refine ⟨_, hA.1, ?_⟩
  conv => whnf
  refine ⟨_, hJ.1, ?_⟩
  conv => whnf
  refine ⟨⟨_, hN.1⟩, ⟨rfl, Nat.zero_le _, Nat.le_of_ble_eq_true rfl⟩, ?_⟩
  rw [nI_add]
  refine c_Na_claim hG hl hN (by omega) hr (fun h1 a1 a2 a3 => ?_) (fun h1 a1 a2 => by omega)
  conv => whnf
  refine ⟨?_, trivial⟩
  exact w_Na_prod15 hG hl hka hkb rfl hq (na + nb) 0 h1 g (by omega) a2 a3 (hA.kept a2 (hN.apart hA hka).1 (hN.apart hA hka).2) (hJ.kept a2 (hN.apart hJ hkb).1 (hN.apart hJ hkb).2) (fun q hq2 => by omega)
end NP
end
section
/-! Natural: moveDown -/
/-- pure: shifting down -/
theorem zs_down {g g0 : Nat → Nat} {w i n low high v : Nat} (hb : low * high = 1000000000) (hv : v = g0 (w + i) / low + zm g0 n (w + i + 1) % low * high) (hin : w + i < n)
    (h : zv 1000000000 g i * low + g0 w % low = zv 1000000000 (fun j => g0 (w + j)) i + zm g0 n (w + i) % low * 1000000000 ^ i) :
    (zv 1000000000 g i + v * 1000000000 ^ i) * low + g0 w % low = zv 1000000000 (fun j => g0 (w + j)) i + g0 (w + i) * 1000000000 ^ i + zm g0 n (w + i + 1) % low * (1000000000 ^ i * 1000000000) := by
  rw [zm_in hin] at h
  have e1 := Nat.div_add_mod (g0 (w + i)) low
  generalize g0 (w + i) = x at *
  generalize zm g0 n (w + i + 1) % low = y at *
  generalize zv 1000000000 (fun j => g0 (w + j)) i = Z at *
  generalize zv 1000000000 g i = G at *
  generalize g0 w % low = c at *
  generalize 1000000000 ^ i = P at *
  have e2 : v * P * low = (low * (x / low)) * P + y * (P * 1000000000) := by
    rw [hv, Nat.add_mul, Nat.add_mul]
    have a1 : x / low * P * low = low * (x / low) * P := by rw [Nat.mul_assoc, Nat.mul_comm P low, ← Nat.mul_assoc, Nat.mul_comm (x / low)]
    have a2 : y * high * P * low = y * (P * 1000000000) := by rw [← hb]; simp [Nat.mul_assoc, Nat.mul_comm, Nat.mul_left_comm]
    rw [a1, a2]
  rw [Nat.add_mul, e2]
  have e3 : x * P = low * (x / low) * P + x % low * P := by rw [← Nat.add_mul, e1]
  omega
theorem limb_down {x a low high : Nat} (hb : low * high = 1000000000) (hl : 0 < low) (hx : x < 1000000000) : x / low + a % low * high < 1000000000 := by
  have h1 : x / low < high := by
    rw [Nat.div_lt_iff_lt_mul hl, Nat.mul_comm, hb]
    exact hx
  have h2 : (a % low + 1) * high ≤ low * high := Nat.mul_le_mul_right _ (Nat.mod_lt _ hl)
  rw [Nat.add_mul, Nat.one_mul] at h2
  omega
theorem pow_hl {r : Nat} (h : r ≤ 9) : (10 : Nat) ^ r * 10 ^ (9 - r) = 1000000000 := by rw [← Nat.pow_add, show r + (9 - r) = 9 by omega]
section NG
variable {l : Launch} {B : zd_B} {h : zd_H} {Q : zd_O → zd_H → Prop}
/-- the second loop of moveDown -/
theorem w_Na_down93 (hG : zd_G B) (hl : l.stackTraces = false) {k R n w low high lost : Nat} {p : Int32} {g0 : Nat → Nat} (hb : low * high = 1000000000) (hl0 : 0 < low) (hl1 : low ≤ 1000000000) (hw : w < n) (hlost : lost ≤ 1)
    (hq : ∀ h' g' n', Fg B h h' (NS B k) 0 → Nt B h' k R g' n' → (n' = 0 ∨ g' (n' - 1) ≠ 0) → zv 1000000000 g' n' = zv 1000000000 (fun j => g0 (w + j)) (n - w) / low → n' ≤ n - w → Q (.inl (some (.int (nI lost)))) h') :
    ∀ (d i : Nat) (h1 : zd_H) (g : Nat → Nat) (w7 : Option Value), w + i + d = n → Fg B h h1 (NS B k) 0 → Nt B h1 k R g n → (∀ q, w + i ≤ q → g q = g0 q) → zv 1000000000 g i * low + g0 w % low = zv 1000000000 (fun j => g0 (w + j)) i + zm g0 n (w + i) % low * 1000000000 ^ i →
      zd_W l B m_Na_moveDown 93 [some (.ref (zd_b0 B + k)), some (.int p), some (.int (nI w)), some (.int (nI low)), some (.int (nI high)), some (.int (nI lost)), some (.int (nI (w + i))), w7] [] h1 Q := by
  have hh1 : high ≤ 1000000000 := by rw [← hb]; exact Nat.le_mul_of_pos_left _ hl0
  intro d
  induction d with
  | zero =>
    intro i h1 g w7 hd f hN hj hv
    have r1 := hN.2.2.1
    have r2 := hN.2.2.2.1
    have hi : i = n - w := by omega
    refine zd_go (ok_Na_moveDown hG hl) [] 60 ?_
    conv => whnf
    refine ⟨_, hN.1, ?_⟩
    conv => whnf
    refine ⟨fun z => ?_, fun z => absurd (nI_le (by omega) (by omega)) z⟩
    conv => whnf
    refine ⟨_, hN.1, ?_⟩
    conv => whnf
    refine ⟨_, hN.1, Nat.lt_succ_self 1, ⟨rfl, rfl⟩, ?_⟩
    rw [pk_sub (by omega)]
    conv => whnf
    have hN2 := hN.size (n' := n - w) (by omega)
    refine ⟨⟨_, hN2.1⟩, ⟨rfl, Nat.zero_le _, Nat.le_of_ble_eq_true rfl⟩, ?_⟩
    refine c_Na_trim hG hl hN2 (fun n' h2 a1 a2 a3 a4 a5 => ?_)
    conv => whnf
    refine ⟨?_, ?_, trivial⟩
    · rcases (show lost = 0 ∨ lost = 1 by omega) with e | e <;> rw [e] <;> rfl
    · refine hq h2 g n' ((f.set2 (Or.inl rfl)).tr0 a4) a5 a3 ?_ a1
      rw [a2, ← hi]
      rw [zm_out (by omega)] at hv
      rw [Nat.zero_mod, Nat.zero_mul, Nat.add_zero] at hv
      rw [← hv, Nat.mul_comm, Nat.mul_add_div hl0, Nat.div_eq_of_lt (Nat.mod_lt _ hl0), Nat.add_zero]
  | succ d ih =>
    intro i h1 g w7 hd f hN hj hv
    have r1 := hN.2.2.1
    have r2 := hN.2.2.2.1
    have hgi := hN.2.2.2.2 (w + i)
    have body : zd_W l B m_Na_moveDown 126 [some (.ref (zd_b0 B + k)), some (.int p), some (.int (nI w)), some (.int (nI low)), some (.int (nI high)), some (.int (nI lost)), some (.int (nI (w + i))), w7] [.int (nI (zm g0 n (w + i + 1)))] h1 Q := by
      have ha : zm g0 n (w + i + 1) < 1000000000 := zm_lt (by rw [← hj (w + i + 1) (by omega)]; exact hN.2.2.2.2 _)
      have hlim := limb_down (x := g (w + i)) (a := zm g0 n (w + i + 1)) hb hl0 hgi
      have hmod : zm g0 n (w + i + 1) % low < low := Nat.mod_lt _ hl0
      refine zd_go (ok_Na_moveDown hG hl) [93] 60 ?_
      conv => whnf
      refine ⟨_, hN.1, ?_⟩
      conv => whnf
      refine ⟨_, hN.1, ?_⟩
      conv => whnf
      refine ⟨R, _, Or.inl hN.2.1, vp_in_nI (by omega) (by omega), ?_⟩
      rw [nI_clamp (by omega)]
      conv => whnf
      refine ⟨nI_ne0 hl0 (by omega), ?_⟩
      conv => whnf
      refine ⟨nI_ne0 hl0 (by omega), ?_⟩
      conv => whnf
      refine ⟨R, _, hN.2.1, by rw [pk_sub (by omega)]; exact vp_in_nI (by omega) (by omega), ?_⟩
      rw [pk_sub (by omega), nI_clamp (by omega), pk_div (by omega) hl0 (by omega), pk_rem (by omega) hl0 (by omega), pk_mul, nI_add]
      conv => whnf
      refine ⟨?_, trivial⟩
      have := ih (i + 1) _ (zu g i (g (w + i) / low + zm g0 n (w + i + 1) % low * high)) (some (.int (nI (zm g0 n (w + i + 1))))) (by omega) (f.set2 (Or.inr rfl)) (hN.put (i := i) hlim) (fun q hq2 => by rw [zu_n (by omega)]; exact hj q (by omega)) (by
        rw [zv_succ, zu_s, zv_zu_out (Nat.le_refl _), zv_succ, hj (w + i) (Nat.le_refl _), Nat.pow_succ, show w + (i + 1) = w + i + 1 by omega]
        exact zs_down hb rfl (by omega) hv)
      rw [show w + (i + 1) = (w + i) + 1 by omega, ← nI_1 (w + i)] at this
      rw [show w + i - w = i by omega]
      exact this
    refine zd_go (ok_Na_moveDown hG hl) [93, 126] 60 ?_
    conv => whnf
    refine ⟨_, hN.1, ?_⟩
    conv => whnf
    refine ⟨fun z => absurd z (nI_ge (by omega) (by omega)), fun z => ?_⟩
    conv => whnf
    refine ⟨_, hN.1, ?_⟩
    conv => whnf
    refine ⟨fun z => ?_, fun z => ?_⟩
    · rw [nI_1] at z
      have z' : n ≤ w + i + 1 := (nI_leI (by omega) (by omega)).mp z
      rw [zm_out z'] at body
      conv => whnf
      exact ⟨body, trivial⟩
    · rw [nI_1] at z
      have z' : ¬ n ≤ w + i + 1 := fun q => z ((nI_leI (by omega) (by omega)).mpr q)
      rw [zm_in (by omega), ← hj (w + i + 1) (by omega)] at body
      conv => whnf
      refine ⟨_, hN.1, ?_⟩
      conv => whnf
      refine ⟨R, _, Or.inl hN.2.1, by rw [nI_1]; exact vp_in_nI (by omega) (by omega), ?_⟩
      rw [nI_1, nI_clamp (by omega)]
      conv => whnf
      exact ⟨body, trivial⟩
/-- the first loop: was anything lost -/
theorem w_Na_down56 (hG : zd_G B) (hl : l.stackTraces = false) {k R n w : Nat} {p lowv highv : Int32} {g : Nat → Nat} {P0 : Prop} (hN : Nt B h k R g n) (hw : w < n)
    (kk : ∀ lost, lost ≤ 1 → (lost = 1 ↔ (P0 ∨ ∃ q, q < w ∧ g q ≠ 0)) → ∀ w6, zd_W l B m_Na_moveDown 90 [some (.ref (zd_b0 B + k)), some (.int p), some (.int (nI w)), some (.int lowv), some (.int highv), some (.int (nI lost)), some (.int w6), none] [] h Q) :
    ∀ (d i lost : Nat), i + d = w → lost ≤ 1 → (lost = 1 ↔ (P0 ∨ ∃ q, q < i ∧ g q ≠ 0)) → zd_W l B m_Na_moveDown 56 [some (.ref (zd_b0 B + k)), some (.int p), some (.int (nI w)), some (.int lowv), some (.int highv), some (.int (nI lost)), some (.int (nI i)), none] [] h Q := by
  have r1 := hN.2.2.1
  have r2 := hN.2.2.2.1
  intro d
  induction d with
  | zero =>
    intro i lost hd hlo hiff
    have hi : i = w := by omega
    subst hi
    refine zd_go (ok_Na_moveDown hG hl) [90] 60 ?_
    conv => whnf
    refine ⟨fun z => ?_, fun z => absurd (Int32.le_refl _) z⟩
    conv => whnf
    exact ⟨kk lost hlo hiff (nI i), trivial⟩
  | succ d ih =>
    intro i lost hd hlo hiff
    have hgi := hN.2.2.2.2 i
    refine zd_go (ok_Na_moveDown hG hl) [56, 90] 60 ?_
    conv => whnf
    refine ⟨fun z => absurd z (nI_ge (by omega) (by omega)), fun z => ?_⟩
    conv => whnf
    refine ⟨fun z => ?_, fun z => ?_⟩
    · have hl1 : lost = 1 := by
        rcases (show lost = 0 ∨ lost = 1 by omega) with e | e
        · exact absurd (by rw [e]; exact nI_0) z
        · exact e
      conv => whnf
      refine ⟨kk lost hlo ⟨fun _ => ?_, fun _ => hl1⟩ (nI i), trivial⟩
      rcases hiff.mp hl1 with q | ⟨q, q1, q2⟩
      · exact Or.inl q
      · exact Or.inr ⟨q, by omega, q2⟩
    · have hl0 : lost = 0 := (nI_eq (by omega) (by omega)).mp (z.trans nI_0.symm)
      have hno : ¬ (P0 ∨ ∃ q, q < i ∧ g q ≠ 0) := fun q => by have := hiff.mpr q; omega
      conv => whnf
      refine ⟨_, hN.1, ?_⟩
      conv => whnf
      refine ⟨R, _, Or.inl hN.2.1, vp_in_nI (by omega) (by omega), ?_⟩
      rw [nI_clamp (by omega)]
      conv => whnf
      refine ⟨fun z => ?_, fun z => ?_⟩
      · have z' : g i = 0 := (nI_eq (by omega) (by omega)).mp (z.trans nI_0.symm)
        conv => whnf
        refine ⟨?_, trivial⟩
        have := ih (i + 1) 0 (by omega) (by omega) ⟨fun q => by omega, fun q => by
          exfalso
          rcases q with q | ⟨q, q1, q2⟩
          · exact hno (Or.inl q)
          · by_cases e : q = i
            · rw [e] at q2; exact q2 z'
            · exact hno (Or.inr ⟨q, by omega, q2⟩)⟩
        rw [← nI_1 i] at this
        exact this
      · have z' : g i ≠ 0 := fun e => z (by show nI (g i) = 0; rw [e]; exact nI_0)
        conv => whnf
        refine ⟨?_, trivial⟩
        have := ih (i + 1) 1 (by omega) (by omega) ⟨fun _ => Or.inr ⟨i, by omega, z'⟩, fun _ => rfl⟩
        rw [← nI_1 i] at this
        exact this
end NG
end
section
/-! Natural: moveDown, entry -/
theorem zv_eq0 {b : Nat} (hb : 0 < b) {g : Nat → Nat} {n : Nat} (h : zv b g n = 0) : ∀ i, i < n → g i = 0 := by
  induction n with
  | zero => intro i hi; omega
  | succ n ih =>
    rw [zv_succ] at h
    intro i hi
    by_cases e : i = n
    · have h1 : g n * b ^ n = 0 := by omega
      have h2 : 0 < b ^ n := Nat.pow_pos hb
      rw [e]
      exact (Nat.mul_eq_zero.mp h1).elim id (fun q => by omega)
    · exact ih (by omega) i (by omega)
theorem zv_pos {g : Nat → Nat} {n : Nat} (hn : 0 < n) (hz : n = 0 ∨ g (n - 1) ≠ 0) : zv 1000000000 g n ≠ 0 := fun e => by
  have := zv_eq0 (by decide) e (n - 1) (by omega)
  rcases hz with hz | hz
  · omega
  · exact hz this
theorem zv_lt10 {g : Nat → Nat} {n : Nat} (h : ∀ i, g i < 1000000000) : zv 1000000000 g n < 10 ^ (9 * n) := by
  have := zv_lt (b := 1000000000) (g := g) (n := n) (fun i _ => h i)
  rwa [p9q] at this
/-- what shifting down keeps, and what it loses -/
theorem zv_down {g : Nat → Nat} {n p w r : Nat} (hg : ∀ i, g i < 1000000000) (hp : p = 9 * w + r) (hr : r < 9) (hw : w < n) :
    zv 1000000000 g n / 10 ^ p = zv 1000000000 (fun j => g (w + j)) (n - w) / 10 ^ r ∧ (zv 1000000000 g n % 10 ^ p ≠ 0 ↔ (g w % 10 ^ r ≠ 0 ∨ ∃ q, q < w ∧ g q ≠ 0)) := by
  have e0 : n = w + (n - w) := by omega
  have hd : zv 1000000000 g n / 1000000000 ^ w = zv 1000000000 (fun j => g (w + j)) (n - w) := by
    conv => lhs; rw [e0]
    exact zv_div (by decide) _ (fun i _ => hg i)
  have hm : zv 1000000000 g n % 1000000000 ^ w = zv 1000000000 g w := by
    conv => lhs; rw [e0]
    exact zv_mod _ (fun i _ => hg i)
  have hu : zv 1000000000 (fun j => g (w + j)) (n - w) % 10 ^ r = g w % 10 ^ r := by
    have := zv_from (b := 1000000000) (g := fun j => g (w + j)) (n := n - w) (q := 0) (by decide) (by omega) (fun i _ => hg _)
    rw [Nat.pow_zero, Nat.div_one] at this
    rw [this, ← pow_hl (r := r) (by omega), Nat.mul_assoc, Nat.add_mul_mod_self_left]
    rfl
  refine ⟨by rw [hp, Nat.pow_add, ← p9q, ← Nat.div_div_eq_div_mul, hd], ?_⟩
  have hmm : zv 1000000000 g n % 10 ^ p = zv 1000000000 g w + 1000000000 ^ w * (g w % 10 ^ r) := by
    rw [hp, Nat.pow_add, ← p9q, Nat.mod_mul, hd, hm, hu]
  rw [hmm]
  have hpw : 0 < 1000000000 ^ w := Nat.pow_pos (by decide)
  constructor
  · intro h
    by_cases e : g w % 10 ^ r = 0
    · right
      rw [e, Nat.mul_zero, Nat.add_zero] at h
      by_cases hx : ∃ q, q < w ∧ g q ≠ 0
      · exact hx
      · exact absurd (zv_zero (fun i hi => by
          by_cases e2 : g i = 0
          · exact e2
          · exact absurd ⟨i, hi, e2⟩ hx)) h
    · exact Or.inl e
  · rintro (h | ⟨q, q1, q2⟩) e
    · have : 1000000000 ^ w * (g w % 10 ^ r) = 0 := by omega
      exact (Nat.mul_eq_zero.mp this).elim (fun q => by omega) h
    · exact q2 (zv_eq0 (b := 1000000000) (by decide) (by omega) q q1)
theorem ind_nI (b : Prop) [Decidable b] : (if b then (1 : Int32) else 0) = nI (if b then 1 else 0) := by split <;> decide
section NH
variable {l : Launch} {B : zd_B} {h : zd_H} {Q : zd_O → zd_H → Prop}
theorem c_Na_moveDown (hG : zd_G B) (hl : l.stackTraces = false) {k R n p : Nat} {g : Nat → Nat} (hN : Nt B h k R g n) (hn : 0 < n) (hz : n = 0 ∨ g (n - 1) ≠ 0) (hp : p < 2 ^ 31)
    (hq : ∀ h' g' n' lost, Fg B h h' (NS B k) 0 → Nt B h' k R g' n' → (n' = 0 ∨ g' (n' - 1) ≠ 0) → zv 1000000000 g' n' = zv 1000000000 g n / 10 ^ p → lost ≤ 1 → (lost = 1 ↔ zv 1000000000 g n % 10 ^ p ≠ 0) → Q (.inl (some (.int (nI lost)))) h') :
    zd_M l B m_Na_moveDown [.ref (zd_b0 B + k), .int (nI p)] h Q := by
  have r1 := hN.2.2.1
  have r2 := hN.2.2.2.1
  have e9 : nI p / 9 = nI (p / 9) := pk_div (d := 9) hp (by omega) (by omega)
  have r9 : nI p - nI p / 9 * 9 = nI (p % 9) := pk_rem (d := 9) hp (by omega) (by omega)
  refine zd_go (ok_Na_moveDown hG hl) [51] 60 ?_
  conv => whnf
  refine ⟨by decide, ?_⟩
  conv => whnf
  refine ⟨_, hN.1, ?_⟩
  conv => whnf
  refine ⟨fun z => ?_, fun z => ?_⟩
  · rw [e9] at z
    have z' : p / 9 < n := (nI_ltI (by omega) (by omega)).mp z
    have ht := zd_tens_lt (i := p % 9) (by omega)
    have hp0 : 0 < 10 ^ (p % 9) := Nat.pow_pos (by decide)
    have hlow : 10 ^ (p % 9) ≤ 1000000000 := Nat.le_trans (Nat.pow_le_pow_right (by decide) (show p % 9 ≤ 9 by omega)) (by decide)
    have hd := zv_down (g := g) (n := n) (p := p) (w := p / 9) (r := p % 9) hN.2.2.2.2 (by omega) (by omega) z'
    have hgw := hN.2.2.2.2 (p / 9)
    have fin : ∀ lost0, lost0 ≤ 1 → (lost0 = 1 ↔ g (p / 9) % 10 ^ (p % 9) ≠ 0) → zd_W l B m_Na_moveDown 51 [some (.ref (zd_b0 B + k)), some (.int (nI p)), some (.int (nI (p / 9))), some (.int (nI (10 ^ (p % 9)))), some (.int (nI (10 ^ (9 - p % 9)))), none, none, none] [.int (nI lost0)] h Q := by
      intro lost0 h1 h2
      refine zd_go (ok_Na_moveDown hG hl) [56] 60 ?_
      conv => whnf
      refine ⟨?_, trivial⟩
      have := w_Na_down56 (p := nI p) (lowv := nI (10 ^ (p % 9))) (highv := nI (10 ^ (9 - p % 9))) (P0 := g (p / 9) % 10 ^ (p % 9) ≠ 0) hG hl hN z' (Q := Q) (fun lost b1 b2 w6 => ?_) (p / 9) 0 lost0 (by omega) h1 ⟨fun a => Or.inl (h2.mp a), fun a => by
        rcases a with a | ⟨q, q1, q2⟩
        · exact h2.mpr a
        · omega⟩
      · exact this
      · refine zd_go (ok_Na_moveDown hG hl) [93] 60 ?_
        conv => whnf
        refine ⟨?_, trivial⟩
        exact w_Na_down93 (h := h) hG hl (pow_hl (by omega)) hp0 hlow z' b1 (fun h' g' n' c1 c2 c3 c4 c5 => hq h' g' n' lost c1 c2 c3 (by rw [c4, hd.1]) b1 (b2.trans hd.2.symm)) (n - p / 9) 0 h g none (by omega) Fg.rf hN (fun q _ => rfl) (by rw [Nat.add_zero, zm_in z']; simp [zv])
    conv => whnf
    refine ⟨by decide, ?_⟩
    conv => whnf
    refine ⟨10, _, Or.inr hG.2.2.2.2.1, by rw [r9]; exact vp_in_nI (by omega) (by omega), ?_⟩
    rw [r9, nI_clamp (by omega), show zd_tens (p % 9) = nI (10 ^ (p % 9)) from rfl]
    conv => whnf
    refine ⟨nI_ne0 hp0 ht, ?_⟩
    conv => whnf
    refine ⟨_, hN.1, ?_⟩
    conv => whnf
    refine ⟨_, _, Or.inl hN.2.1, by rw [e9]; exact vp_in_nI (by omega) (by omega), ?_⟩
    rw [e9, nI_clamp (by omega), show (1000000000 : Int32) = nI 1000000000 from rfl, pk_div (by omega) hp0 ht, ← pow_hl (r := p % 9) (by omega), Nat.mul_div_cancel_left _ hp0]
    conv => whnf
    refine ⟨nI_ne0 hp0 ht, ?_⟩
    conv => whnf
    rw [pk_rem (by omega) hp0 ht]
    have hrl : g (p / 9) % 10 ^ (p % 9) < 2 ^ 31 := Nat.lt_of_le_of_lt (Nat.mod_le _ _) (by omega)
    refine ⟨fun z => ?_, fun z => ?_⟩
    · conv => whnf
      have z2 : g (p / 9) % 10 ^ (p % 9) = 0 := (nI_eq hrl (by omega)).mp (z.trans nI_0.symm)
      exact ⟨fin 0 (by omega) ⟨fun a => by omega, fun a => absurd z2 a⟩, trivial⟩
    · conv => whnf
      have z2 : g (p / 9) % 10 ^ (p % 9) ≠ 0 := fun e => z (by rw [e]; exact nI_0)
      exact ⟨fin 1 (by omega) ⟨fun _ => z2, fun _ => rfl⟩, trivial⟩
  · rw [e9] at z
    have z' : n ≤ p / 9 := Nat.not_lt.mp (fun q => z ((nI_ltI (by omega) (by omega)).mpr q))
    conv => whnf
    refine ⟨_, hN.1, Nat.le_of_ble_eq_true rfl, ⟨rfl, rfl⟩, ?_⟩
    conv => whnf
    refine ⟨rfl, ?_, trivial⟩
    have hlt : zv 1000000000 g n < 10 ^ p := Nat.lt_of_lt_of_le (zv_lt10 hN.2.2.2.2) (Nat.pow_le_pow_right (by decide) (by omega))
    exact hq _ g 0 1 (Fg.set (Or.inl rfl)) (hN.size (n' := 0) (by omega)) (Or.inl rfl) (by rw [Nat.div_eq_of_lt hlt]; rfl) (by omega) ⟨fun _ => by rw [Nat.mod_eq_of_lt hlt]; exact zv_pos hn hz, fun _ => rfl⟩
end NH
end
section
/-! Natural: moveUp, move -/
/-- the limbs of a number times 10^r (low = 10^r, high = 10^(9-r)) -/
def zup (g : Nat → Nat) (high low q : Nat) : Nat := g q % high * low + (if q = 0 then 0 else g (q - 1) / high)
theorem zup_lt {g : Nat → Nat} {high low q : Nat} (hb : low * high = 1000000000) (hh : 0 < high) (hg : ∀ i, g i < 1000000000) : zup g high low q < 1000000000 := by
  unfold zup
  by_cases e : q = 0
  · have := limb_down (x := 0) (a := g q) (low := high) (high := low) (by rw [Nat.mul_comm]; exact hb) hh (by omega)
    rw [Nat.zero_div] at this
    rw [if_pos e]
    omega
  · have := limb_down (x := g (q - 1)) (a := g q) (low := high) (high := low) (by rw [Nat.mul_comm]; exact hb) hh (hg _)
    rw [if_neg e]
    omega
theorem zup_sum {g : Nat → Nat} {high low : Nat} (hb : low * high = 1000000000) (m : Nat) : zv 1000000000 (zup g high low) (m + 1) + g m / high * 1000000000 ^ (m + 1) = zv 1000000000 g (m + 1) * low := by
  induction m with
  | zero =>
    have e := Nat.div_add_mod (g 0) high
    show 0 + zup g high low 0 * 1000000000 ^ 0 + g 0 / high * 1000000000 ^ 1 = (0 + g 0 * 1000000000 ^ 0) * low
    unfold zup
    rw [if_pos rfl, ← hb]
    generalize g 0 / high = a at *
    generalize g 0 % high = b at *
    rw [← e, Nat.pow_zero, Nat.pow_one, Nat.mul_one, Nat.zero_add, Nat.zero_add, Nat.add_zero, Nat.mul_one, Nat.add_mul, Nat.add_comm]
    congr 1
    rw [Nat.mul_comm high, Nat.mul_assoc, Nat.mul_comm high]
  | succ m ih =>
    have e := Nat.div_add_mod (g (m + 1)) high
    rw [zv_succ, zv_succ (g := g), Nat.add_mul, ← ih]
    have e1 : zup g high low (m + 1) = g (m + 1) % high * low + g m / high := by unfold zup; rw [if_neg (by omega)]; rfl
    rw [e1]
    generalize zv 1000000000 (zup g high low) (m + 1) = Z at *
    rw [Nat.pow_succ 1000000000 (m + 1)]
    generalize 1000000000 ^ (m + 1) = P at *
    generalize g m / high = c at *
    have e2 : g (m + 1) * P * low = g (m + 1) / high * (P * 1000000000) + g (m + 1) % high * low * P := by
      generalize g (m + 1) / high = a at *
      generalize g (m + 1) % high = b at *
      rw [← e, ← hb]
      simp only [Nat.add_mul, Nat.mul_add, Nat.mul_assoc, Nat.mul_comm, Nat.mul_left_comm]
    rw [e2, Nat.add_mul]
    omega
theorem zv_shift (b : Nat) {g : Nat → Nat} (w n : Nat) (h : ∀ i, i < w → g i = 0) : zv b g (w + n) = b ^ w * zv b (fun i => g (w + i)) n := by
  rw [zv_split, zv_zero h, Nat.zero_add]
theorem dg_limbs {g : Nat → Nat} {n : Nat} (hg : ∀ i, g i < 1000000000) (hn : 0 < n) (hz : n = 0 ∨ g (n - 1) ≠ 0) : 9 * (n - 1) < dg (zv 1000000000 g n) ∧ dg (zv 1000000000 g n) ≤ 9 * n := by
  have a := dg_lt (zv 1000000000 g n)
  have b := dg_ge (zv 1000000000 g n) (Nat.pos_of_ne_zero (zv_pos hn hz))
  have c := zv_lt10 (g := g) (n := n) hg
  have d : 10 ^ (9 * (n - 1)) ≤ zv 1000000000 g n := by
    obtain ⟨m, rfl⟩ : ∃ m, n = m + 1 := ⟨n - 1, by omega⟩
    rw [zv_succ, p9q]
    have h1 : g m ≠ 0 := by rcases hz with hz | hz; omega; exact hz
    have : 1 * 10 ^ (9 * m) ≤ g m * 10 ^ (9 * m) := Nat.mul_le_mul_right _ (by omega)
    rw [Nat.one_mul] at this
    show 10 ^ (9 * m) ≤ _
    omega
  have e1 := pow_lt_cancel (Nat.lt_of_le_of_lt d a)
  have e2 := pow_lt_cancel (Nat.lt_of_le_of_lt b c)
  have e3 := dg_pos (zv 1000000000 g n)
  omega
/-- the value, and the top limb, of the limbs that moveUp leaves -/
theorem zup_end {g g' : Nat → Nat} {n w r T : Nat} (hg : ∀ i, g i < 1000000000) (hn : 0 < n) (hz : n = 0 ∨ g (n - 1) ≠ 0) (hr : r < 9) (hT : T = (dg (zv 1000000000 g n) + (9 * w + r) + 8) / 9)
    (h0 : ∀ q, q < w → g' q = 0) (h1 : ∀ q, w ≤ q → q < T → g' q = zup (zm g n) (10 ^ (9 - r)) (10 ^ r) (q - w)) : zv 1000000000 g' T = zv 1000000000 g n * 10 ^ (9 * w + r) ∧ (T = 0 ∨ g' (T - 1) ≠ 0) := by
  obtain ⟨d1, d2⟩ := dg_limbs hg hn hz
  have hb : 10 ^ r * 10 ^ (9 - r) = 1000000000 := pow_hl (by omega)
  obtain ⟨m, hm⟩ : ∃ m, T = w + (m + 1) := ⟨T - w - 1, by omega⟩
  have hV := dg_lt (zv 1000000000 g n)
  have hV1 := dg_ge (zv 1000000000 g n) (Nat.pos_of_ne_zero (zv_pos hn hz))
  have ez : zv 1000000000 (zm g n) (m + 1) = zv 1000000000 g n := by
    rw [show m + 1 = n + (m + 1 - n) by omega]
    exact zv_zm _ _ _ _
  have es := zup_sum (g := zm g n) hb m
  rw [ez] at es
  have hlt : zv 1000000000 g n * 10 ^ r < 1000000000 ^ (m + 1) := by
    have h2 : zv 1000000000 g n * 10 ^ r < 10 ^ dg (zv 1000000000 g n) * 10 ^ r := Nat.mul_lt_mul_of_pos_right hV (Nat.pow_pos (by decide))
    rw [← Nat.pow_add] at h2
    rw [p9q]
    exact Nat.lt_of_lt_of_le h2 (Nat.pow_le_pow_right (by decide) (by omega))
  have hc : zm g n m / 10 ^ (9 - r) = 0 := by
    rcases Nat.eq_zero_or_pos (zm g n m / 10 ^ (9 - r)) with e | e
    · exact e
    · have : 1 * 1000000000 ^ (m + 1) ≤ zm g n m / 10 ^ (9 - r) * 1000000000 ^ (m + 1) := Nat.mul_le_mul_right _ e
      omega
  rw [hc, Nat.zero_mul, Nat.add_zero] at es
  have hval : zv 1000000000 g' T = zv 1000000000 g n * 10 ^ (9 * w + r) := by
    rw [hm, zv_shift _ _ _ h0, zv_congr (g' := zup (zm g n) (10 ^ (9 - r)) (10 ^ r)) (fun i hi => by rw [h1 (w + i) (by omega) (by omega)]; congr 1; omega), es, p9q, Nat.pow_add, Nat.mul_comm, Nat.mul_assoc, Nat.mul_comm (10 ^ r)]
  refine ⟨hval, Or.inr (fun e => ?_)⟩
  have h3 : zv 1000000000 g' (w + m) < 10 ^ (9 * (w + m)) := by
    have := zv_lt (b := 1000000000) (g := g') (n := w + m) (fun i hi => by
      by_cases hi2 : i < w
      · rw [h0 i hi2]; decide
      · rw [h1 i (by omega) (by omega)]
        exact zup_lt hb (Nat.pow_pos (by decide)) (fun j => zm_lt (hg j)))
    rwa [p9q] at this
  rw [hm, show w + (m + 1) - 1 = w + m by omega] at e
  rw [hm, show w + (m + 1) = w + m + 1 by omega, zv_succ, e, Nat.zero_mul, Nat.add_zero] at hval
  have h4 : 10 ^ (dg (zv 1000000000 g n) - 1) * 10 ^ (9 * w + r) ≤ zv 1000000000 g n * 10 ^ (9 * w + r) := Nat.mul_le_mul_right _ hV1
  rw [← Nat.pow_add] at h4
  have h5 : (10 : Nat) ^ (9 * (w + m)) ≤ 10 ^ (dg (zv 1000000000 g n) - 1 + (9 * w + r)) := Nat.pow_le_pow_right (by decide) (by omega)
  omega
theorem hi_low {r : Nat} (h : r < 9) : (1000000000 : Int32) / nI (10 ^ r) = nI (10 ^ (9 - r)) := by
  rw [show (1000000000 : Int32) = nI 1000000000 from rfl, pk_div (by omega) (Nat.pow_pos (by decide)) (zd_tens_lt (by omega)), ← pow_hl (r := r) (by omega), Nat.mul_div_cancel_left _ (Nat.pow_pos (by decide))]
section NI
variable {l : Launch} {B : zd_B} {h : zd_H} {Q : zd_O → zd_H → Prop}
theorem w_Na_up134 (hG : zd_G B) (hl : l.stackTraces = false) {k R T w : Nat} {p a3 a4 a5 : Int32} {g0 : Nat → Nat} (hwT : w ≤ T)
    (hq : ∀ h' g', Fg B h h' (NS B k) 0 → Nt B h' k R g' T → (∀ q, q < w → g' q = 0) → (∀ q, w ≤ q → g' q = g0 q) → Q (.inl none) h') :
    ∀ (d i : Nat) (h1 : zd_H) (g : Nat → Nat) (w7 w8 : Option Value), i + d = w → Fg B h h1 (NS B k) 0 → Nt B h1 k R g T → (∀ q, q < i → g q = 0) → (∀ q, w ≤ q → g q = g0 q) →
      zd_W l B m_Na_moveUp 134 [some (.ref (zd_b0 B + k)), some (.int p), some (.int (nI w)), some (.int a3), some (.int a4), some (.int a5), some (.int (nI i)), w7, w8] [] h1 Q := by
  intro d
  induction d with
  | zero =>
    intro i h1 g w7 w8 hd f hN ha hb
    have hi : i = w := by omega
    subst hi
    refine zd_go (ok_Na_moveUp hG hl) [] 60 ?_
    conv => whnf
    refine ⟨fun z => ?_, fun z => absurd (Int32.le_refl _) z⟩
    conv => whnf
    exact ⟨hq h1 g f hN ha hb, trivial⟩
  | succ d ih =>
    intro i h1 g w7 w8 hd f hN ha hb
    have r1 := hN.2.2.1
    have r2 := hN.2.2.2.1
    refine zd_go (ok_Na_moveUp hG hl) [134] 60 ?_
    conv => whnf
    refine ⟨fun z => absurd z (nI_ge (by omega) (by omega)), fun z => ?_⟩
    conv => whnf
    refine ⟨_, hN.1, ?_⟩
    conv => whnf
    refine ⟨_, _, hN.2.1, vp_in_nI (by omega) (by omega), ?_⟩
    rw [nI_clamp (by omega)]
    conv => whnf
    refine ⟨?_, trivial⟩
    have := ih (i + 1) _ (zu g i 0) w7 w8 (by omega) (f.set2 (Or.inr rfl)) (hN.put (i := i) (v := 0) (by omega)) (fun q hq2 => by
      by_cases e : q = i
      · rw [e, zu_s]
      · rw [zu_n e]; exact ha q (by omega)) (fun q hq2 => by rw [zu_n (by omega)]; exact hb q hq2)
    rw [← nI_1 i] at this
    exact this
theorem w_Na_up52 (hG : zd_G B) (hl : l.stackTraces = false) {k R n T w low high : Nat} {p : Int32} {g0 : Nat → Nat} (hb : low * high = 1000000000) (hl0 : 0 < low) (hh0 : 0 < high) (hg0 : ∀ i, g0 i < 1000000000) (hT : T ≤ w + n + 1) (hn1 : n < 1000) (hw1 : w < 1000)
    (hq : ∀ h' g', Fg B h h' (NS B k) 0 → Nt B h' k R g' T → (∀ q, q < w → g' q = 0) → (∀ q, w ≤ q → q < T → g' q = zup (zm g0 n) high low (q - w)) → Q (.inl none) h') :
    ∀ (t : Nat) (h1 : zd_H) (g : Nat → Nat) (w7 w8 : Option Value), w + t ≤ T → w ≤ T → Fg B h h1 (NS B k) 0 → Nt B h1 k R g T → (∀ q, q < w + t → g q = g0 q) → (∀ q, w + t ≤ q → q < T → g q = zup (zm g0 n) high low (q - w)) →
      zd_W l B m_Na_moveUp 52 [some (.ref (zd_b0 B + k)), some (.int p), some (.int (nI w)), some (.int (nI low)), some (.int (nI high)), some (.int (nI n)), some (.int (nI (w + t) - 1)), w7, w8] [] h1 Q := by
  have hl1 : low ≤ 1000000000 := by rw [← hb]; exact Nat.le_mul_of_pos_right _ hh0
  have hh1 : high ≤ 1000000000 := by rw [← hb]; exact Nat.le_mul_of_pos_left _ hl0
  intro t
  induction t with
  | zero =>
    intro h1 g w7 w8 ht hwT f hN ha hc
    have lt : nI (w + 0) - 1 < nI w := by
      rw [Nat.add_zero, iI_nI, show (1 : Int32) = iI 1 from rfl, iI_sub, iI_lt ⟨by omega, by omega⟩ ⟨by omega, by omega⟩]
      omega
    refine zd_go (ok_Na_moveUp hG hl) [134] 60 ?_
    conv => whnf
    refine ⟨fun z => ?_, fun z => absurd lt z⟩
    conv => whnf
    refine ⟨?_, trivial⟩
    exact w_Na_up134 (h := h) hG hl hwT (fun h' g' b1 b2 b3 b4 => hq h' g' b1 b2 b3 (fun q q1 q2 => by rw [b4 q q1]; exact hc q (by omega) q2)) w 0 h1 g w7 w8 (by omega) f hN (fun q hq2 => by omega) (fun q _ => rfl)
  | succ t ih =>
    intro h1 g w7 w8 ht hwT f hN ha hc
    have r1 := hN.2.2.1
    have r2 := hN.2.2.2.1
    have hgm : ∀ i, zm g0 n i < 1000000000 := fun i => zm_lt (hg0 i)
    have hzl := zup_lt (g := zm g0 n) (q := t) hb hh0 hgm
    have b103 : ∀ w8', zd_W l B m_Na_moveUp 103 [some (.ref (zd_b0 B + k)), some (.int p), some (.int (nI w)), some (.int (nI low)), some (.int (nI high)), some (.int (nI n)), some (.int (nI (w + t))), some (.int (nI (zm g0 n t))), w8'] [.int (nI (if t = 0 then 0 else zm g0 n (t - 1)))] h1 Q := by
      intro w8'
      have hbe : (if t = 0 then 0 else zm g0 n (t - 1)) < 1000000000 := by split; decide; exact hgm _
      have hhe := hgm t
      have hmod : zm g0 n t % high < high := Nat.mod_lt _ hh0
      refine zd_go (ok_Na_moveUp hG hl) [52] 60 ?_
      conv => whnf
      refine ⟨_, hN.1, ?_⟩
      conv => whnf
      refine ⟨nI_ne0 hh0 (by omega), ?_⟩
      conv => whnf
      refine ⟨nI_ne0 hh0 (by omega), ?_⟩
      conv => whnf
      refine ⟨_, _, hN.2.1, vp_in_nI (by omega) (by omega), ?_⟩
      rw [nI_clamp (by omega), pk_rem (by omega) hh0 (by omega), pk_div (by omega) hh0 (by omega), pk_mul, nI_add]
      have ez : zm g0 n t % high * low + (if t = 0 then 0 else zm g0 n (t - 1)) / high = zup (zm g0 n) high low t := by
        unfold zup
        by_cases e : t = 0
        · rw [if_pos e, if_pos e, Nat.zero_div]
        · rw [if_neg e, if_neg e]
      rw [ez]
      conv => whnf
      refine ⟨?_, trivial⟩
      show zd_W l B m_Na_moveUp 52 [some (.ref (zd_b0 B + k)), some (.int p), some (.int (nI w)), some (.int (nI low)), some (.int (nI high)), some (.int (nI n)), some (.int (nI (w + t) + (-1))), some (.int (nI (zm g0 n t))), some (.int (nI (if t = 0 then 0 else zm g0 n (t - 1))))] [] _ Q
      rw [show nI (w + t) + (-1) = nI (w + t) - 1 from (Int32.sub_eq_add_neg _ _).symm]
      refine ih _ (zu g (w + t) (zup (zm g0 n) high low t)) _ _ (by omega) hwT (f.set2 (Or.inr rfl)) (hN.put hzl) (fun q hq2 => by rw [zu_n (by omega)]; exact ha q (by omega)) (fun q q1 q2 => ?_)
      by_cases e : q = w + t
      · rw [e, zu_s, show w + t - w = t by omega]
      · rw [zu_n e]; exact hc q (by omega) q2
    have b80 : ∀ w7', zd_W l B m_Na_moveUp 80 [some (.ref (zd_b0 B + k)), some (.int p), some (.int (nI w)), some (.int (nI low)), some (.int (nI high)), some (.int (nI n)), some (.int (nI (w + t))), w7', w8] [.int (nI (zm g0 n t))] h1 Q := by
      intro w7'
      refine zd_go (ok_Na_moveUp hG hl) [103] 60 ?_
      conv => whnf
      refine ⟨fun z => ?_, fun z => ?_⟩
      · conv => whnf
        have z' : w + t ≤ w := (nI_leI (by omega) (by omega)).mp z
        have := b103 w8
        rw [if_pos (show t = 0 by omega)] at this
        exact ⟨this, trivial⟩
      · have z' : ¬ w + t ≤ w := fun q => z ((nI_leI (by omega) (by omega)).mpr q)
        conv => whnf
        refine ⟨_, hN.1, ?_⟩
        conv => whnf
        have ei : nI (w + t) - nI w - 1 = nI (t - 1) := by rw [pk_sub (by omega), show w + t - w = (t - 1) + 1 by omega, nI_pred]
        refine ⟨_, _, Or.inl hN.2.1, by rw [ei]; exact vp_in_nI (by omega) (by omega), ?_⟩
        rw [ei, nI_clamp (by omega), ha (t - 1) (by omega)]
        have := b103 w8
        rw [if_neg (show t ≠ 0 by omega), zm_in (j := t - 1) (by omega)] at this
        conv => whnf
        exact ⟨this, trivial⟩
    rw [show w + (t + 1) = w + t + 1 by omega, nI_pred]
    have ei : nI (w + t) - nI w = nI t := by rw [pk_sub (by omega), show w + t - w = t by omega]
    refine zd_go (ok_Na_moveUp hG hl) [80] 60 ?_
    conv => whnf
    refine ⟨fun z => absurd z (nI_nlt (by omega) (by omega)), fun z => ?_⟩
    conv => whnf
    refine ⟨fun z => ?_, fun z => ?_⟩
    · rw [ei] at z
      have z' : n ≤ t := (nI_leI (by omega) (by omega)).mp z
      have := b80 w7
      rw [zm_out z'] at this
      conv => whnf
      exact ⟨this, trivial⟩
    · rw [ei] at z
      have z' : ¬ n ≤ t := fun q => z ((nI_leI (by omega) (by omega)).mpr q)
      conv => whnf
      refine ⟨_, hN.1, ?_⟩
      conv => whnf
      refine ⟨_, _, Or.inl hN.2.1, by rw [ei]; exact vp_in_nI (by omega) (by omega), ?_⟩
      rw [ei, nI_clamp (by omega), ha t (by omega)]
      have := b80 w7
      rw [zm_in (by omega)] at this
      conv => whnf
      exact ⟨this, trivial⟩
theorem c_Na_moveUp (hG : zd_G B) (hl : l.stackTraces = false) {k R n p : Nat} {g : Nat → Nat} (hN : Nt B h k R g n) (hn : 0 < n) (hz : n = 0 ∨ g (n - 1) ≠ 0) (hp : p < 100000) (hr : Rm h)
    (hq : ∀ h' g' n', (dg (zv 1000000000 g n) + p + 8) / 9 ≤ R → Fg B h h' (NS B k) 0 → Nt B h' k R g' n' → (n' = 0 ∨ g' (n' - 1) ≠ 0) → zv 1000000000 g' n' = zv 1000000000 g n * 10 ^ p → Q (.inl none) h')
    (hth : ∀ h', R < (dg (zv 1000000000 g n) + p + 8) / 9 → Fx B h h' E0 11 → Q (.inr (zd_b0 B + h.1, 11)) h') :
    zd_M l B m_Na_moveUp [.ref (zd_b0 B + k), .int (nI p)] h Q := by
  have r1 := hN.2.2.1
  have r2 := hN.2.2.2.1
  have e9 : nI p / 9 = nI (p / 9) := pk_div (d := 9) (by omega) (by omega) (by omega)
  have r9 : nI p - nI p / 9 * 9 = nI (p % 9) := pk_rem (d := 9) (by omega) (by omega) (by omega)
  have ht := zd_tens_lt (i := p % 9) (by omega)
  have hp0 : 0 < 10 ^ (p % 9) := Nat.pow_pos (by decide)
  obtain ⟨d1, d2⟩ := dg_limbs hN.2.2.2.2 hn hz
  refine zd_go (ok_Na_moveUp hG hl) [52] 60 ?_
  conv => whnf
  refine ⟨by decide, ?_⟩
  conv => whnf
  refine ⟨by decide, ?_⟩
  conv => whnf
  refine ⟨10, _, Or.inr hG.2.2.2.2.1, by rw [r9]; exact vp_in_nI (by omega) (by omega), ?_⟩
  rw [r9, nI_clamp (by omega), show zd_tens (p % 9) = nI (10 ^ (p % 9)) from rfl]
  conv => whnf
  refine ⟨nI_ne0 hp0 ht, ?_⟩
  conv => whnf
  refine ⟨_, hN.1, ?_⟩
  conv => whnf
  refine ⟨⟨_, hN.1⟩, ⟨rfl, Nat.le_of_ble_eq_true rfl, Nat.le_of_ble_eq_true rfl⟩, ?_⟩
  refine c_Na_digits hG hl hN hz ?_
  conv => whnf
  refine ⟨by decide, ?_⟩
  conv => whnf
  refine ⟨⟨_, hN.1⟩, ⟨rfl, Nat.le_of_ble_eq_true rfl, Nat.le_of_ble_eq_true rfl⟩, ?_⟩
  rw [hi_low (by omega), e9, nI_add, show (9 : Int32) = nI 9 from rfl, nI_add, show (1 : Int32) = nI 1 from rfl, pk_sub (by omega), pk_div (by omega) (by omega) (by omega), show dg (zv 1000000000 g n) + p + 9 - 1 = dg (zv 1000000000 g n) + p + 8 by omega]
  obtain ⟨T, hT⟩ : ∃ T, T = (dg (zv 1000000000 g n) + p + 8) / 9 := ⟨_, rfl⟩
  rw [← hT]
  rw [← hT] at hth hq
  refine c_Na_claim hG hl hN (by omega) hr (fun h1 a1 a2 a3 => ?_) (fun h1 a1 a2 => hth h1 a1 a2)
  conv => whnf
  refine ⟨_, a3.1, ?_⟩
  conv => whnf
  refine ⟨?_, trivial⟩
  have := w_Na_up52 (h := h) (p := nI p) hG hl (k := k) (R := R) (n := n) (T := T) (w := p / 9) (low := 10 ^ (p % 9)) (high := 10 ^ (9 - p % 9)) (g0 := g) (Q := Q) (pow_hl (by omega)) hp0 (Nat.pow_pos (by decide)) hN.2.2.2.2 (by omega) (by omega) (by have := a3.2.2.1; omega) (fun h' g' b1 b2 b3 b4 => by
      obtain ⟨v1, v2⟩ := zup_end (g := g) (g' := g') (n := n) (w := p / 9) (r := p % 9) (T := T) hN.2.2.2.2 hn hz (by omega) (by rw [hT]; congr 2; omega) b3 b4
      rw [show 9 * (p / 9) + p % 9 = p by omega] at v1
      exact hq h' g' T a1 b1 b2 v2 v1) (T - p / 9) h1 g none none (by omega) (by omega) a2 a3 (fun q _ => rfl) (fun q q1 q2 => by omega)
  rw [show p / 9 + (T - p / 9) = T by omega] at this
  exact this
/-- places as an integer; what is lost is told -/
theorem c_Na_move (hG : zd_G B) (hl : l.stackTraces = false) {k R n : Nat} {p : Int} {g : Nat → Nat} (hN : Nt B h k R g n) (hz : n = 0 ∨ g (n - 1) ≠ 0) (hp : -100000 < p ∧ p < 100000) (hr : Rm h)
    (hq : ∀ h' g' n' lost, (n = 0 ∨ p ≤ 0 ∨ (dg (zv 1000000000 g n) + p.toNat + 8) / 9 ≤ R) → Fg B h h' (NS B k) 0 → Nt B h' k R g' n' → (n' = 0 ∨ g' (n' - 1) ≠ 0) → zv 1000000000 g' n' = zv 1000000000 g n * 10 ^ p.toNat / 10 ^ (-p).toNat → lost ≤ 1 → (lost = 1 ↔ zv 1000000000 g n % 10 ^ (-p).toNat ≠ 0) → Q (.inl (some (.int (nI lost)))) h')
    (hth : ∀ h', 0 < n → 0 < p → R < (dg (zv 1000000000 g n) + p.toNat + 8) / 9 → Fx B h h' E0 11 → Q (.inr (zd_b0 B + h.1, 11)) h') :
    zd_M l B m_Na_move [.ref (zd_b0 B + k), .int (iI p)] h Q := by
  have r1 := hN.2.2.1
  have r2 := hN.2.2.2.1
  have hR : iR p := ⟨by omega, by omega⟩
  have h0R : iR 0 := ⟨by omega, by omega⟩
  refine zd_go (ok_Na_move hG hl) [] 60 ?_
  conv => whnf
  refine ⟨fun z => ?_, fun z => ?_⟩
  · have z' : p = 0 := (iI_eq hR h0R).mp z
    subst z'
    conv => whnf
    refine ⟨rfl, ?_, trivial⟩
    exact hq h g n 0 (Or.inr (Or.inl (by omega))) Fg.rf hN hz (by simp) (by omega) ⟨fun q => by omega, fun q => absurd (by simp [Nat.mod_one]) q⟩
  · have z' : p ≠ 0 := fun q => z ((iI_eq hR h0R).mpr q)
    conv => whnf
    refine ⟨_, hN.1, ?_⟩
    conv => whnf
    refine ⟨fun z => ?_, fun z => ?_⟩
    · have zn : 0 < n := by
        rcases Nat.eq_zero_or_pos n with e | e
        · exact absurd (by rw [e]; exact nI_0) z
        · exact e
      conv => whnf
      refine ⟨fun z => ?_, fun z => ?_⟩
      · have z2 : 0 ≤ p := (iI_le h0R hR).mp z
        conv => whnf
        refine ⟨⟨_, hN.1⟩, ⟨rfl, Nat.le_of_ble_eq_true rfl, Nat.le_of_ble_eq_true rfl⟩, ?_⟩
        obtain ⟨q, rfl⟩ : ∃ q : Nat, p = q := ⟨p.toNat, by omega⟩
        rw [← iI_nI]
        refine c_Na_moveUp hG hl hN zn hz (by omega) hr (fun h1 g1 n1 a1 a2 a3 a4 a5 => ?_) (fun h1 a1 a2 => hth h1 zn (by omega) a1 a2)
        conv => whnf
        refine ⟨rfl, ?_, trivial⟩
        have e1 : (-(q : Int)).toNat = 0 := by omega
        exact hq h1 g1 n1 0 (Or.inr (Or.inr a1)) a2 a3 a4 (by rw [e1, a5]; simp) (by omega) ⟨fun x => by omega, fun x => absurd (by rw [e1]; simp [Nat.mod_one]) x⟩
      · have z2 : ¬ 0 ≤ p := fun q => z ((iI_le h0R hR).mpr q)
        conv => whnf
        refine ⟨⟨_, hN.1⟩, ⟨rfl, Nat.le_of_ble_eq_true rfl, Nat.le_of_ble_eq_true rfl⟩, ?_⟩
        obtain ⟨q, hq1⟩ : ∃ q : Nat, p = -(q : Int) := ⟨(-p).toNat, by omega⟩
        subst hq1
        rw [iI_neg, show -(-(q : Int)) = (q : Int) by omega, ← iI_nI]
        refine c_Na_moveDown hG hl hN zn hz (by omega) (fun h1 g1 n1 lost a1 a2 a3 a4 a5 a6 => ?_)
        have e1 : (-(q : Int)).toNat = 0 := by omega
        have e2 : (-(-(q : Int))).toNat = q := by omega
        conv => whnf
        refine ⟨?_, hq h1 g1 n1 lost (Or.inr (Or.inl (by omega))) a1 a2 a3 (by rw [e1, e2, a4]; simp) a5 (by rw [e2]; exact a6), trivial⟩
        rcases (show lost = 0 ∨ lost = 1 by omega) with e | e <;> rw [e] <;> rfl
    · have zn : n = 0 := (nI_eq (by omega) (by omega)).mp (z.trans nI_0.symm)
      conv => whnf
      refine ⟨rfl, ?_, trivial⟩
      subst zn
      exact hq h g 0 0 (Or.inl rfl) Fg.rf hN hz (by simp [zv]) (by omega) ⟨fun q => by omega, fun q => absurd (by simp [zv]) q⟩
end NI
end
section
/-! signed division; become, trailingZeros, floorDiv, floorMod -/
theorem iI_tdiv {a b : Int} (ha : iR a) (hb : iR b) (h1 : 0 < b) : iI a / iI b = iI (a.tdiv b) := by
  have hne : iI b ≠ -1 := fun q => by
    have e := iI_t hb
    rw [q] at e
    have : (-1 : Int32).toInt = -1 := by decide
    omega
  have h2 := Int.natAbs_tdiv_le_natAbs a b
  have hr : iR (a.tdiv b) := by
    unfold iR at *
    by_cases h0 : 0 ≤ a
    · have := Int.tdiv_nonneg h0 (by omega : 0 ≤ b)
      omega
    · have : a.tdiv b ≤ 0 := by
        have := Int.tdiv_nonneg (a := -a) (b := b) (by omega) (by omega)
        rw [Int.neg_tdiv] at this
        omega
      omega
  apply Int32.toInt.inj
  rw [Int32.toInt_div_of_ne_right _ _ hne, iI_t ha, iI_t hb, iI_t hr]
theorem lI_tdiv {a b : Int} (ha : lR a) (hb : lR b) (h1 : 0 < b) : lI a / lI b = lI (a.tdiv b) := by
  have hne : lI b ≠ -1 := fun q => by
    have e := lI_t hb
    rw [q] at e
    have : (-1 : Int64).toInt = -1 := by decide
    omega
  have h2 := Int.natAbs_tdiv_le_natAbs a b
  have hr : lR (a.tdiv b) := by
    unfold lR at *
    by_cases h0 : 0 ≤ a
    · have := Int.tdiv_nonneg h0 (by omega : 0 ≤ b)
      omega
    · have : a.tdiv b ≤ 0 := by
        have := Int.tdiv_nonneg (a := -a) (b := b) (by omega) (by omega)
        rw [Int.neg_tdiv] at this
        omega
      omega
  apply Int64.toInt.inj
  rw [Int64.toInt_div_of_ne_right _ _ hne, lI_t ha, lI_t hb, lI_t hr]
theorem iI_tmod {a b : Int} (ha : iR a) (hb : iR b) (h1 : 0 < b) : iI a - iI a / iI b * iI b = iI (a.tmod b) := by
  rw [iI_tdiv ha hb h1, iI_mul, iI_sub]
  congr 1
  have := Int.mul_tdiv_add_tmod a b
  rw [Int.mul_comm] at this
  omega
theorem lI_tmod {a b : Int} (ha : lR a) (hb : lR b) (h1 : 0 < b) : lI a - lI a / lI b * lI b = lI (a.tmod b) := by
  rw [lI_tdiv ha hb h1, lI_mul, lI_sub]
  congr 1
  have := Int.mul_tdiv_add_tmod a b
  rw [Int.mul_comm] at this
  omega
theorem negdiv (m b : Nat) : (-(m : Int)).tdiv (b : Int) = -((m / b : Nat) : Int) := by rw [Int.neg_tdiv, Int.ofNat_tdiv]
theorem negmod (m b : Nat) : (-(m : Int)).tmod (b : Int) = -((m % b : Nat) : Int) := by rw [Int.neg_tmod, Int.ofNat_tmod]
theorem xor_ge {x y : Int32} (hy : 0 ≤ y) : 0 ≤ x ^^^ y ↔ 0 ≤ x := by
  have key : ∀ z : Int32, 0 ≤ z ↔ z.toBitVec.msb = false := fun z => by
    rw [Int32.le_iff_toBitVec_sle, BitVec.sle_eq_not_slt]
    have : z.toBitVec.slt (0 : Int32).toBitVec = z.toBitVec.msb := by
      show z.toBitVec.slt 0#32 = _
      rw [BitVec.slt_zero_eq_msb]
    rw [this]
    cases z.toBitVec.msb <;> simp
  rw [key, key, Int32.toBitVec_xor, BitVec.msb_xor, (key y).mp hy, Bool.xor_false]
section NJ
variable {l : Launch} {B : zd_B} {h : zd_H} {Q : zd_O → zd_H → Prop}
theorem c_Ma_floorDiv (hG : zd_G B) (hl : l.stackTraces = false) {a b : Int} (ha : iR a) (hb : iR b) (h1 : 0 < b) (hq : Q (.inl (some (.int (iI (a / b))))) h) : zd_M l B m_Ma_floorDiv [.int (iI a), .int (iI b)] h Q := by
  have h0R : iR 0 := ⟨by omega, by omega⟩
  have hb0 : (0 : Int32) ≤ iI b := (iI_le h0R hb).mpr (by omega)
  have eq := Int.mul_tdiv_add_tmod a b
  have ee := Int.mul_ediv_add_emod a b
  have l1 := Int.emod_nonneg a (show b ≠ 0 by omega)
  have l2 := Int.emod_lt_of_pos a h1
  refine zd_go (ok_Ma_floorDiv hG hl) [] 60 ?_
  conv => whnf
  refine ⟨fun q => by have := (iI_eq hb h0R).mp q; omega, ?_⟩
  conv => whnf
  refine ⟨fun z => ?_, fun z => ?_⟩
  · have z' : 0 ≤ a := (iI_le h0R ha).mp ((xor_ge hb0).mp z)
    rw [iI_div ha z' hb h1]
    conv => whnf
    refine ⟨rfl, ?_, trivial⟩
    exact hq
  · have z' : a < 0 := by
      have : ¬ 0 ≤ a := fun q => z ((xor_ge hb0).mpr ((iI_le h0R ha).mpr q))
      omega
    rw [iI_tdiv ha hb h1]
    have hnp : a.tdiv b ≤ 0 ∧ a ≤ a.tdiv b := by
      have h2 := Int.natAbs_tdiv_le_natAbs a b
      have := Int.tdiv_nonneg (a := -a) (b := b) (by omega) (by omega)
      rw [Int.neg_tdiv] at this
      omega
    have tm : a.tmod b ≤ 0 ∧ -b < a.tmod b := by
      have h3 := Int.tmod_nonneg b (show 0 ≤ -a by omega)
      have h4 := Int.tmod_lt_of_pos (-a) h1
      rw [Int.neg_tmod] at h3 h4
      omega
    have hmul : iR (a.tdiv b * b) := by
      rw [Int.mul_comm]
      unfold iR at *
      omega
    conv => whnf
    refine ⟨fun z => ?_, fun z => ?_⟩
    · rw [iI_mul] at z
      have z2 : a.tdiv b * b = a := (iI_eq hmul ha).mp z
      conv => whnf
      refine ⟨rfl, ?_, trivial⟩
      rw [show a / b = a.tdiv b by conv => lhs; rw [← z2]
                                   exact Int.mul_ediv_cancel _ (by omega)] at hq
      exact hq
    · rw [iI_mul] at z
      have z2 : a.tdiv b * b ≠ a := fun q => z (by rw [q])
      rw [Int.mul_comm] at z2
      have e1 : a / b = a.tdiv b - 1 := by
        have : b * (a / b) + a % b = b * (a.tdiv b - 1) + (a.tmod b + b) := by
          rw [Int.mul_sub, Int.mul_one]
          omega
        refine (Int.ediv_emod_unique h1 (r := a.tmod b + b) (q := a.tdiv b - 1)).mpr ⟨by rw [Int.mul_sub, Int.mul_one]; omega, by omega, by omega⟩ |>.1
      conv => whnf
      refine ⟨rfl, ?_, trivial⟩
      show Q (.inl (some (.int (iI (a.tdiv b) - iI 1)))) h
      rw [iI_sub, ← e1]
      exact hq
theorem c_Ma_floorMod (hG : zd_G B) (hl : l.stackTraces = false) {a b : Int} (ha : iR a) (hb : iR b) (h1 : 0 < b) (hq : Q (.inl (some (.int (iI (a % b))))) h) : zd_M l B m_Ma_floorMod [.int (iI a), .int (iI b)] h Q := by
  have h0R : iR 0 := ⟨by omega, by omega⟩
  have hb0 : (0 : Int32) ≤ iI b := (iI_le h0R hb).mpr (by omega)
  have eq := Int.mul_tdiv_add_tmod a b
  refine zd_go (ok_Ma_floorMod hG hl) [] 60 ?_
  conv => whnf
  refine ⟨fun q => by have := (iI_eq hb h0R).mp q; omega, ?_⟩
  conv => whnf
  refine ⟨fun z => ?_, fun z => ?_⟩
  · have z' : 0 ≤ a := (iI_le h0R ha).mp ((xor_ge hb0).mp z)
    rw [iI_rem ha z' hb h1]
    conv => whnf
    refine ⟨rfl, ?_, trivial⟩
    exact hq
  · have z' : a < 0 := by
      have : ¬ 0 ≤ a := fun q => z ((xor_ge hb0).mpr ((iI_le h0R ha).mpr q))
      omega
    rw [iI_tmod ha hb h1]
    have tm : a.tmod b ≤ 0 ∧ -b < a.tmod b := by
      have h3 := Int.tmod_nonneg b (show 0 ≤ -a by omega)
      have h4 := Int.tmod_lt_of_pos (-a) h1
      rw [Int.neg_tmod] at h3 h4
      omega
    have tR : iR (a.tmod b) := by unfold iR at *; omega
    conv => whnf
    refine ⟨fun z => ?_, fun z => ?_⟩
    · have z2 : a.tmod b = 0 := (iI_eq tR h0R).mp z
      conv => whnf
      refine ⟨rfl, ?_, trivial⟩
      have e1 : a % b = 0 := by
        have : b ∣ a := Int.dvd_of_tmod_eq_zero z2
        exact Int.emod_eq_zero_of_dvd this
      rw [e1] at hq
      rw [z2]
      exact hq
    · have z2 : a.tmod b ≠ 0 := fun q => z (by rw [q]; rfl)
      have e1 : a % b = a.tmod b + b := by
        refine (Int.ediv_emod_unique h1 (r := a.tmod b + b) (q := a.tdiv b - 1)).mpr ⟨by rw [Int.mul_sub, Int.mul_one]; omega, by omega, by omega⟩ |>.2
      conv => whnf
      refine ⟨rfl, ?_, trivial⟩
      show Q (.inl (some (.int (iI (a.tmod b) + iI b)))) h
      rw [iI_add, ← e1]
      exact hq
theorem w_Na_become (hG : zd_G B) (hl : l.stackTraces = false) {k R m : Nat} {x : Int64} (hR : 3 ≤ R) (hm : m ≤ 9223372036854775808)
    (hq : ∀ h' g' n', Fg B h h' (NS B k) 0 → Nt B h' k R g' n' → (n' = 0 ∨ g' (n' - 1) ≠ 0) → zv 1000000000 g' n' = m → Q (.inl none) h') :
    ∀ (d i q : Nat) (h1 : zd_H) (g : Nat → Nat), i + d = 3 → Fg B h h1 (NS B k) 0 → Nt B h1 k R g 3 → zv 1000000000 g i + q * 1000000000 ^ i = m → zd_W l B m_Na_become 21 [some (.ref (zd_b0 B + k)), some (.long x), none, some (.long (lI (-(q : Int)))), none, some (.int (nI i))] [] h1 Q := by
  have b1 : lR ((1000000000 : Nat) : Int) := ⟨by omega, by omega⟩
  have nz : ¬ (1000000000 : Int64) = 0 := by decide
  intro d
  induction d with
  | zero =>
    intro i q h1 g hd f hN hv
    have e : i = 3 := by omega
    subst e
    have q0 : q = 0 := by
      have e27 : (1000000000 : Nat) ^ 3 = 1000000000000000000000000000 := by decide
      rw [e27] at hv
      omega
    refine zd_go (ok_Na_become hG hl) [] 60 ?_
    conv => whnf
    refine ⟨fun z => ?_, fun z => absurd (by decide) z⟩
    conv => whnf
    refine ⟨⟨_, hN.1⟩, ⟨rfl, Nat.le_of_ble_eq_true rfl, Nat.le_of_ble_eq_true rfl⟩, ?_⟩
    refine c_Na_trim hG hl hN (fun n' h2 c1 c2 c3 c4 c5 => ?_)
    conv => whnf
    refine ⟨hq h2 _ n' (f.tr0 c4) c5 c3 ?_, trivial⟩
    rw [c2, ← hv, q0, Nat.zero_mul, Nat.add_zero]
  | succ d ih =>
    intro i q h1 g hd f hN hv
    have r2 := hN.2.2.2.1
    have qm : q ≤ m := by
      have : q * 1 ≤ q * 1000000000 ^ i := Nat.mul_le_mul_left _ (Nat.pow_pos (by decide))
      omega
    have mR : lR (-(q : Int)) := ⟨by omega, by omega⟩
    have dv : lI (-(q : Int)) / 1000000000 = lI (-((q / 1000000000 : Nat) : Int)) := by
      rw [show (1000000000 : Int64) = lI ((1000000000 : Nat) : Int) from rfl, lI_tdiv mR b1 (by omega), negdiv]
    have rm : (-(lI (-(q : Int)) - lI (-(q : Int)) / 1000000000 * 1000000000)).toInt32 = nI (q % 1000000000) := by
      rw [show (1000000000 : Int64) = lI ((1000000000 : Nat) : Int) from rfl, lI_tmod mR b1 (by omega), negmod, lI_neg, lI_i, Int.neg_neg, ← iI_nI]
    refine zd_go (ok_Na_become hG hl) [21] 60 ?_
    conv => whnf
    refine ⟨fun z => absurd z (nI_ge (b := 3) (by omega) (by omega)), fun z => ?_⟩
    conv => whnf
    refine ⟨_, hN.1, ?_⟩
    conv => whnf
    refine ⟨nz, ?_⟩
    conv => whnf
    refine ⟨_, _, hN.2.1, vp_in_nI (by omega) (by omega), ?_⟩
    rw [rm, nI_clamp (by omega)]
    conv => whnf
    refine ⟨nz, ?_⟩
    conv => whnf
    refine ⟨?_, trivial⟩
    have := ih (i + 1) (q / 1000000000) _ (zu g i (q % 1000000000)) (by omega) (f.set2 (Or.inr rfl)) (hN.put (i := i) (v := q % 1000000000) (Nat.mod_lt _ (by omega))) (by
      rw [zv_succ, zu_s, zv_zu_out (Nat.le_refl _), ← hv, Nat.pow_succ]
      have e := Nat.div_add_mod q 1000000000
      generalize q / 1000000000 = a at *
      generalize q % 1000000000 = b at *
      rw [← e, Nat.add_mul, Nat.mul_comm 1000000000 a, Nat.mul_assoc, Nat.mul_comm (1000000000 ^ i)]
      omega)
    rw [← nI_1 i, ← dv] at this
    exact this
theorem c_Na_become (hG : zd_G B) (hl : l.stackTraces = false) {k R n : Nat} {v : Int} {g : Nat → Nat} (hN : Nt B h k R g n) (hR : 3 ≤ R) (hz : lR v) (hr : Rm h)
    (hq : ∀ h' g' n', Fg B h h' (NS B k) 0 → Nt B h' k R g' n' → (n' = 0 ∨ g' (n' - 1) ≠ 0) → zv 1000000000 g' n' = v.natAbs → Q (.inl none) h') :
    zd_M l B m_Na_become [.ref (zd_b0 B + k), .long (lI v)] h Q := by
  have h12 : ∀ m : Nat, m ≤ 9223372036854775808 → m = v.natAbs → zd_W l B m_Na_become 12 [some (.ref (zd_b0 B + k)), some (.long (lI v)), none, none, none, none] [.long (lI (-(m : Int)))] h Q := by
    intro m hm hmz
    refine zd_go (ok_Na_become hG hl) [21] 60 ?_
    conv => whnf
    refine ⟨⟨_, hN.1⟩, ⟨rfl, Nat.le_of_ble_eq_true rfl, Nat.le_of_ble_eq_true rfl⟩, ?_⟩
    refine c_Na_claim hG hl hN (w := 3) (by omega) hr (fun h1 a1 a2 a3 => ?_) (fun h1 a1 a2 => by omega)
    conv => whnf
    refine ⟨?_, trivial⟩
    exact w_Na_become (h := h) hG hl hR hm (fun h' g' n' c1 c2 c3 c4 => hq h' g' n' c1 c2 c3 (by rw [c4, hmz])) 3 0 m h1 g (by omega) a2 a3 (by simp [zv])
  refine zd_go (ok_Na_become hG hl) [12] 60 ?_
  conv => whnf
  refine ⟨fun z => ?_, fun z => ?_⟩
  · have z' : v ≤ 0 := (lI_le hz ⟨by omega, by omega⟩).mp ((lg_cmp_le (lI v) 0).mp z)
    conv => whnf
    have := h12 v.natAbs (by unfold lR at hz; omega) rfl
    rw [show -((v.natAbs : Nat) : Int) = v by omega] at this
    exact ⟨this, trivial⟩
  · have z' : ¬ v ≤ 0 := fun q => z ((lg_cmp_le (lI v) 0).mpr ((lI_le hz ⟨by omega, by omega⟩).mpr q))
    conv => whnf
    have := h12 v.natAbs (by unfold lR at hz; omega) rfl
    rw [show -((v.natAbs : Nat) : Int) = -v by omega, ← lI_neg] at this
    exact ⟨this, trivial⟩
/-- trailing zeros: the second loop -/
theorem w_Na_tz37 (hG : zd_G B) (hl : l.stackTraces = false) {k R n i : Nat} {g : Nat → Nat} (hN : Nt B h k R g n) (hi : i < n) (hgi : g i ≠ 0)
    (hq : ∀ j, j < 9 → g i % 10 ^ j = 0 → g i % 10 ^ (j + 1) ≠ 0 → Q (.inl (some (.int (nI (9 * i + j))))) h) :
    ∀ (d j : Nat), j + d = 8 → g i % 10 ^ j = 0 → zd_W l B m_Na_trailingZeros 37 [some (.ref (zd_b0 B + k)), some (.int (nI i)), some (.int (nI j))] [] h Q := by
  have r1 := hN.2.2.1
  have r2 := hN.2.2.2.1
  have gl := hN.2.2.2.2 i
  intro d
  induction d with
  | zero =>
    intro j hd hj
    have e : j = 8 := by omega
    subst e
    refine zd_go (ok_Na_trailingZeros hG hl) [] 60 ?_
    conv => whnf
    refine ⟨fun z => ?_, fun z => absurd (by decide) z⟩
    conv => whnf
    refine ⟨rfl, ?_, trivial⟩
    have := hq 8 (by omega) hj (by rw [Nat.mod_eq_of_lt (by omega)]; exact hgi)
    rw [show nI i * 9 + nI 8 = nI (9 * i + 8) by rw [show (9 : Int32) = nI 9 from rfl, pk_mul, nI_add, Nat.mul_comm]]
    exact this
  | succ d ih =>
    intro j hd hj
    have ht := zd_tens_lt (i := j + 1) (by omega)
    have hp0 : 0 < 10 ^ (j + 1) := Nat.pow_pos (by decide)
    refine zd_go (ok_Na_trailingZeros hG hl) [37] 60 ?_
    conv => whnf
    refine ⟨fun z => absurd z (nI_ge (b := 8) (by omega) (by omega)), fun z => ?_⟩
    conv => whnf
    refine ⟨_, hN.1, ?_⟩
    conv => whnf
    refine ⟨_, _, Or.inl hN.2.1, vp_in_nI (by omega) (by omega), ?_⟩
    rw [nI_clamp (by omega)]
    conv => whnf
    refine ⟨10, _, Or.inr hG.2.2.2.2.1, by rw [nI_1]; exact vp_in_nI (by omega) (by omega), ?_⟩
    rw [nI_1, nI_clamp (by omega), show zd_tens (j + 1) = nI (10 ^ (j + 1)) from rfl]
    conv => whnf
    refine ⟨nI_ne0 hp0 ht, ?_⟩
    conv => whnf
    rw [pk_rem (by omega) hp0 ht]
    have hm : g i % 10 ^ (j + 1) < 2 ^ 31 := Nat.lt_of_le_of_lt (Nat.mod_le _ _) (by omega)
    refine ⟨fun z => ?_, fun z => ?_⟩
    · have z' : g i % 10 ^ (j + 1) ≠ 0 := fun e => z (by rw [e]; exact nI_0)
      conv => whnf
      refine ⟨rfl, ?_, trivial⟩
      rw [show nI i * 9 + nI j = nI (9 * i + j) by rw [show (9 : Int32) = nI 9 from rfl, pk_mul, nI_add, Nat.mul_comm]]
      exact hq j (by omega) hj z'
    · have z' : g i % 10 ^ (j + 1) = 0 := (nI_eq hm (by omega)).mp (z.trans nI_0.symm)
      conv => whnf
      refine ⟨?_, trivial⟩
      have := ih (j + 1) (by omega) z'
      rw [← nI_1 j] at this
      exact this
theorem w_Na_tz2 (hG : zd_G B) (hl : l.stackTraces = false) {k R n : Nat} {g : Nat → Nat} (hN : Nt B h k R g n) (hz : g (n - 1) ≠ 0) (hn : 0 < n)
    (hq : ∀ t, zv 1000000000 g n % 10 ^ t = 0 → zv 1000000000 g n % 10 ^ (t + 1) ≠ 0 → Q (.inl (some (.int (nI t)))) h) :
    ∀ (d i : Nat), i + d + 1 = n → (∀ q, q < i → g q = 0) → zd_W l B m_Na_trailingZeros 2 [some (.ref (zd_b0 B + k)), some (.int (nI i)), none] [] h Q := by
  have r1 := hN.2.2.1
  have r2 := hN.2.2.2.1
  have fin : ∀ i, i < n → g i ≠ 0 → (∀ q, q < i → g q = 0) → zd_W l B m_Na_trailingZeros 25 [some (.ref (zd_b0 B + k)), some (.int (nI i)), none] [] h Q := by
    intro i hi hgi hlow
    refine zd_go (ok_Na_trailingZeros hG hl) [37] 60 ?_
    conv => whnf
    refine ⟨_, hN.1, ?_⟩
    conv => whnf
    refine ⟨fun z => ?_, fun z => absurd ((nI_eq (by omega) (by omega)).mp z) (by omega)⟩
    conv => whnf
    refine ⟨?_, trivial⟩
    refine w_Na_tz37 hG hl hN hi hgi (fun j j1 j2 j3 => hq _ ?_ ?_) 8 0 (by omega) (by simp [Nat.mod_one])
    · have := (zv_down (g := g) (n := n) (p := 9 * i + j) (w := i) (r := j) hN.2.2.2.2 rfl j1 hi).2
      by_cases e : zv 1000000000 g n % 10 ^ (9 * i + j) = 0
      · exact e
      · rcases this.mp e with q | ⟨q, q1, q2⟩
        · exact absurd j2 q
        · exact absurd (hlow q q1) q2
    · by_cases e8 : j = 8
      · by_cases en : i + 1 < n
        · have := (zv_down (g := g) (n := n) (p := 9 * i + j + 1) (w := i + 1) (r := 0) hN.2.2.2.2 (by omega) (by omega) en).2
          exact this.mpr (Or.inr ⟨i, by omega, hgi⟩)
        · have hlt := zv_lt10 (g := g) (n := n) hN.2.2.2.2
          rw [Nat.mod_eq_of_lt (by rw [show 9 * i + j + 1 = 9 * n by omega]; exact hlt)]
          exact zv_pos hn (Or.inr hz)
      · have := (zv_down (g := g) (n := n) (p := 9 * i + j + 1) (w := i) (r := j + 1) hN.2.2.2.2 (by omega) (by omega) hi).2
        exact this.mpr (Or.inl j3)
  intro d
  induction d with
  | zero =>
    intro i hd hlow
    have e : i = n - 1 := by omega
    have gl := hN.2.2.2.2 i
    refine zd_go (ok_Na_trailingZeros hG hl) [25] 60 ?_
    conv => whnf
    refine ⟨_, hN.1, ?_⟩
    conv => whnf
    refine ⟨fun z => absurd z (nI_ge (by omega) (by omega)), fun z => ?_⟩
    conv => whnf
    refine ⟨_, hN.1, ?_⟩
    conv => whnf
    refine ⟨_, _, Or.inl hN.2.1, vp_in_nI (by omega) (by omega), ?_⟩
    rw [nI_clamp (by omega)]
    conv => whnf
    refine ⟨fun z => ?_, fun z => absurd ((nI_eq (by omega) (by omega)).mp (z.trans nI_0.symm)) (by rw [e]; exact hz)⟩
    conv => whnf
    exact ⟨fin i (by omega) (by rw [e]; exact hz) hlow, trivial⟩
  | succ d ih =>
    intro i hd hlow
    have gl := hN.2.2.2.2 i
    refine zd_go (ok_Na_trailingZeros hG hl) [25, 2] 60 ?_
    conv => whnf
    refine ⟨_, hN.1, ?_⟩
    conv => whnf
    refine ⟨fun z => absurd z (nI_ge (by omega) (by omega)), fun z => ?_⟩
    conv => whnf
    refine ⟨_, hN.1, ?_⟩
    conv => whnf
    refine ⟨_, _, Or.inl hN.2.1, vp_in_nI (by omega) (by omega), ?_⟩
    rw [nI_clamp (by omega)]
    conv => whnf
    refine ⟨fun z => ?_, fun z => ?_⟩
    · have z' : g i ≠ 0 := fun e => z (by show nI (g i) = 0; rw [e]; exact nI_0)
      conv => whnf
      exact ⟨fin i (by omega) z' hlow, trivial⟩
    · have z' : g i = 0 := (nI_eq (by omega) (by omega)).mp (z.trans nI_0.symm)
      conv => whnf
      refine ⟨?_, trivial⟩
      have := ih (i + 1) (by omega) (fun q hq => by
        by_cases e : q = i
        · rw [e]; exact z'
        · exact hlow q (by omega))
      rw [← nI_1 i] at this
      exact this
theorem c_Na_trailingZeros (hG : zd_G B) (hl : l.stackTraces = false) {k R n : Nat} {g : Nat → Nat} (hN : Nt B h k R g n) (hn : 0 < n) (hz : n = 0 ∨ g (n - 1) ≠ 0)
    (hq : ∀ t, zv 1000000000 g n % 10 ^ t = 0 → zv 1000000000 g n % 10 ^ (t + 1) ≠ 0 → Q (.inl (some (.int (nI t)))) h) : zd_M l B m_Na_trailingZeros [.ref (zd_b0 B + k)] h Q := by
  have hz' : g (n - 1) ≠ 0 := by rcases hz with e | e; omega; exact e
  refine zd_go (ok_Na_trailingZeros hG hl) [2] 60 ?_
  conv => whnf
  refine ⟨?_, trivial⟩
  exact w_Na_tz2 hG hl hN hz' hn hq (n - 1) 0 (by omega) (fun q hq => by omega)
end NJ
end
section
/-! written by gencode.py: code of Divider, Rooter, Decimal, Rough -/
theorem zx_Dv_24_26_28 : zx_F "DecimalDesk$Divider" 24 26 28 "java/lang/ArithmeticException" "divided by 0" := ⟨(List.mem_of_getElem? (i := 611) (by decide +kernel)), (List.mem_of_getElem? (i := 70) (by decide +kernel)), (List.mem_of_getElem? (i := 612) (by decide +kernel)), (List.mem_of_getElem? (i := 613) (by decide +kernel))⟩
theorem zx_Ru_55_57_59 : zx_F "DecimalDesk$Rough" 55 57 59 "java/lang/ArithmeticException" "rounding would be needed" := ⟨(List.mem_of_getElem? (i := 652) (by decide +kernel)), (List.mem_of_getElem? (i := 70) (by decide +kernel)), (List.mem_of_getElem? (i := 653) (by decide +kernel)), (List.mem_of_getElem? (i := 654) (by decide +kernel))⟩
theorem cf_Dc_accept_Na_copy : zd_cf m_Dc_accept m_Na_copy 1 := ⟨(List.mem_of_getElem? (i := 485) (by decide +kernel)), by decide +kernel, by decide, by decide, ⟨by decide, by decide⟩, by decide +kernel⟩
theorem cf_Dc_accept_Na_isZero : zd_cf m_Dc_accept m_Na_isZero 0 := ⟨(List.mem_of_getElem? (i := 492) (by decide +kernel)), by decide +kernel, by decide, by decide, ⟨by decide, by decide⟩, by decide +kernel⟩
theorem cf_Dc_init_Na_init : zd_cf m_Dc_init m_Na_init 1 := ⟨(List.mem_of_getElem? (i := 94) (by decide +kernel)), by decide +kernel, by decide, by decide, ⟨by decide, by decide⟩, by decide +kernel⟩
theorem cf_Dc_sign_Na_isZero : zd_cf m_Dc_sign m_Na_isZero 0 := ⟨(List.mem_of_getElem? (i := 492) (by decide +kernel)), by decide +kernel, by decide, by decide, ⟨by decide, by decide⟩, by decide +kernel⟩
theorem cf_Dv_init_Na_init : zd_cf m_Dv_init m_Na_init 1 := ⟨(List.mem_of_getElem? (i := 94) (by decide +kernel)), by decide +kernel, by decide, by decide, ⟨by decide, by decide⟩, by decide +kernel⟩
theorem cf_Dv_split_Dv_takeLimb : zd_cf m_Dv_split m_Dv_takeLimb 2 := ⟨(List.mem_of_getElem? (i := 624) (by decide +kernel)), by decide +kernel, by decide, by decide, ⟨by decide, by decide⟩, by decide +kernel⟩
theorem cf_Dv_split_Na_claim : zd_cf m_Dv_split m_Na_claim 1 := ⟨(List.mem_of_getElem? (i := 444) (by decide +kernel)), by decide +kernel, by decide, by decide, ⟨by decide, by decide⟩, by decide +kernel⟩
theorem cf_Dv_split_Na_copy : zd_cf m_Dv_split m_Na_copy 1 := ⟨(List.mem_of_getElem? (i := 485) (by decide +kernel)), by decide +kernel, by decide, by decide, ⟨by decide, by decide⟩, by decide +kernel⟩
theorem cf_Dv_split_Na_overSmall : zd_cf m_Dv_split m_Na_overSmall 1 := ⟨(List.mem_of_getElem? (i := 642) (by decide +kernel)), by decide +kernel, by decide, by decide, ⟨by decide, by decide⟩, by decide +kernel⟩
theorem cf_Dv_split_Na_timesSmall : zd_cf m_Dv_split m_Na_timesSmall 1 := ⟨(List.mem_of_getElem? (i := 620) (by decide +kernel)), by decide +kernel, by decide, by decide, ⟨by decide, by decide⟩, by decide +kernel⟩
theorem cf_Dv_split_Na_trim : zd_cf m_Dv_split m_Na_trim 0 := ⟨(List.mem_of_getElem? (i := 457) (by decide +kernel)), by decide +kernel, by decide, by decide, ⟨by decide, by decide⟩, by decide +kernel⟩
theorem cf_Dv_takeLimb_Dv_giveBack : zd_cf m_Dv_takeLimb m_Dv_giveBack 2 := ⟨(List.mem_of_getElem? (i := 637) (by decide +kernel)), by decide +kernel, by decide, by decide, ⟨by decide, by decide⟩, by decide +kernel⟩
theorem cf_Dv_takeLimb_Dv_guessLimb : zd_cf m_Dv_takeLimb m_Dv_guessLimb 2 := ⟨(List.mem_of_getElem? (i := 628) (by decide +kernel)), by decide +kernel, by decide, by decide, ⟨by decide, by decide⟩, by decide +kernel⟩
theorem cf_Dv_takeLimb_Dv_subtractTimes : zd_cf m_Dv_takeLimb m_Dv_subtractTimes 3 := ⟨(List.mem_of_getElem? (i := 633) (by decide +kernel)), by decide +kernel, by decide, by decide, ⟨by decide, by decide⟩, by decide +kernel⟩
theorem cf_Ro_descend_Dv_split : zd_cf m_Ro_descend m_Dv_split 3 := ⟨(List.mem_of_getElem? (i := 610) (by decide +kernel)), by decide +kernel, by decide, by decide, ⟨by decide, by decide⟩, by decide +kernel⟩
theorem cf_Ro_descend_Na_copy : zd_cf m_Ro_descend m_Na_copy 1 := ⟨(List.mem_of_getElem? (i := 485) (by decide +kernel)), by decide +kernel, by decide, by decide, ⟨by decide, by decide⟩, by decide +kernel⟩
theorem cf_Ro_descend_Na_isZero : zd_cf m_Ro_descend m_Na_isZero 0 := ⟨(List.mem_of_getElem? (i := 492) (by decide +kernel)), by decide +kernel, by decide, by decide, ⟨by decide, by decide⟩, by decide +kernel⟩
theorem cf_Ro_descend_Na_order : zd_cf m_Ro_descend m_Na_order 1 := ⟨(List.mem_of_getElem? (i := 564) (by decide +kernel)), by decide +kernel, by decide, by decide, ⟨by decide, by decide⟩, by decide +kernel⟩
theorem cf_Ro_descend_Na_overSmall : zd_cf m_Ro_descend m_Na_overSmall 1 := ⟨(List.mem_of_getElem? (i := 642) (by decide +kernel)), by decide +kernel, by decide, by decide, ⟨by decide, by decide⟩, by decide +kernel⟩
theorem cf_Ro_descend_Na_raiseBy : zd_cf m_Ro_descend m_Na_raiseBy 1 := ⟨(List.mem_of_getElem? (i := 559) (by decide +kernel)), by decide +kernel, by decide, by decide, ⟨by decide, by decide⟩, by decide +kernel⟩
theorem cf_Ro_extract_Ma_max : zd_cf m_Ro_extract m_Ma_max 2 := ⟨(List.mem_of_getElem? (i := 525) (by decide +kernel)), by decide +kernel, by decide, by decide, ⟨by decide, by decide⟩, by decide +kernel⟩
theorem cf_Ro_extract_Ma_min : zd_cf m_Ro_extract m_Ma_min 2 := ⟨(List.mem_of_getElem? (i := 689) (by decide +kernel)), by decide +kernel, by decide, by decide, ⟨by decide, by decide⟩, by decide +kernel⟩
theorem cf_Ro_extract_Na_claim : zd_cf m_Ro_extract m_Na_claim 1 := ⟨(List.mem_of_getElem? (i := 444) (by decide +kernel)), by decide +kernel, by decide, by decide, ⟨by decide, by decide⟩, by decide +kernel⟩
theorem cf_Ro_extract_Na_copy : zd_cf m_Ro_extract m_Na_copy 1 := ⟨(List.mem_of_getElem? (i := 485) (by decide +kernel)), by decide +kernel, by decide, by decide, ⟨by decide, by decide⟩, by decide +kernel⟩
theorem cf_Ro_extract_Na_increment : zd_cf m_Ro_extract m_Na_increment 0 := ⟨(List.mem_of_getElem? (i := 662) (by decide +kernel)), by decide +kernel, by decide, by decide, ⟨by decide, by decide⟩, by decide +kernel⟩
theorem cf_Ro_extract_Na_move : zd_cf m_Ro_extract m_Na_move 1 := ⟨(List.mem_of_getElem? (i := 539) (by decide +kernel)), by decide +kernel, by decide, by decide, ⟨by decide, by decide⟩, by decide +kernel⟩
theorem cf_Ro_extract_Ro_descend : zd_cf m_Ro_extract m_Ro_descend 1 := ⟨(List.mem_of_getElem? (i := 738) (by decide +kernel)), by decide +kernel, by decide, by decide, ⟨by decide, by decide⟩, by decide +kernel⟩
theorem cf_Ro_init_Na_init : zd_cf m_Ro_init m_Na_init 1 := ⟨(List.mem_of_getElem? (i := 94) (by decide +kernel)), by decide +kernel, by decide, by decide, ⟨by decide, by decide⟩, by decide +kernel⟩
theorem cf_Ru_cutTo_Na_move : zd_cf m_Ru_cutTo m_Na_move 1 := ⟨(List.mem_of_getElem? (i := 539) (by decide +kernel)), by decide +kernel, by decide, by decide, ⟨by decide, by decide⟩, by decide +kernel⟩
theorem cf_Ru_dropGuard_Na_digitAt : zd_cf m_Ru_dropGuard m_Na_digitAt 1 := ⟨(List.mem_of_getElem? (i := 650) (by decide +kernel)), by decide +kernel, by decide, by decide, ⟨by decide, by decide⟩, by decide +kernel⟩
theorem cf_Ru_dropGuard_Na_increment : zd_cf m_Ru_dropGuard m_Na_increment 0 := ⟨(List.mem_of_getElem? (i := 662) (by decide +kernel)), by decide +kernel, by decide, by decide, ⟨by decide, by decide⟩, by decide +kernel⟩
theorem cf_Ru_dropGuard_Ru_cutTo : zd_cf m_Ru_dropGuard m_Ru_cutTo 1 := ⟨(List.mem_of_getElem? (i := 535) (by decide +kernel)), by decide +kernel, by decide, by decide, ⟨by decide, by decide⟩, by decide +kernel⟩
theorem cf_Ru_dropGuard_Ru_goesOutwards : zd_cf m_Ru_dropGuard m_Ru_goesOutwards 3 := ⟨(List.mem_of_getElem? (i := 658) (by decide +kernel)), by decide +kernel, by decide, by decide, ⟨by decide, by decide⟩, by decide +kernel⟩
theorem cf_Ru_fitPrecision_Ma_max : zd_cf m_Ru_fitPrecision m_Ma_max 2 := ⟨(List.mem_of_getElem? (i := 525) (by decide +kernel)), by decide +kernel, by decide, by decide, ⟨by decide, by decide⟩, by decide +kernel⟩
theorem cf_Ru_fitPrecision_Ma_min : zd_cf m_Ru_fitPrecision m_Ma_min 2 := ⟨(List.mem_of_getElem? (i := 689) (by decide +kernel)), by decide +kernel, by decide, by decide, ⟨by decide, by decide⟩, by decide +kernel⟩
theorem cf_Ru_fitPrecision_Na_digitAt : zd_cf m_Ru_fitPrecision m_Na_digitAt 1 := ⟨(List.mem_of_getElem? (i := 650) (by decide +kernel)), by decide +kernel, by decide, by decide, ⟨by decide, by decide⟩, by decide +kernel⟩
theorem cf_Ru_fitPrecision_Na_digits : zd_cf m_Ru_fitPrecision m_Na_digits 0 := ⟨(List.mem_of_getElem? (i := 476) (by decide +kernel)), by decide +kernel, by decide, by decide, ⟨by decide, by decide⟩, by decide +kernel⟩
theorem cf_Ru_fitPrecision_Na_isZero : zd_cf m_Ru_fitPrecision m_Na_isZero 0 := ⟨(List.mem_of_getElem? (i := 492) (by decide +kernel)), by decide +kernel, by decide, by decide, ⟨by decide, by decide⟩, by decide +kernel⟩
theorem cf_Ru_fitPrecision_Na_trailingZeros : zd_cf m_Ru_fitPrecision m_Na_trailingZeros 0 := ⟨(List.mem_of_getElem? (i := 686) (by decide +kernel)), by decide +kernel, by decide, by decide, ⟨by decide, by decide⟩, by decide +kernel⟩
theorem cf_Ru_fitPrecision_Ru_cutTo : zd_cf m_Ru_fitPrecision m_Ru_cutTo 1 := ⟨(List.mem_of_getElem? (i := 535) (by decide +kernel)), by decide +kernel, by decide, by decide, ⟨by decide, by decide⟩, by decide +kernel⟩
theorem cf_Ru_fitPrecision_Ru_dropGuard : zd_cf m_Ru_fitPrecision m_Ru_dropGuard 1 := ⟨(List.mem_of_getElem? (i := 646) (by decide +kernel)), by decide +kernel, by decide, by decide, ⟨by decide, by decide⟩, by decide +kernel⟩
theorem cf_Ru_goesOutwards_Na_digitAt : zd_cf m_Ru_goesOutwards m_Na_digitAt 1 := ⟨(List.mem_of_getElem? (i := 650) (by decide +kernel)), by decide +kernel, by decide, by decide, ⟨by decide, by decide⟩, by decide +kernel⟩
theorem cf_Ru_init_Na_init : zd_cf m_Ru_init m_Na_init 1 := ⟨(List.mem_of_getElem? (i := 94) (by decide +kernel)), by decide +kernel, by decide, by decide, ⟨by decide, by decide⟩, by decide +kernel⟩
theorem cf_Ru_take_Na_copy : zd_cf m_Ru_take m_Na_copy 1 := ⟨(List.mem_of_getElem? (i := 485) (by decide +kernel)), by decide +kernel, by decide, by decide, ⟨by decide, by decide⟩, by decide +kernel⟩
theorem cf_Ru_take_Ru_describe : zd_cf m_Ru_take m_Ru_describe 2 := ⟨(List.mem_of_getElem? (i := 465) (by decide +kernel)), by decide +kernel, by decide, by decide, ⟨by decide, by decide⟩, by decide +kernel⟩
def dl_Dv_init : List (Nat × Instr × Nat) := [(0, .aload_n 0, 1), (1, .invokespecial 3, 3), (4, .aload_n 0, 1), (5, .new 9, 3), (8, .dup, 1), (9, .sipush (226), 3), (12, .invokespecial 11, 3), (15, .putfield 14, 3), (18, .return_, 1)]
theorem dc_Dv_init : ∀ q ∈ dl_Dv_init, decode (zd_yb m_Dv_init) q.1 = .ok q.2 := by decide +kernel
def cd_Dv_init (l : Launch) (B : zd_B) : List (Nat × zd_S) := [(0, oc_aload 0 1), (1, oc_oinit 4), (4, oc_aload 0 5), (5, oc_new B 4 2 [.null, .int 0] 8), (8, oc_dup 9), (9, oc_ci (226) 12), (12, oc_calli l B m_Na_init 1 15), (15, oc_putf B (zy2 0) 2 0 18), (18, oc_vret)]
set_option maxRecDepth 20000 in
theorem ok_Dv_init {l : Launch} {B : zd_B} (hG : zd_G B) (hl : l.stackTraces = false) : ∀ q ∈ cd_Dv_init l B, zd_ok l B m_Dv_init q.1 q.2 := by
  unfold cd_Dv_init
  refine zd_ac (ok_aload_n (l := l) (B := B) (y := m_Dv_init) (pc := 0) (k := 0) rfl (zd_dr dc_Dv_init 0 rfl)) ?_
  refine zd_ac (ok_oinit (l := l) (B := B) (y := m_Dv_init) (pc := 1) hG (List.mem_of_getElem? (i := 176) (by decide +kernel)) (List.mem_of_getElem? (i := 81) (by decide +kernel)) (List.mem_of_getElem? (i := 82) (by decide +kernel)) (by decide) (by decide) (zd_dr dc_Dv_init 1 rfl)) ?_
  refine zd_ac (ok_aload_n (l := l) (B := B) (y := m_Dv_init) (pc := 4) (k := 0) rfl (zd_dr dc_Dv_init 2 rfl)) ?_
  refine zd_ac (ok_new (l := l) (B := B) (y := m_Dv_init) (pc := 5) hG (C := zR4) (T := zT4) (ty := zy4) (N := 2) rfl zl4 zt4 (List.mem_of_getElem? (i := 177) (by decide +kernel)) (List.mem_of_getElem? (i := 91) (by decide +kernel)) (List.mem_of_getElem? (i := 58) (by decide +kernel)) (by decide) (zd_dr dc_Dv_init 3 rfl)) ?_
  refine zd_ac (ok_dup (l := l) (B := B) (y := m_Dv_init) (pc := 8) (zd_dr dc_Dv_init 4 rfl)) ?_
  refine zd_ac (ok_sipush (l := l) (B := B) (y := m_Dv_init) (pc := 9) (n := (226)) (zd_dr dc_Dv_init 5 rfl) rfl) ?_
  refine zd_ac (ok_calli (l := l) (B := B) (y := m_Dv_init) (pc := 12) hG cf_Dv_init_Na_init rfl rfl rfl rfl (List.mem_of_getElem? (i := 178) (by decide +kernel)) (List.mem_of_getElem? (i := 93) (by decide +kernel)) (zd_dr dc_Dv_init 6 rfl)) ?_
  refine zd_ac (ok_putfF (l := l) (B := B) (y := m_Dv_init) (pc := 15) hG (C := zR2) (T := zT2) (N := 1) (ci := 2) (k := 0) rfl zl2 zt2 (by decide) (List.mem_of_getElem? (i := 179) (by decide +kernel)) rfl rfl rfl (zd_dr dc_Dv_init 7 rfl)) ?_
  refine zd_ac (ok_vret (l := l) (B := B) (y := m_Dv_init) (pc := 18) rfl (zd_dr dc_Dv_init 8 rfl)) ?_
  exact zd_an
def dl_Dv_split : List (Nat × Instr × Nat) := [(0, .aload_n 2, 1), (1, .getfield 20, 3), (4, .ifCond .ne (13), 3), (7, .new 24, 3), (10, .dup, 1), (11, .ldc 26, 2), (13, .invokespecial 28, 3), (16, .athrow, 1), (17, .aload_n 3, 1), (18, .iconst (0), 1), (19, .invokevirtual 31, 3), (22, .aload_n 1, 1), (23, .getfield 20, 3), (26, .aload_n 2, 1), (27, .getfield 20, 3), (30, .if_icmp .ge (4), 3), (33, .return_, 1), (34, .ldc 34, 2), (36, .aload_n 2, 1), (37, .getfield 35, 3), (40, .aload_n 2, 1), (41, .getfield 20, 3), (44, .iconst (1), 1), (45, .isub, 1), (46, .iaload, 1), (47, .iconst (1), 1), (48, .iadd, 1), (49, .idiv, 1), (50, .istore 4, 2), (52, .aload_n 0, 1), (53, .getfield 14, 3), (56, .aload_n 2, 1), (57, .invokevirtual 39, 3), (60, .aload_n 0, 1), (61, .getfield 14, 3), (64, .iload 4, 2), (66, .invokevirtual 43, 3), (69, .aload_n 1, 1), (70, .getfield 20, 3), (73, .istore 5, 2), (75, .aload_n 1, 1), (76, .iload 4, 2), (78, .invokevirtual 43, 3), (81, .aload_n 1, 1), (82, .getfield 20, 3), (85, .iload 5, 2), (87, .if_icmp .ne (19), 3), (90, .aload_n 1, 1), (91, .iload 5, 2), (93, .iconst (1), 1), (94, .iadd, 1), (95, .invokevirtual 31, 3), (98, .aload_n 1, 1), (99, .getfield 35, 3), (102, .iload 5, 2), (104, .iconst (0), 1), (105, .iastore, 1), (106, .aload_n 3, 1), (107, .iload 5, 2), (109, .aload_n 0, 1), (110, .getfield 14, 3), (113, .getfield 20, 3), (116, .isub, 1), (117, .iconst (1), 1), (118, .iadd, 1), (119, .invokevirtual 31, 3), (122, .iload 5, 2), (124, .aload_n 0, 1), (125, .getfield 14, 3), (128, .getfield 20, 3), (131, .isub, 1), (132, .istore 6, 2), (134, .iload 6, 2), (136, .ifCond .lt (26), 3), (139, .aload_n 3, 1), (140, .getfield 35, 3), (143, .iload 6, 2), (145, .aload_n 0, 1), (146, .aload_n 1, 1), (147, .getfield 35, 3), (150, .iload 6, 2), (152, .invokevirtual 46, 3), (155, .iastore, 1), (156, .iinc 6 (-1), 3), (159, .goto (-25), 3), (162, .aload_n 3, 1), (163, .invokevirtual 50, 3), (166, .aload_n 1, 1), (167, .invokevirtual 50, 3), (170, .aload_n 1, 1), (171, .iload 4, 2), (173, .invokevirtual 53, 3), (176, .return_, 1)]
theorem dc_Dv_split : ∀ q ∈ dl_Dv_split, decode (zd_yb m_Dv_split) q.1 = .ok q.2 := by decide +kernel
def cd_Dv_split (l : Launch) (B : zd_B) : List (Nat × zd_S) := [(0, oc_aload 2 1), (1, oc_getf B 4 1 4), (4, oc_if_ne 17 7), (7, oc_throw B 11), (17, oc_aload 3 18), (18, oc_ci (0) 19), (19, oc_callv l B 4 m_Na_claim 1 22), (22, oc_aload 1 23), (23, oc_getf B 4 1 26), (26, oc_aload 2 27), (27, oc_getf B 4 1 30), (30, oc_icmp_ge 34 33), (33, oc_vret), (34, oc_ci (1000000000) 36), (36, oc_aload 2 37), (37, oc_getf B 4 0 40), (40, oc_aload 2 41), (41, oc_getf B 4 1 44), (44, oc_ci (1) 45), (45, oc_isub 46), (46, oc_iaload B 47), (47, oc_ci (1) 48), (48, oc_iadd 49), (49, oc_idiv 50), (50, oc_istore 4 52), (52, oc_aload 0 53), (53, oc_getf B 2 0 56), (56, oc_aload 2 57), (57, oc_callv l B 4 m_Na_copy 1 60), (60, oc_aload 0 61), (61, oc_getf B 2 0 64), (64, oc_iload 4 66), (66, oc_callv l B 4 m_Na_timesSmall 1 69), (69, oc_aload 1 70), (70, oc_getf B 4 1 73), (73, oc_istore 5 75), (75, oc_aload 1 76), (76, oc_iload 4 78), (78, oc_callv l B 4 m_Na_timesSmall 1 81), (81, oc_aload 1 82), (82, oc_getf B 4 1 85), (85, oc_iload 5 87), (87, oc_icmp_ne 106 90), (90, oc_aload 1 91), (91, oc_iload 5 93), (93, oc_ci (1) 94), (94, oc_iadd 95), (95, oc_callv l B 4 m_Na_claim 1 98), (98, oc_aload 1 99), (99, oc_getf B 4 0 102), (102, oc_iload 5 104), (104, oc_ci (0) 105), (105, oc_iastore B 106), (106, oc_aload 3 107), (107, oc_iload 5 109), (109, oc_aload 0 110), (110, oc_getf B 2 0 113), (113, oc_getf B 4 1 116), (116, oc_isub 117), (117, oc_ci (1) 118), (118, oc_iadd 119), (119, oc_callv l B 4 m_Na_claim 1 122), (122, oc_iload 5 124), (124, oc_aload 0 125), (125, oc_getf B 2 0 128), (128, oc_getf B 4 1 131), (131, oc_isub 132), (132, oc_istore 6 134), (134, oc_iload 6 136), (136, oc_if_lt 162 139), (139, oc_aload 3 140), (140, oc_getf B 4 0 143), (143, oc_iload 6 145), (145, oc_aload 0 146), (146, oc_aload 1 147), (147, oc_getf B 4 0 150), (150, oc_iload 6 152), (152, oc_callv l B 2 m_Dv_takeLimb 2 155), (155, oc_iastore B 156), (156, oc_iinc 6 (-1) 159), (159, oc_goto 134), (162, oc_aload 3 163), (163, oc_callv l B 4 m_Na_trim 0 166), (166, oc_aload 1 167), (167, oc_callv l B 4 m_Na_trim 0 170), (170, oc_aload 1 171), (171, oc_iload 4 173), (173, oc_callv l B 4 m_Na_overSmall 1 176), (176, oc_vret)]
set_option maxRecDepth 20000 in
theorem ok_Dv_split {l : Launch} {B : zd_B} (hG : zd_G B) (hl : l.stackTraces = false) : ∀ q ∈ cd_Dv_split l B, zd_ok l B m_Dv_split q.1 q.2 := by
  unfold cd_Dv_split
  refine zd_ac (ok_aload_n (l := l) (B := B) (y := m_Dv_split) (pc := 0) (k := 2) rfl (zd_dr dc_Dv_split 0 rfl)) ?_
  refine zd_ac (ok_getf (l := l) (B := B) (y := m_Dv_split) (pc := 1) hG (C := zR4) (T := zT4) (N := 2) (ci := 4) (k := 1) rfl zl4 (by decide) (List.mem_of_getElem? (i := 99) (by decide +kernel)) (zd_dr dc_Dv_split 1 rfl)) ?_
  refine zd_ac (ok_if_ne (l := l) (B := B) (y := m_Dv_split) (pc := 4) (zd_dr dc_Dv_split 2 rfl) (by decide)) ?_
  refine zd_ac (ok_throw (l := l) (B := B) (y := m_Dv_split) (pc := 7) hG hl zE11 zx_Dv_24_26_28 rfl (by decide) (by decide) (zd_dr dc_Dv_split 3 rfl) (zd_dr dc_Dv_split 4 rfl) (zd_dr dc_Dv_split 5 rfl) (zd_dr dc_Dv_split 6 rfl) (zd_dr dc_Dv_split 7 rfl)) ?_
  refine zd_ac (ok_aload_n (l := l) (B := B) (y := m_Dv_split) (pc := 17) (k := 3) rfl (zd_dr dc_Dv_split 8 rfl)) ?_
  refine zd_ac (ok_iconst (l := l) (B := B) (y := m_Dv_split) (pc := 18) (n := (0)) (zd_dr dc_Dv_split 9 rfl) rfl) ?_
  refine zd_ac (ok_callv (l := l) (B := B) (y := m_Dv_split) (pc := 19) hG (ci := 4) rfl cf_Dv_split_Na_claim rfl (List.mem_of_getElem? (i := 614) (by decide +kernel)) (List.mem_of_getElem? (i := 442) (by decide +kernel)) (List.mem_of_getElem? (i := 443) (by decide +kernel)) (zd_dr dc_Dv_split 10 rfl)) ?_
  refine zd_ac (ok_aload_n (l := l) (B := B) (y := m_Dv_split) (pc := 22) (k := 1) rfl (zd_dr dc_Dv_split 11 rfl)) ?_
  refine zd_ac (ok_getf (l := l) (B := B) (y := m_Dv_split) (pc := 23) hG (C := zR4) (T := zT4) (N := 2) (ci := 4) (k := 1) rfl zl4 (by decide) (List.mem_of_getElem? (i := 99) (by decide +kernel)) (zd_dr dc_Dv_split 12 rfl)) ?_
  refine zd_ac (ok_aload_n (l := l) (B := B) (y := m_Dv_split) (pc := 26) (k := 2) rfl (zd_dr dc_Dv_split 13 rfl)) ?_
  refine zd_ac (ok_getf (l := l) (B := B) (y := m_Dv_split) (pc := 27) hG (C := zR4) (T := zT4) (N := 2) (ci := 4) (k := 1) rfl zl4 (by decide) (List.mem_of_getElem? (i := 99) (by decide +kernel)) (zd_dr dc_Dv_split 14 rfl)) ?_
  refine zd_ac (ok_icmp_ge (l := l) (B := B) (y := m_Dv_split) (pc := 30) (zd_dr dc_Dv_split 15 rfl) (by decide)) ?_
  refine zd_ac (ok_vret (l := l) (B := B) (y := m_Dv_split) (pc := 33) rfl (zd_dr dc_Dv_split 16 rfl)) ?_
  refine zd_ac (ok_ldc (l := l) (B := B) (y := m_Dv_split) (pc := 34) hG (List.mem_of_getElem? (i := 615) (by decide +kernel)) (zd_dr dc_Dv_split 17 rfl)) ?_
  refine zd_ac (ok_aload_n (l := l) (B := B) (y := m_Dv_split) (pc := 36) (k := 2) rfl (zd_dr dc_Dv_split 18 rfl)) ?_
  refine zd_ac (ok_getf (l := l) (B := B) (y := m_Dv_split) (pc := 37) hG (C := zR4) (T := zT4) (N := 2) (ci := 4) (k := 0) rfl zl4 (by decide) (List.mem_of_getElem? (i := 97) (by decide +kernel)) (zd_dr dc_Dv_split 19 rfl)) ?_
  refine zd_ac (ok_aload_n (l := l) (B := B) (y := m_Dv_split) (pc := 40) (k := 2) rfl (zd_dr dc_Dv_split 20 rfl)) ?_
  refine zd_ac (ok_getf (l := l) (B := B) (y := m_Dv_split) (pc := 41) hG (C := zR4) (T := zT4) (N := 2) (ci := 4) (k := 1) rfl zl4 (by decide) (List.mem_of_getElem? (i := 99) (by decide +kernel)) (zd_dr dc_Dv_split 21 rfl)) ?_
  refine zd_ac (ok_iconst (l := l) (B := B) (y := m_Dv_split) (pc := 44) (n := (1)) (zd_dr dc_Dv_split 22 rfl) rfl) ?_
  refine zd_ac (ok_isub (l := l) (B := B) (y := m_Dv_split) (pc := 45) (zd_dr dc_Dv_split 23 rfl)) ?_
  refine zd_ac (ok_iaload (l := l) (B := B) (y := m_Dv_split) (pc := 46) hG (zd_dr dc_Dv_split 24 rfl)) ?_
  refine zd_ac (ok_iconst (l := l) (B := B) (y := m_Dv_split) (pc := 47) (n := (1)) (zd_dr dc_Dv_split 25 rfl) rfl) ?_
  refine zd_ac (ok_iadd (l := l) (B := B) (y := m_Dv_split) (pc := 48) (zd_dr dc_Dv_split 26 rfl)) ?_
  refine zd_ac (ok_idiv (l := l) (B := B) (y := m_Dv_split) (pc := 49) (zd_dr dc_Dv_split 27 rfl)) ?_
  refine zd_ac (ok_istore (l := l) (B := B) (y := m_Dv_split) (pc := 50) (zd_dr dc_Dv_split 28 rfl) (by decide)) ?_
  refine zd_ac (ok_aload_n (l := l) (B := B) (y := m_Dv_split) (pc := 52) (k := 0) rfl (zd_dr dc_Dv_split 29 rfl)) ?_
  refine zd_ac (ok_getf (l := l) (B := B) (y := m_Dv_split) (pc := 53) hG (C := zR2) (T := zT2) (N := 1) (ci := 2) (k := 0) rfl zl2 (by decide) (List.mem_of_getElem? (i := 179) (by decide +kernel)) (zd_dr dc_Dv_split 30 rfl)) ?_
  refine zd_ac (ok_aload_n (l := l) (B := B) (y := m_Dv_split) (pc := 56) (k := 2) rfl (zd_dr dc_Dv_split 31 rfl)) ?_
  refine zd_ac (ok_callv (l := l) (B := B) (y := m_Dv_split) (pc := 57) hG (ci := 4) rfl cf_Dv_split_Na_copy rfl (List.mem_of_getElem? (i := 616) (by decide +kernel)) (List.mem_of_getElem? (i := 483) (by decide +kernel)) (List.mem_of_getElem? (i := 484) (by decide +kernel)) (zd_dr dc_Dv_split 32 rfl)) ?_
  refine zd_ac (ok_aload_n (l := l) (B := B) (y := m_Dv_split) (pc := 60) (k := 0) rfl (zd_dr dc_Dv_split 33 rfl)) ?_
  refine zd_ac (ok_getf (l := l) (B := B) (y := m_Dv_split) (pc := 61) hG (C := zR2) (T := zT2) (N := 1) (ci := 2) (k := 0) rfl zl2 (by decide) (List.mem_of_getElem? (i := 179) (by decide +kernel)) (zd_dr dc_Dv_split 34 rfl)) ?_
  refine zd_ac (ok_iload (l := l) (B := B) (y := m_Dv_split) (pc := 64) (zd_dr dc_Dv_split 35 rfl)) ?_
  refine zd_ac (ok_callv (l := l) (B := B) (y := m_Dv_split) (pc := 66) hG (ci := 4) rfl cf_Dv_split_Na_timesSmall rfl (List.mem_of_getElem? (i := 617) (by decide +kernel)) (List.mem_of_getElem? (i := 618) (by decide +kernel)) (List.mem_of_getElem? (i := 619) (by decide +kernel)) (zd_dr dc_Dv_split 36 rfl)) ?_
  refine zd_ac (ok_aload_n (l := l) (B := B) (y := m_Dv_split) (pc := 69) (k := 1) rfl (zd_dr dc_Dv_split 37 rfl)) ?_
  refine zd_ac (ok_getf (l := l) (B := B) (y := m_Dv_split) (pc := 70) hG (C := zR4) (T := zT4) (N := 2) (ci := 4) (k := 1) rfl zl4 (by decide) (List.mem_of_getElem? (i := 99) (by decide +kernel)) (zd_dr dc_Dv_split 38 rfl)) ?_
  refine zd_ac (ok_istore (l := l) (B := B) (y := m_Dv_split) (pc := 73) (zd_dr dc_Dv_split 39 rfl) (by decide)) ?_
  refine zd_ac (ok_aload_n (l := l) (B := B) (y := m_Dv_split) (pc := 75) (k := 1) rfl (zd_dr dc_Dv_split 40 rfl)) ?_
  refine zd_ac (ok_iload (l := l) (B := B) (y := m_Dv_split) (pc := 76) (zd_dr dc_Dv_split 41 rfl)) ?_
  refine zd_ac (ok_callv (l := l) (B := B) (y := m_Dv_split) (pc := 78) hG (ci := 4) rfl cf_Dv_split_Na_timesSmall rfl (List.mem_of_getElem? (i := 617) (by decide +kernel)) (List.mem_of_getElem? (i := 618) (by decide +kernel)) (List.mem_of_getElem? (i := 619) (by decide +kernel)) (zd_dr dc_Dv_split 42 rfl)) ?_
  refine zd_ac (ok_aload_n (l := l) (B := B) (y := m_Dv_split) (pc := 81) (k := 1) rfl (zd_dr dc_Dv_split 43 rfl)) ?_
  refine zd_ac (ok_getf (l := l) (B := B) (y := m_Dv_split) (pc := 82) hG (C := zR4) (T := zT4) (N := 2) (ci := 4) (k := 1) rfl zl4 (by decide) (List.mem_of_getElem? (i := 99) (by decide +kernel)) (zd_dr dc_Dv_split 44 rfl)) ?_
  refine zd_ac (ok_iload (l := l) (B := B) (y := m_Dv_split) (pc := 85) (zd_dr dc_Dv_split 45 rfl)) ?_
  refine zd_ac (ok_icmp_ne (l := l) (B := B) (y := m_Dv_split) (pc := 87) (zd_dr dc_Dv_split 46 rfl) (by decide)) ?_
  refine zd_ac (ok_aload_n (l := l) (B := B) (y := m_Dv_split) (pc := 90) (k := 1) rfl (zd_dr dc_Dv_split 47 rfl)) ?_
  refine zd_ac (ok_iload (l := l) (B := B) (y := m_Dv_split) (pc := 91) (zd_dr dc_Dv_split 48 rfl)) ?_
  refine zd_ac (ok_iconst (l := l) (B := B) (y := m_Dv_split) (pc := 93) (n := (1)) (zd_dr dc_Dv_split 49 rfl) rfl) ?_
  refine zd_ac (ok_iadd (l := l) (B := B) (y := m_Dv_split) (pc := 94) (zd_dr dc_Dv_split 50 rfl)) ?_
  refine zd_ac (ok_callv (l := l) (B := B) (y := m_Dv_split) (pc := 95) hG (ci := 4) rfl cf_Dv_split_Na_claim rfl (List.mem_of_getElem? (i := 614) (by decide +kernel)) (List.mem_of_getElem? (i := 442) (by decide +kernel)) (List.mem_of_getElem? (i := 443) (by decide +kernel)) (zd_dr dc_Dv_split 51 rfl)) ?_
  refine zd_ac (ok_aload_n (l := l) (B := B) (y := m_Dv_split) (pc := 98) (k := 1) rfl (zd_dr dc_Dv_split 52 rfl)) ?_
  refine zd_ac (ok_getf (l := l) (B := B) (y := m_Dv_split) (pc := 99) hG (C := zR4) (T := zT4) (N := 2) (ci := 4) (k := 0) rfl zl4 (by decide) (List.mem_of_getElem? (i := 97) (by decide +kernel)) (zd_dr dc_Dv_split 53 rfl)) ?_
  refine zd_ac (ok_iload (l := l) (B := B) (y := m_Dv_split) (pc := 102) (zd_dr dc_Dv_split 54 rfl)) ?_
  refine zd_ac (ok_iconst (l := l) (B := B) (y := m_Dv_split) (pc := 104) (n := (0)) (zd_dr dc_Dv_split 55 rfl) rfl) ?_
  refine zd_ac (ok_iastore (l := l) (B := B) (y := m_Dv_split) (pc := 105) hG (zd_dr dc_Dv_split 56 rfl)) ?_
  refine zd_ac (ok_aload_n (l := l) (B := B) (y := m_Dv_split) (pc := 106) (k := 3) rfl (zd_dr dc_Dv_split 57 rfl)) ?_
  refine zd_ac (ok_iload (l := l) (B := B) (y := m_Dv_split) (pc := 107) (zd_dr dc_Dv_split 58 rfl)) ?_
  refine zd_ac (ok_aload_n (l := l) (B := B) (y := m_Dv_split) (pc := 109) (k := 0) rfl (zd_dr dc_Dv_split 59 rfl)) ?_
  refine zd_ac (ok_getf (l := l) (B := B) (y := m_Dv_split) (pc := 110) hG (C := zR2) (T := zT2) (N := 1) (ci := 2) (k := 0) rfl zl2 (by decide) (List.mem_of_getElem? (i := 179) (by decide +kernel)) (zd_dr dc_Dv_split 60 rfl)) ?_
  refine zd_ac (ok_getf (l := l) (B := B) (y := m_Dv_split) (pc := 113) hG (C := zR4) (T := zT4) (N := 2) (ci := 4) (k := 1) rfl zl4 (by decide) (List.mem_of_getElem? (i := 99) (by decide +kernel)) (zd_dr dc_Dv_split 61 rfl)) ?_
  refine zd_ac (ok_isub (l := l) (B := B) (y := m_Dv_split) (pc := 116) (zd_dr dc_Dv_split 62 rfl)) ?_
  refine zd_ac (ok_iconst (l := l) (B := B) (y := m_Dv_split) (pc := 117) (n := (1)) (zd_dr dc_Dv_split 63 rfl) rfl) ?_
  refine zd_ac (ok_iadd (l := l) (B := B) (y := m_Dv_split) (pc := 118) (zd_dr dc_Dv_split 64 rfl)) ?_
  refine zd_ac (ok_callv (l := l) (B := B) (y := m_Dv_split) (pc := 119) hG (ci := 4) rfl cf_Dv_split_Na_claim rfl (List.mem_of_getElem? (i := 614) (by decide +kernel)) (List.mem_of_getElem? (i := 442) (by decide +kernel)) (List.mem_of_getElem? (i := 443) (by decide +kernel)) (zd_dr dc_Dv_split 65 rfl)) ?_
  refine zd_ac (ok_iload (l := l) (B := B) (y := m_Dv_split) (pc := 122) (zd_dr dc_Dv_split 66 rfl)) ?_
  refine zd_ac (ok_aload_n (l := l) (B := B) (y := m_Dv_split) (pc := 124) (k := 0) rfl (zd_dr dc_Dv_split 67 rfl)) ?_
  refine zd_ac (ok_getf (l := l) (B := B) (y := m_Dv_split) (pc := 125) hG (C := zR2) (T := zT2) (N := 1) (ci := 2) (k := 0) rfl zl2 (by decide) (List.mem_of_getElem? (i := 179) (by decide +kernel)) (zd_dr dc_Dv_split 68 rfl)) ?_
  refine zd_ac (ok_getf (l := l) (B := B) (y := m_Dv_split) (pc := 128) hG (C := zR4) (T := zT4) (N := 2) (ci := 4) (k := 1) rfl zl4 (by decide) (List.mem_of_getElem? (i := 99) (by decide +kernel)) (zd_dr dc_Dv_split 69 rfl)) ?_
  refine zd_ac (ok_isub (l := l) (B := B) (y := m_Dv_split) (pc := 131) (zd_dr dc_Dv_split 70 rfl)) ?_
  refine zd_ac (ok_istore (l := l) (B := B) (y := m_Dv_split) (pc := 132) (zd_dr dc_Dv_split 71 rfl) (by decide)) ?_
  refine zd_ac (ok_iload (l := l) (B := B) (y := m_Dv_split) (pc := 134) (zd_dr dc_Dv_split 72 rfl)) ?_
  refine zd_ac (ok_if_lt (l := l) (B := B) (y := m_Dv_split) (pc := 136) (zd_dr dc_Dv_split 73 rfl) (by decide)) ?_
  refine zd_ac (ok_aload_n (l := l) (B := B) (y := m_Dv_split) (pc := 139) (k := 3) rfl (zd_dr dc_Dv_split 74 rfl)) ?_
  refine zd_ac (ok_getf (l := l) (B := B) (y := m_Dv_split) (pc := 140) hG (C := zR4) (T := zT4) (N := 2) (ci := 4) (k := 0) rfl zl4 (by decide) (List.mem_of_getElem? (i := 97) (by decide +kernel)) (zd_dr dc_Dv_split 75 rfl)) ?_
  refine zd_ac (ok_iload (l := l) (B := B) (y := m_Dv_split) (pc := 143) (zd_dr dc_Dv_split 76 rfl)) ?_
  refine zd_ac (ok_aload_n (l := l) (B := B) (y := m_Dv_split) (pc := 145) (k := 0) rfl (zd_dr dc_Dv_split 77 rfl)) ?_
  refine zd_ac (ok_aload_n (l := l) (B := B) (y := m_Dv_split) (pc := 146) (k := 1) rfl (zd_dr dc_Dv_split 78 rfl)) ?_
  refine zd_ac (ok_getf (l := l) (B := B) (y := m_Dv_split) (pc := 147) hG (C := zR4) (T := zT4) (N := 2) (ci := 4) (k := 0) rfl zl4 (by decide) (List.mem_of_getElem? (i := 97) (by decide +kernel)) (zd_dr dc_Dv_split 79 rfl)) ?_
  refine zd_ac (ok_iload (l := l) (B := B) (y := m_Dv_split) (pc := 150) (zd_dr dc_Dv_split 80 rfl)) ?_
  refine zd_ac (ok_callv (l := l) (B := B) (y := m_Dv_split) (pc := 152) hG (ci := 2) rfl cf_Dv_split_Dv_takeLimb rfl (List.mem_of_getElem? (i := 621) (by decide +kernel)) (List.mem_of_getElem? (i := 623) (by decide +kernel)) (List.mem_of_getElem? (i := 10) (by decide +kernel)) (zd_dr dc_Dv_split 81 rfl)) ?_
  refine zd_ac (ok_iastore (l := l) (B := B) (y := m_Dv_split) (pc := 155) hG (zd_dr dc_Dv_split 82 rfl)) ?_
  refine zd_ac (ok_iinc (l := l) (B := B) (y := m_Dv_split) (pc := 156) (zd_dr dc_Dv_split 83 rfl) (by decide) rfl) ?_
  refine zd_ac (ok_goto (l := l) (B := B) (y := m_Dv_split) (pc := 159) (zd_dr dc_Dv_split 84 rfl) (by decide)) ?_
  refine zd_ac (ok_aload_n (l := l) (B := B) (y := m_Dv_split) (pc := 162) (k := 3) rfl (zd_dr dc_Dv_split 85 rfl)) ?_
  refine zd_ac (ok_callv (l := l) (B := B) (y := m_Dv_split) (pc := 163) hG (ci := 4) rfl cf_Dv_split_Na_trim rfl (List.mem_of_getElem? (i := 638) (by decide +kernel)) (List.mem_of_getElem? (i := 455) (by decide +kernel)) (List.mem_of_getElem? (i := 456) (by decide +kernel)) (zd_dr dc_Dv_split 86 rfl)) ?_
  refine zd_ac (ok_aload_n (l := l) (B := B) (y := m_Dv_split) (pc := 166) (k := 1) rfl (zd_dr dc_Dv_split 87 rfl)) ?_
  refine zd_ac (ok_callv (l := l) (B := B) (y := m_Dv_split) (pc := 167) hG (ci := 4) rfl cf_Dv_split_Na_trim rfl (List.mem_of_getElem? (i := 638) (by decide +kernel)) (List.mem_of_getElem? (i := 455) (by decide +kernel)) (List.mem_of_getElem? (i := 456) (by decide +kernel)) (zd_dr dc_Dv_split 88 rfl)) ?_
  refine zd_ac (ok_aload_n (l := l) (B := B) (y := m_Dv_split) (pc := 170) (k := 1) rfl (zd_dr dc_Dv_split 89 rfl)) ?_
  refine zd_ac (ok_iload (l := l) (B := B) (y := m_Dv_split) (pc := 171) (zd_dr dc_Dv_split 90 rfl)) ?_
  refine zd_ac (ok_callv (l := l) (B := B) (y := m_Dv_split) (pc := 173) hG (ci := 4) rfl cf_Dv_split_Na_overSmall rfl (List.mem_of_getElem? (i := 639) (by decide +kernel)) (List.mem_of_getElem? (i := 640) (by decide +kernel)) (List.mem_of_getElem? (i := 641) (by decide +kernel)) (zd_dr dc_Dv_split 91 rfl)) ?_
  refine zd_ac (ok_vret (l := l) (B := B) (y := m_Dv_split) (pc := 176) rfl (zd_dr dc_Dv_split 92 rfl)) ?_
  exact zd_an
def dl_Dv_takeLimb : List (Nat × Instr × Nat) := [(0, .iload_n 2, 1), (1, .aload_n 0, 1), (2, .getfield 14, 3), (5, .getfield 20, 3), (8, .iadd, 1), (9, .istore_n 3, 1), (10, .aload_n 0, 1), (11, .aload_n 1, 1), (12, .iload_n 3, 1), (13, .invokevirtual 56, 3), (16, .lstore 4, 2), (18, .lload 4, 2), (20, .lconst 0, 1), (21, .lcmp, 1), (22, .ifCond .le (26), 3), (25, .aload_n 0, 1), (26, .aload_n 1, 1), (27, .iload_n 2, 1), (28, .lload 4, 2), (30, .invokevirtual 60, 3), (33, .ifCond .eq (15), 3), (36, .aload_n 0, 1), (37, .aload_n 1, 1), (38, .iload_n 2, 1), (39, .invokevirtual 64, 3), (42, .lload 4, 2), (44, .lconst 1, 1), (45, .lsub, 1), (46, .lstore 4, 2), (48, .lload 4, 2), (50, .l2i, 1), (51, .ireturn, 1)]
theorem dc_Dv_takeLimb : ∀ q ∈ dl_Dv_takeLimb, decode (zd_yb m_Dv_takeLimb) q.1 = .ok q.2 := by decide +kernel
def cd_Dv_takeLimb (l : Launch) (B : zd_B) : List (Nat × zd_S) := [(0, oc_iload 2 1), (1, oc_aload 0 2), (2, oc_getf B 2 0 5), (5, oc_getf B 4 1 8), (8, oc_iadd 9), (9, oc_istore 3 10), (10, oc_aload 0 11), (11, oc_aload 1 12), (12, oc_iload 3 13), (13, oc_callv l B 2 m_Dv_guessLimb 2 16), (16, oc_lstore 4 18), (18, oc_lload 4 20), (20, oc_cl 0 21), (21, oc_lcmp 22), (22, oc_if_le 48 25), (25, oc_aload 0 26), (26, oc_aload 1 27), (27, oc_iload 2 28), (28, oc_lload 4 30), (30, oc_callv l B 2 m_Dv_subtractTimes 3 33), (33, oc_if_eq 48 36), (36, oc_aload 0 37), (37, oc_aload 1 38), (38, oc_iload 2 39), (39, oc_callv l B 2 m_Dv_giveBack 2 42), (42, oc_lload 4 44), (44, oc_cl 1 45), (45, oc_lsub 46), (46, oc_lstore 4 48), (48, oc_lload 4 50), (50, oc_l2i 51), (51, oc_iret .int)]
set_option maxRecDepth 20000 in
theorem ok_Dv_takeLimb {l : Launch} {B : zd_B} (hG : zd_G B) (hl : l.stackTraces = false) : ∀ q ∈ cd_Dv_takeLimb l B, zd_ok l B m_Dv_takeLimb q.1 q.2 := by
  unfold cd_Dv_takeLimb
  refine zd_ac (ok_iload_n (l := l) (B := B) (y := m_Dv_takeLimb) (pc := 0) (k := 2) rfl (zd_dr dc_Dv_takeLimb 0 rfl)) ?_
  refine zd_ac (ok_aload_n (l := l) (B := B) (y := m_Dv_takeLimb) (pc := 1) (k := 0) rfl (zd_dr dc_Dv_takeLimb 1 rfl)) ?_
  refine zd_ac (ok_getf (l := l) (B := B) (y := m_Dv_takeLimb) (pc := 2) hG (C := zR2) (T := zT2) (N := 1) (ci := 2) (k := 0) rfl zl2 (by decide) (List.mem_of_getElem? (i := 179) (by decide +kernel)) (zd_dr dc_Dv_takeLimb 2 rfl)) ?_
  refine zd_ac (ok_getf (l := l) (B := B) (y := m_Dv_takeLimb) (pc := 5) hG (C := zR4) (T := zT4) (N := 2) (ci := 4) (k := 1) rfl zl4 (by decide) (List.mem_of_getElem? (i := 99) (by decide +kernel)) (zd_dr dc_Dv_takeLimb 3 rfl)) ?_
  refine zd_ac (ok_iadd (l := l) (B := B) (y := m_Dv_takeLimb) (pc := 8) (zd_dr dc_Dv_takeLimb 4 rfl)) ?_
  refine zd_ac (ok_istore_n (l := l) (B := B) (y := m_Dv_takeLimb) (pc := 9) (k := 3) rfl (zd_dr dc_Dv_takeLimb 5 rfl) (by decide)) ?_
  refine zd_ac (ok_aload_n (l := l) (B := B) (y := m_Dv_takeLimb) (pc := 10) (k := 0) rfl (zd_dr dc_Dv_takeLimb 6 rfl)) ?_
  refine zd_ac (ok_aload_n (l := l) (B := B) (y := m_Dv_takeLimb) (pc := 11) (k := 1) rfl (zd_dr dc_Dv_takeLimb 7 rfl)) ?_
  refine zd_ac (ok_iload_n (l := l) (B := B) (y := m_Dv_takeLimb) (pc := 12) (k := 3) rfl (zd_dr dc_Dv_takeLimb 8 rfl)) ?_
  refine zd_ac (ok_callv (l := l) (B := B) (y := m_Dv_takeLimb) (pc := 13) hG (ci := 2) rfl cf_Dv_takeLimb_Dv_guessLimb rfl (List.mem_of_getElem? (i := 625) (by decide +kernel)) (List.mem_of_getElem? (i := 627) (by decide +kernel)) (List.mem_of_getElem? (i := 11) (by decide +kernel)) (zd_dr dc_Dv_takeLimb 9 rfl)) ?_
  refine zd_ac (ok_lstore (l := l) (B := B) (y := m_Dv_takeLimb) (pc := 16) (zd_dr dc_Dv_takeLimb 10 rfl) (by decide)) ?_
  refine zd_ac (ok_lload (l := l) (B := B) (y := m_Dv_takeLimb) (pc := 18) (zd_dr dc_Dv_takeLimb 11 rfl)) ?_
  refine zd_ac (ok_lconst (l := l) (B := B) (y := m_Dv_takeLimb) (pc := 20) (n := 0) (zd_dr dc_Dv_takeLimb 12 rfl) rfl) ?_
  refine zd_ac (ok_lcmp (l := l) (B := B) (y := m_Dv_takeLimb) (pc := 21) (zd_dr dc_Dv_takeLimb 13 rfl)) ?_
  refine zd_ac (ok_if_le (l := l) (B := B) (y := m_Dv_takeLimb) (pc := 22) (zd_dr dc_Dv_takeLimb 14 rfl) (by decide)) ?_
  refine zd_ac (ok_aload_n (l := l) (B := B) (y := m_Dv_takeLimb) (pc := 25) (k := 0) rfl (zd_dr dc_Dv_takeLimb 15 rfl)) ?_
  refine zd_ac (ok_aload_n (l := l) (B := B) (y := m_Dv_takeLimb) (pc := 26) (k := 1) rfl (zd_dr dc_Dv_takeLimb 16 rfl)) ?_
  refine zd_ac (ok_iload_n (l := l) (B := B) (y := m_Dv_takeLimb) (pc := 27) (k := 2) rfl (zd_dr dc_Dv_takeLimb 17 rfl)) ?_
  refine zd_ac (ok_lload (l := l) (B := B) (y := m_Dv_takeLimb) (pc := 28) (zd_dr dc_Dv_takeLimb 18 rfl)) ?_
  refine zd_ac (ok_callv (l := l) (B := B) (y := m_Dv_takeLimb) (pc := 30) hG (ci := 2) rfl cf_Dv_takeLimb_Dv_subtractTimes rfl (List.mem_of_getElem? (i := 630) (by decide +kernel)) (List.mem_of_getElem? (i := 632) (by decide +kernel)) (List.mem_of_getElem? (i := 12) (by decide +kernel)) (zd_dr dc_Dv_takeLimb 19 rfl)) ?_
  refine zd_ac (ok_if_eq (l := l) (B := B) (y := m_Dv_takeLimb) (pc := 33) (zd_dr dc_Dv_takeLimb 20 rfl) (by decide)) ?_
  refine zd_ac (ok_aload_n (l := l) (B := B) (y := m_Dv_takeLimb) (pc := 36) (k := 0) rfl (zd_dr dc_Dv_takeLimb 21 rfl)) ?_
  refine zd_ac (ok_aload_n (l := l) (B := B) (y := m_Dv_takeLimb) (pc := 37) (k := 1) rfl (zd_dr dc_Dv_takeLimb 22 rfl)) ?_
  refine zd_ac (ok_iload_n (l := l) (B := B) (y := m_Dv_takeLimb) (pc := 38) (k := 2) rfl (zd_dr dc_Dv_takeLimb 23 rfl)) ?_
  refine zd_ac (ok_callv (l := l) (B := B) (y := m_Dv_takeLimb) (pc := 39) hG (ci := 2) rfl cf_Dv_takeLimb_Dv_giveBack rfl (List.mem_of_getElem? (i := 634) (by decide +kernel)) (List.mem_of_getElem? (i := 636) (by decide +kernel)) (List.mem_of_getElem? (i := 13) (by decide +kernel)) (zd_dr dc_Dv_takeLimb 24 rfl)) ?_
  refine zd_ac (ok_lload (l := l) (B := B) (y := m_Dv_takeLimb) (pc := 42) (zd_dr dc_Dv_takeLimb 25 rfl)) ?_
  refine zd_ac (ok_lconst (l := l) (B := B) (y := m_Dv_takeLimb) (pc := 44) (n := 1) (zd_dr dc_Dv_takeLimb 26 rfl) rfl) ?_
  refine zd_ac (ok_lsub (l := l) (B := B) (y := m_Dv_takeLimb) (pc := 45) (zd_dr dc_Dv_takeLimb 27 rfl)) ?_
  refine zd_ac (ok_lstore (l := l) (B := B) (y := m_Dv_takeLimb) (pc := 46) (zd_dr dc_Dv_takeLimb 28 rfl) (by decide)) ?_
  refine zd_ac (ok_lload (l := l) (B := B) (y := m_Dv_takeLimb) (pc := 48) (zd_dr dc_Dv_takeLimb 29 rfl)) ?_
  refine zd_ac (ok_l2i (l := l) (B := B) (y := m_Dv_takeLimb) (pc := 50) (zd_dr dc_Dv_takeLimb 30 rfl)) ?_
  refine zd_ac (ok_iret (l := l) (B := B) (y := m_Dv_takeLimb) (pc := 51) rfl (zd_dr dc_Dv_takeLimb 31 rfl)) ?_
  exact zd_an
def dl_Dv_guessLimb : List (Nat × Instr × Nat) := [(0, .aload_n 0, 1), (1, .getfield 14, 3), (4, .getfield 20, 3), (7, .istore_n 3, 1), (8, .aload_n 0, 1), (9, .getfield 14, 3), (12, .getfield 35, 3), (15, .iload_n 3, 1), (16, .iconst (1), 1), (17, .isub, 1), (18, .iaload, 1), (19, .i2l, 1), (20, .lstore 4, 2), (22, .iload_n 3, 1), (23, .iconst (1), 1), (24, .if_icmp .le (18), 3), (27, .aload_n 0, 1), (28, .getfield 14, 3), (31, .getfield 35, 3), (34, .iload_n 3, 1), (35, .iconst (2), 1), (36, .isub, 1), (37, .iaload, 1), (38, .i2l, 1), (39, .goto (4), 3), (42, .lconst 0, 1), (43, .lstore 6, 2), (45, .iload_n 3, 1), (46, .iconst (1), 1), (47, .if_icmp .le (12), 3), (50, .aload_n 1, 1), (51, .iload_n 2, 1), (52, .iconst (2), 1), (53, .isub, 1), (54, .iaload, 1), (55, .i2l, 1), (56, .goto (4), 3), (59, .lconst 0, 1), (60, .lstore 8, 2), (62, .aload_n 1, 1), (63, .iload_n 2, 1), (64, .iaload, 1), (65, .i2l, 1), (66, .ldc2_w 68, 3), (69, .lmul, 1), (70, .aload_n 1, 1), (71, .iload_n 2, 1), (72, .iconst (1), 1), (73, .isub, 1), (74, .iaload, 1), (75, .i2l, 1), (76, .ladd, 1), (77, .lstore 10, 2), (79, .lload 10, 2), (81, .lload 4, 2), (83, .ldiv, 1), (84, .lstore 12, 2), (86, .lload 10, 2), (88, .lload 12, 2), (90, .lload 4, 2), (92, .lmul, 1), (93, .lsub, 1), (94, .lstore 14, 2), (96, .iconst (0), 1), (97, .istore 16, 2), (99, .iload 16, 2), (101, .iconst (2), 1), (102, .if_icmp .ge (61), 3), (105, .lload 14, 2), (107, .ldc2_w 68, 3), (110, .lcmp, 1), (111, .ifCond .ge (52), 3), (114, .lload 12, 2), (116, .ldc2_w 68, 3), (119, .lcmp, 1), (120, .ifCond .ge (24), 3), (123, .lload 12, 2), (125, .lload 6, 2), (127, .lmul, 1), (128, .lload 14, 2), (130, .ldc2_w 68, 3), (133, .lmul, 1), (134, .lload 8, 2), (136, .ladd, 1), (137, .lcmp, 1), (138, .ifCond .gt (6), 3), (141, .goto (22), 3), (144, .lload 12, 2), (146, .lconst 1, 1), (147, .lsub, 1), (148, .lstore 12, 2), (150, .lload 14, 2), (152, .lload 4, 2), (154, .ladd, 1), (155, .lstore 14, 2), (157, .iinc 16 (1), 3), (160, .goto (-61), 3), (163, .lload 12, 2), (165, .lreturn, 1)]
theorem dc_Dv_guessLimb : ∀ q ∈ dl_Dv_guessLimb, decode (zd_yb m_Dv_guessLimb) q.1 = .ok q.2 := by decide +kernel
def cd_Dv_guessLimb (l : Launch) (B : zd_B) : List (Nat × zd_S) := [(0, oc_aload 0 1), (1, oc_getf B 2 0 4), (4, oc_getf B 4 1 7), (7, oc_istore 3 8), (8, oc_aload 0 9), (9, oc_getf B 2 0 12), (12, oc_getf B 4 0 15), (15, oc_iload 3 16), (16, oc_ci (1) 17), (17, oc_isub 18), (18, oc_iaload B 19), (19, oc_i2l 20), (20, oc_lstore 4 22), (22, oc_iload 3 23), (23, oc_ci (1) 24), (24, oc_icmp_le 42 27), (27, oc_aload 0 28), (28, oc_getf B 2 0 31), (31, oc_getf B 4 0 34), (34, oc_iload 3 35), (35, oc_ci (2) 36), (36, oc_isub 37), (37, oc_iaload B 38), (38, oc_i2l 39), (39, oc_goto 43), (42, oc_cl 0 43), (43, oc_lstore 6 45), (45, oc_iload 3 46), (46, oc_ci (1) 47), (47, oc_icmp_le 59 50), (50, oc_aload 1 51), (51, oc_iload 2 52), (52, oc_ci (2) 53), (53, oc_isub 54), (54, oc_iaload B 55), (55, oc_i2l 56), (56, oc_goto 60), (59, oc_cl 0 60), (60, oc_lstore 8 62), (62, oc_aload 1 63), (63, oc_iload 2 64), (64, oc_iaload B 65), (65, oc_i2l 66), (66, oc_cl (1000000000) 69), (69, oc_lmul 70), (70, oc_aload 1 71), (71, oc_iload 2 72), (72, oc_ci (1) 73), (73, oc_isub 74), (74, oc_iaload B 75), (75, oc_i2l 76), (76, oc_ladd 77), (77, oc_lstore 10 79), (79, oc_lload 10 81), (81, oc_lload 4 83), (83, oc_ldiv 84), (84, oc_lstore 12 86), (86, oc_lload 10 88), (88, oc_lload 12 90), (90, oc_lload 4 92), (92, oc_lmul 93), (93, oc_lsub 94), (94, oc_lstore 14 96), (96, oc_ci (0) 97), (97, oc_istore 16 99), (99, oc_iload 16 101), (101, oc_ci (2) 102), (102, oc_icmp_ge 163 105), (105, oc_lload 14 107), (107, oc_cl (1000000000) 110), (110, oc_lcmp 111), (111, oc_if_ge 163 114), (114, oc_lload 12 116), (116, oc_cl (1000000000) 119), (119, oc_lcmp 120), (120, oc_if_ge 144 123), (123, oc_lload 12 125), (125, oc_lload 6 127), (127, oc_lmul 128), (128, oc_lload 14 130), (130, oc_cl (1000000000) 133), (133, oc_lmul 134), (134, oc_lload 8 136), (136, oc_ladd 137), (137, oc_lcmp 138), (138, oc_if_gt 144 141), (141, oc_goto 163), (144, oc_lload 12 146), (146, oc_cl 1 147), (147, oc_lsub 148), (148, oc_lstore 12 150), (150, oc_lload 14 152), (152, oc_lload 4 154), (154, oc_ladd 155), (155, oc_lstore 14 157), (157, oc_iinc 16 (1) 160), (160, oc_goto 99), (163, oc_lload 12 165), (165, oc_lret)]
set_option maxRecDepth 20000 in
theorem ok_Dv_guessLimb {l : Launch} {B : zd_B} (hG : zd_G B) (hl : l.stackTraces = false) : ∀ q ∈ cd_Dv_guessLimb l B, zd_ok l B m_Dv_guessLimb q.1 q.2 := by
  unfold cd_Dv_guessLimb
  refine zd_ac (ok_aload_n (l := l) (B := B) (y := m_Dv_guessLimb) (pc := 0) (k := 0) rfl (zd_dr dc_Dv_guessLimb 0 rfl)) ?_
  refine zd_ac (ok_getf (l := l) (B := B) (y := m_Dv_guessLimb) (pc := 1) hG (C := zR2) (T := zT2) (N := 1) (ci := 2) (k := 0) rfl zl2 (by decide) (List.mem_of_getElem? (i := 179) (by decide +kernel)) (zd_dr dc_Dv_guessLimb 1 rfl)) ?_
  refine zd_ac (ok_getf (l := l) (B := B) (y := m_Dv_guessLimb) (pc := 4) hG (C := zR4) (T := zT4) (N := 2) (ci := 4) (k := 1) rfl zl4 (by decide) (List.mem_of_getElem? (i := 99) (by decide +kernel)) (zd_dr dc_Dv_guessLimb 2 rfl)) ?_
  refine zd_ac (ok_istore_n (l := l) (B := B) (y := m_Dv_guessLimb) (pc := 7) (k := 3) rfl (zd_dr dc_Dv_guessLimb 3 rfl) (by decide)) ?_
  refine zd_ac (ok_aload_n (l := l) (B := B) (y := m_Dv_guessLimb) (pc := 8) (k := 0) rfl (zd_dr dc_Dv_guessLimb 4 rfl)) ?_
  refine zd_ac (ok_getf (l := l) (B := B) (y := m_Dv_guessLimb) (pc := 9) hG (C := zR2) (T := zT2) (N := 1) (ci := 2) (k := 0) rfl zl2 (by decide) (List.mem_of_getElem? (i := 179) (by decide +kernel)) (zd_dr dc_Dv_guessLimb 5 rfl)) ?_
  refine zd_ac (ok_getf (l := l) (B := B) (y := m_Dv_guessLimb) (pc := 12) hG (C := zR4) (T := zT4) (N := 2) (ci := 4) (k := 0) rfl zl4 (by decide) (List.mem_of_getElem? (i := 97) (by decide +kernel)) (zd_dr dc_Dv_guessLimb 6 rfl)) ?_
  refine zd_ac (ok_iload_n (l := l) (B := B) (y := m_Dv_guessLimb) (pc := 15) (k := 3) rfl (zd_dr dc_Dv_guessLimb 7 rfl)) ?_
  refine zd_ac (ok_iconst (l := l) (B := B) (y := m_Dv_guessLimb) (pc := 16) (n := (1)) (zd_dr dc_Dv_guessLimb 8 rfl) rfl) ?_
  refine zd_ac (ok_isub (l := l) (B := B) (y := m_Dv_guessLimb) (pc := 17) (zd_dr dc_Dv_guessLimb 9 rfl)) ?_
  refine zd_ac (ok_iaload (l := l) (B := B) (y := m_Dv_guessLimb) (pc := 18) hG (zd_dr dc_Dv_guessLimb 10 rfl)) ?_
  refine zd_ac (ok_i2l (l := l) (B := B) (y := m_Dv_guessLimb) (pc := 19) (zd_dr dc_Dv_guessLimb 11 rfl)) ?_
  refine zd_ac (ok_lstore (l := l) (B := B) (y := m_Dv_guessLimb) (pc := 20) (zd_dr dc_Dv_guessLimb 12 rfl) (by decide)) ?_
  refine zd_ac (ok_iload_n (l := l) (B := B) (y := m_Dv_guessLimb) (pc := 22) (k := 3) rfl (zd_dr dc_Dv_guessLimb 13 rfl)) ?_
  refine zd_ac (ok_iconst (l := l) (B := B) (y := m_Dv_guessLimb) (pc := 23) (n := (1)) (zd_dr dc_Dv_guessLimb 14 rfl) rfl) ?_
  refine zd_ac (ok_icmp_le (l := l) (B := B) (y := m_Dv_guessLimb) (pc := 24) (zd_dr dc_Dv_guessLimb 15 rfl) (by decide)) ?_
  refine zd_ac (ok_aload_n (l := l) (B := B) (y := m_Dv_guessLimb) (pc := 27) (k := 0) rfl (zd_dr dc_Dv_guessLimb 16 rfl)) ?_
  refine zd_ac (ok_getf (l := l) (B := B) (y := m_Dv_guessLimb) (pc := 28) hG (C := zR2) (T := zT2) (N := 1) (ci := 2) (k := 0) rfl zl2 (by decide) (List.mem_of_getElem? (i := 179) (by decide +kernel)) (zd_dr dc_Dv_guessLimb 17 rfl)) ?_
  refine zd_ac (ok_getf (l := l) (B := B) (y := m_Dv_guessLimb) (pc := 31) hG (C := zR4) (T := zT4) (N := 2) (ci := 4) (k := 0) rfl zl4 (by decide) (List.mem_of_getElem? (i := 97) (by decide +kernel)) (zd_dr dc_Dv_guessLimb 18 rfl)) ?_
  refine zd_ac (ok_iload_n (l := l) (B := B) (y := m_Dv_guessLimb) (pc := 34) (k := 3) rfl (zd_dr dc_Dv_guessLimb 19 rfl)) ?_
  refine zd_ac (ok_iconst (l := l) (B := B) (y := m_Dv_guessLimb) (pc := 35) (n := (2)) (zd_dr dc_Dv_guessLimb 20 rfl) rfl) ?_
  refine zd_ac (ok_isub (l := l) (B := B) (y := m_Dv_guessLimb) (pc := 36) (zd_dr dc_Dv_guessLimb 21 rfl)) ?_
  refine zd_ac (ok_iaload (l := l) (B := B) (y := m_Dv_guessLimb) (pc := 37) hG (zd_dr dc_Dv_guessLimb 22 rfl)) ?_
  refine zd_ac (ok_i2l (l := l) (B := B) (y := m_Dv_guessLimb) (pc := 38) (zd_dr dc_Dv_guessLimb 23 rfl)) ?_
  refine zd_ac (ok_goto (l := l) (B := B) (y := m_Dv_guessLimb) (pc := 39) (zd_dr dc_Dv_guessLimb 24 rfl) (by decide)) ?_
  refine zd_ac (ok_lconst (l := l) (B := B) (y := m_Dv_guessLimb) (pc := 42) (n := 0) (zd_dr dc_Dv_guessLimb 25 rfl) rfl) ?_
  refine zd_ac (ok_lstore (l := l) (B := B) (y := m_Dv_guessLimb) (pc := 43) (zd_dr dc_Dv_guessLimb 26 rfl) (by decide)) ?_
  refine zd_ac (ok_iload_n (l := l) (B := B) (y := m_Dv_guessLimb) (pc := 45) (k := 3) rfl (zd_dr dc_Dv_guessLimb 27 rfl)) ?_
  refine zd_ac (ok_iconst (l := l) (B := B) (y := m_Dv_guessLimb) (pc := 46) (n := (1)) (zd_dr dc_Dv_guessLimb 28 rfl) rfl) ?_
  refine zd_ac (ok_icmp_le (l := l) (B := B) (y := m_Dv_guessLimb) (pc := 47) (zd_dr dc_Dv_guessLimb 29 rfl) (by decide)) ?_
  refine zd_ac (ok_aload_n (l := l) (B := B) (y := m_Dv_guessLimb) (pc := 50) (k := 1) rfl (zd_dr dc_Dv_guessLimb 30 rfl)) ?_
  refine zd_ac (ok_iload_n (l := l) (B := B) (y := m_Dv_guessLimb) (pc := 51) (k := 2) rfl (zd_dr dc_Dv_guessLimb 31 rfl)) ?_
  refine zd_ac (ok_iconst (l := l) (B := B) (y := m_Dv_guessLimb) (pc := 52) (n := (2)) (zd_dr dc_Dv_guessLimb 32 rfl) rfl) ?_
  refine zd_ac (ok_isub (l := l) (B := B) (y := m_Dv_guessLimb) (pc := 53) (zd_dr dc_Dv_guessLimb 33 rfl)) ?_
  refine zd_ac (ok_iaload (l := l) (B := B) (y := m_Dv_guessLimb) (pc := 54) hG (zd_dr dc_Dv_guessLimb 34 rfl)) ?_
  refine zd_ac (ok_i2l (l := l) (B := B) (y := m_Dv_guessLimb) (pc := 55) (zd_dr dc_Dv_guessLimb 35 rfl)) ?_
  refine zd_ac (ok_goto (l := l) (B := B) (y := m_Dv_guessLimb) (pc := 56) (zd_dr dc_Dv_guessLimb 36 rfl) (by decide)) ?_
  refine zd_ac (ok_lconst (l := l) (B := B) (y := m_Dv_guessLimb) (pc := 59) (n := 0) (zd_dr dc_Dv_guessLimb 37 rfl) rfl) ?_
  refine zd_ac (ok_lstore (l := l) (B := B) (y := m_Dv_guessLimb) (pc := 60) (zd_dr dc_Dv_guessLimb 38 rfl) (by decide)) ?_
  refine zd_ac (ok_aload_n (l := l) (B := B) (y := m_Dv_guessLimb) (pc := 62) (k := 1) rfl (zd_dr dc_Dv_guessLimb 39 rfl)) ?_
  refine zd_ac (ok_iload_n (l := l) (B := B) (y := m_Dv_guessLimb) (pc := 63) (k := 2) rfl (zd_dr dc_Dv_guessLimb 40 rfl)) ?_
  refine zd_ac (ok_iaload (l := l) (B := B) (y := m_Dv_guessLimb) (pc := 64) hG (zd_dr dc_Dv_guessLimb 41 rfl)) ?_
  refine zd_ac (ok_i2l (l := l) (B := B) (y := m_Dv_guessLimb) (pc := 65) (zd_dr dc_Dv_guessLimb 42 rfl)) ?_
  refine zd_ac (ok_ldc2 (l := l) (B := B) (y := m_Dv_guessLimb) (pc := 66) hG (List.mem_of_getElem? (i := 629) (by decide +kernel)) (zd_dr dc_Dv_guessLimb 43 rfl)) ?_
  refine zd_ac (ok_lmul (l := l) (B := B) (y := m_Dv_guessLimb) (pc := 69) (zd_dr dc_Dv_guessLimb 44 rfl)) ?_
  refine zd_ac (ok_aload_n (l := l) (B := B) (y := m_Dv_guessLimb) (pc := 70) (k := 1) rfl (zd_dr dc_Dv_guessLimb 45 rfl)) ?_
  refine zd_ac (ok_iload_n (l := l) (B := B) (y := m_Dv_guessLimb) (pc := 71) (k := 2) rfl (zd_dr dc_Dv_guessLimb 46 rfl)) ?_
  refine zd_ac (ok_iconst (l := l) (B := B) (y := m_Dv_guessLimb) (pc := 72) (n := (1)) (zd_dr dc_Dv_guessLimb 47 rfl) rfl) ?_
  refine zd_ac (ok_isub (l := l) (B := B) (y := m_Dv_guessLimb) (pc := 73) (zd_dr dc_Dv_guessLimb 48 rfl)) ?_
  refine zd_ac (ok_iaload (l := l) (B := B) (y := m_Dv_guessLimb) (pc := 74) hG (zd_dr dc_Dv_guessLimb 49 rfl)) ?_
  refine zd_ac (ok_i2l (l := l) (B := B) (y := m_Dv_guessLimb) (pc := 75) (zd_dr dc_Dv_guessLimb 50 rfl)) ?_
  refine zd_ac (ok_ladd (l := l) (B := B) (y := m_Dv_guessLimb) (pc := 76) (zd_dr dc_Dv_guessLimb 51 rfl)) ?_
  refine zd_ac (ok_lstore (l := l) (B := B) (y := m_Dv_guessLimb) (pc := 77) (zd_dr dc_Dv_guessLimb 52 rfl) (by decide)) ?_
  refine zd_ac (ok_lload (l := l) (B := B) (y := m_Dv_guessLimb) (pc := 79) (zd_dr dc_Dv_guessLimb 53 rfl)) ?_
  refine zd_ac (ok_lload (l := l) (B := B) (y := m_Dv_guessLimb) (pc := 81) (zd_dr dc_Dv_guessLimb 54 rfl)) ?_
  refine zd_ac (ok_ldiv (l := l) (B := B) (y := m_Dv_guessLimb) (pc := 83) (zd_dr dc_Dv_guessLimb 55 rfl)) ?_
  refine zd_ac (ok_lstore (l := l) (B := B) (y := m_Dv_guessLimb) (pc := 84) (zd_dr dc_Dv_guessLimb 56 rfl) (by decide)) ?_
  refine zd_ac (ok_lload (l := l) (B := B) (y := m_Dv_guessLimb) (pc := 86) (zd_dr dc_Dv_guessLimb 57 rfl)) ?_
  refine zd_ac (ok_lload (l := l) (B := B) (y := m_Dv_guessLimb) (pc := 88) (zd_dr dc_Dv_guessLimb 58 rfl)) ?_
  refine zd_ac (ok_lload (l := l) (B := B) (y := m_Dv_guessLimb) (pc := 90) (zd_dr dc_Dv_guessLimb 59 rfl)) ?_
  refine zd_ac (ok_lmul (l := l) (B := B) (y := m_Dv_guessLimb) (pc := 92) (zd_dr dc_Dv_guessLimb 60 rfl)) ?_
  refine zd_ac (ok_lsub (l := l) (B := B) (y := m_Dv_guessLimb) (pc := 93) (zd_dr dc_Dv_guessLimb 61 rfl)) ?_
  refine zd_ac (ok_lstore (l := l) (B := B) (y := m_Dv_guessLimb) (pc := 94) (zd_dr dc_Dv_guessLimb 62 rfl) (by decide)) ?_
  refine zd_ac (ok_iconst (l := l) (B := B) (y := m_Dv_guessLimb) (pc := 96) (n := (0)) (zd_dr dc_Dv_guessLimb 63 rfl) rfl) ?_
  refine zd_ac (ok_istore (l := l) (B := B) (y := m_Dv_guessLimb) (pc := 97) (zd_dr dc_Dv_guessLimb 64 rfl) (by decide)) ?_
  refine zd_ac (ok_iload (l := l) (B := B) (y := m_Dv_guessLimb) (pc := 99) (zd_dr dc_Dv_guessLimb 65 rfl)) ?_
  refine zd_ac (ok_iconst (l := l) (B := B) (y := m_Dv_guessLimb) (pc := 101) (n := (2)) (zd_dr dc_Dv_guessLimb 66 rfl) rfl) ?_
  refine zd_ac (ok_icmp_ge (l := l) (B := B) (y := m_Dv_guessLimb) (pc := 102) (zd_dr dc_Dv_guessLimb 67 rfl) (by decide)) ?_
  refine zd_ac (ok_lload (l := l) (B := B) (y := m_Dv_guessLimb) (pc := 105) (zd_dr dc_Dv_guessLimb 68 rfl)) ?_
  refine zd_ac (ok_ldc2 (l := l) (B := B) (y := m_Dv_guessLimb) (pc := 107) hG (List.mem_of_getElem? (i := 629) (by decide +kernel)) (zd_dr dc_Dv_guessLimb 69 rfl)) ?_
  refine zd_ac (ok_lcmp (l := l) (B := B) (y := m_Dv_guessLimb) (pc := 110) (zd_dr dc_Dv_guessLimb 70 rfl)) ?_
  refine zd_ac (ok_if_ge (l := l) (B := B) (y := m_Dv_guessLimb) (pc := 111) (zd_dr dc_Dv_guessLimb 71 rfl) (by decide)) ?_
  refine zd_ac (ok_lload (l := l) (B := B) (y := m_Dv_guessLimb) (pc := 114) (zd_dr dc_Dv_guessLimb 72 rfl)) ?_
  refine zd_ac (ok_ldc2 (l := l) (B := B) (y := m_Dv_guessLimb) (pc := 116) hG (List.mem_of_getElem? (i := 629) (by decide +kernel)) (zd_dr dc_Dv_guessLimb 73 rfl)) ?_
  refine zd_ac (ok_lcmp (l := l) (B := B) (y := m_Dv_guessLimb) (pc := 119) (zd_dr dc_Dv_guessLimb 74 rfl)) ?_
  refine zd_ac (ok_if_ge (l := l) (B := B) (y := m_Dv_guessLimb) (pc := 120) (zd_dr dc_Dv_guessLimb 75 rfl) (by decide)) ?_
  refine zd_ac (ok_lload (l := l) (B := B) (y := m_Dv_guessLimb) (pc := 123) (zd_dr dc_Dv_guessLimb 76 rfl)) ?_
  refine zd_ac (ok_lload (l := l) (B := B) (y := m_Dv_guessLimb) (pc := 125) (zd_dr dc_Dv_guessLimb 77 rfl)) ?_
  refine zd_ac (ok_lmul (l := l) (B := B) (y := m_Dv_guessLimb) (pc := 127) (zd_dr dc_Dv_guessLimb 78 rfl)) ?_
  refine zd_ac (ok_lload (l := l) (B := B) (y := m_Dv_guessLimb) (pc := 128) (zd_dr dc_Dv_guessLimb 79 rfl)) ?_
  refine zd_ac (ok_ldc2 (l := l) (B := B) (y := m_Dv_guessLimb) (pc := 130) hG (List.mem_of_getElem? (i := 629) (by decide +kernel)) (zd_dr dc_Dv_guessLimb 80 rfl)) ?_
  refine zd_ac (ok_lmul (l := l) (B := B) (y := m_Dv_guessLimb) (pc := 133) (zd_dr dc_Dv_guessLimb 81 rfl)) ?_
  refine zd_ac (ok_lload (l := l) (B := B) (y := m_Dv_guessLimb) (pc := 134) (zd_dr dc_Dv_guessLimb 82 rfl)) ?_
  refine zd_ac (ok_ladd (l := l) (B := B) (y := m_Dv_guessLimb) (pc := 136) (zd_dr dc_Dv_guessLimb 83 rfl)) ?_
  refine zd_ac (ok_lcmp (l := l) (B := B) (y := m_Dv_guessLimb) (pc := 137) (zd_dr dc_Dv_guessLimb 84 rfl)) ?_
  refine zd_ac (ok_if_gt (l := l) (B := B) (y := m_Dv_guessLimb) (pc := 138) (zd_dr dc_Dv_guessLimb 85 rfl) (by decide)) ?_
  refine zd_ac (ok_goto (l := l) (B := B) (y := m_Dv_guessLimb) (pc := 141) (zd_dr dc_Dv_guessLimb 86 rfl) (by decide)) ?_
  refine zd_ac (ok_lload (l := l) (B := B) (y := m_Dv_guessLimb) (pc := 144) (zd_dr dc_Dv_guessLimb 87 rfl)) ?_
  refine zd_ac (ok_lconst (l := l) (B := B) (y := m_Dv_guessLimb) (pc := 146) (n := 1) (zd_dr dc_Dv_guessLimb 88 rfl) rfl) ?_
  refine zd_ac (ok_lsub (l := l) (B := B) (y := m_Dv_guessLimb) (pc := 147) (zd_dr dc_Dv_guessLimb 89 rfl)) ?_
  refine zd_ac (ok_lstore (l := l) (B := B) (y := m_Dv_guessLimb) (pc := 148) (zd_dr dc_Dv_guessLimb 90 rfl) (by decide)) ?_
  refine zd_ac (ok_lload (l := l) (B := B) (y := m_Dv_guessLimb) (pc := 150) (zd_dr dc_Dv_guessLimb 91 rfl)) ?_
  refine zd_ac (ok_lload (l := l) (B := B) (y := m_Dv_guessLimb) (pc := 152) (zd_dr dc_Dv_guessLimb 92 rfl)) ?_
  refine zd_ac (ok_ladd (l := l) (B := B) (y := m_Dv_guessLimb) (pc := 154) (zd_dr dc_Dv_guessLimb 93 rfl)) ?_
  refine zd_ac (ok_lstore (l := l) (B := B) (y := m_Dv_guessLimb) (pc := 155) (zd_dr dc_Dv_guessLimb 94 rfl) (by decide)) ?_
  refine zd_ac (ok_iinc (l := l) (B := B) (y := m_Dv_guessLimb) (pc := 157) (zd_dr dc_Dv_guessLimb 95 rfl) (by decide) rfl) ?_
  refine zd_ac (ok_goto (l := l) (B := B) (y := m_Dv_guessLimb) (pc := 160) (zd_dr dc_Dv_guessLimb 96 rfl) (by decide)) ?_
  refine zd_ac (ok_lload (l := l) (B := B) (y := m_Dv_guessLimb) (pc := 163) (zd_dr dc_Dv_guessLimb 97 rfl)) ?_
  refine zd_ac (ok_lret (l := l) (B := B) (y := m_Dv_guessLimb) (pc := 165) rfl (zd_dr dc_Dv_guessLimb 98 rfl)) ?_
  exact zd_an
def dl_Dv_subtractTimes : List (Nat × Instr × Nat) := [(0, .aload_n 0, 1), (1, .getfield 14, 3), (4, .getfield 35, 3), (7, .astore 5, 2), (9, .aload_n 0, 1), (10, .getfield 14, 3), (13, .getfield 20, 3), (16, .istore 6, 2), (18, .lconst 0, 1), (19, .lstore 7, 2), (21, .iconst (0), 1), (22, .istore 9, 2), (24, .iload 9, 2), (26, .iload 6, 2), (28, .if_icmp .ge (75), 3), (31, .lload_n 3, 1), (32, .aload 5, 2), (34, .iload 9, 2), (36, .iaload, 1), (37, .i2l, 1), (38, .lmul, 1), (39, .lload 7, 2), (41, .ladd, 1), (42, .lstore 10, 2), (44, .lload 10, 2), (46, .ldc2_w 68, 3), (49, .ldiv, 1), (50, .lstore 7, 2), (52, .aload_n 1, 1), (53, .iload_n 2, 1), (54, .iload 9, 2), (56, .iadd, 1), (57, .iaload, 1), (58, .lload 10, 2), (60, .lload 7, 2), (62, .ldc2_w 68, 3), (65, .lmul, 1), (66, .lsub, 1), (67, .l2i, 1), (68, .isub, 1), (69, .istore 12, 2), (71, .iload 12, 2), (73, .ifCond .ge (16), 3), (76, .iload 12, 2), (78, .ldc 34, 2), (80, .iadd, 1), (81, .istore 12, 2), (83, .lload 7, 2), (85, .lconst 1, 1), (86, .ladd, 1), (87, .lstore 7, 2), (89, .aload_n 1, 1), (90, .iload_n 2, 1), (91, .iload 9, 2), (93, .iadd, 1), (94, .iload 12, 2), (96, .iastore, 1), (97, .iinc 9 (1), 3), (100, .goto (-76), 3), (103, .aload_n 1, 1), (104, .iload_n 2, 1), (105, .iload 6, 2), (107, .iadd, 1), (108, .iaload, 1), (109, .i2l, 1), (110, .lload 7, 2), (112, .lcmp, 1), (113, .ifCond .ge (7), 3), (116, .iconst (1), 1), (117, .goto (4), 3), (120, .iconst (0), 1), (121, .istore 9, 2), (123, .aload_n 1, 1), (124, .iload_n 2, 1), (125, .iload 6, 2), (127, .iadd, 1), (128, .iconst (0), 1), (129, .iastore, 1), (130, .iload 9, 2), (132, .ireturn, 1)]
theorem dc_Dv_subtractTimes : ∀ q ∈ dl_Dv_subtractTimes, decode (zd_yb m_Dv_subtractTimes) q.1 = .ok q.2 := by decide +kernel
def cd_Dv_subtractTimes (l : Launch) (B : zd_B) : List (Nat × zd_S) := [(0, oc_aload 0 1), (1, oc_getf B 2 0 4), (4, oc_getf B 4 0 7), (7, oc_astore 5 9), (9, oc_aload 0 10), (10, oc_getf B 2 0 13), (13, oc_getf B 4 1 16), (16, oc_istore 6 18), (18, oc_cl 0 19), (19, oc_lstore 7 21), (21, oc_ci (0) 22), (22, oc_istore 9 24), (24, oc_iload 9 26), (26, oc_iload 6 28), (28, oc_icmp_ge 103 31), (31, oc_lload 3 32), (32, oc_aload 5 34), (34, oc_iload 9 36), (36, oc_iaload B 37), (37, oc_i2l 38), (38, oc_lmul 39), (39, oc_lload 7 41), (41, oc_ladd 42), (42, oc_lstore 10 44), (44, oc_lload 10 46), (46, oc_cl (1000000000) 49), (49, oc_ldiv 50), (50, oc_lstore 7 52), (52, oc_aload 1 53), (53, oc_iload 2 54), (54, oc_iload 9 56), (56, oc_iadd 57), (57, oc_iaload B 58), (58, oc_lload 10 60), (60, oc_lload 7 62), (62, oc_cl (1000000000) 65), (65, oc_lmul 66), (66, oc_lsub 67), (67, oc_l2i 68), (68, oc_isub 69), (69, oc_istore 12 71), (71, oc_iload 12 73), (73, oc_if_ge 89 76), (76, oc_iload 12 78), (78, oc_ci (1000000000) 80), (80, oc_iadd 81), (81, oc_istore 12 83), (83, oc_lload 7 85), (85, oc_cl 1 86), (86, oc_ladd 87), (87, oc_lstore 7 89), (89, oc_aload 1 90), (90, oc_iload 2 91), (91, oc_iload 9 93), (93, oc_iadd 94), (94, oc_iload 12 96), (96, oc_iastore B 97), (97, oc_iinc 9 (1) 100), (100, oc_goto 24), (103, oc_aload 1 104), (104, oc_iload 2 105), (105, oc_iload 6 107), (107, oc_iadd 108), (108, oc_iaload B 109), (109, oc_i2l 110), (110, oc_lload 7 112), (112, oc_lcmp 113), (113, oc_if_ge 120 116), (116, oc_ci (1) 117), (117, oc_goto 121), (120, oc_ci (0) 121), (121, oc_istore 9 123), (123, oc_aload 1 124), (124, oc_iload 2 125), (125, oc_iload 6 127), (127, oc_iadd 128), (128, oc_ci (0) 129), (129, oc_iastore B 130), (130, oc_iload 9 132), (132, oc_iret .boolean)]
set_option maxRecDepth 20000 in
theorem ok_Dv_subtractTimes {l : Launch} {B : zd_B} (hG : zd_G B) (hl : l.stackTraces = false) : ∀ q ∈ cd_Dv_subtractTimes l B, zd_ok l B m_Dv_subtractTimes q.1 q.2 := by
  unfold cd_Dv_subtractTimes
  refine zd_ac (ok_aload_n (l := l) (B := B) (y := m_Dv_subtractTimes) (pc := 0) (k := 0) rfl (zd_dr dc_Dv_subtractTimes 0 rfl)) ?_
  refine zd_ac (ok_getf (l := l) (B := B) (y := m_Dv_subtractTimes) (pc := 1) hG (C := zR2) (T := zT2) (N := 1) (ci := 2) (k := 0) rfl zl2 (by decide) (List.mem_of_getElem? (i := 179) (by decide +kernel)) (zd_dr dc_Dv_subtractTimes 1 rfl)) ?_
  refine zd_ac (ok_getf (l := l) (B := B) (y := m_Dv_subtractTimes) (pc := 4) hG (C := zR4) (T := zT4) (N := 2) (ci := 4) (k := 0) rfl zl4 (by decide) (List.mem_of_getElem? (i := 97) (by decide +kernel)) (zd_dr dc_Dv_subtractTimes 2 rfl)) ?_
  refine zd_ac (ok_astore (l := l) (B := B) (y := m_Dv_subtractTimes) (pc := 7) (zd_dr dc_Dv_subtractTimes 3 rfl) (by decide)) ?_
  refine zd_ac (ok_aload_n (l := l) (B := B) (y := m_Dv_subtractTimes) (pc := 9) (k := 0) rfl (zd_dr dc_Dv_subtractTimes 4 rfl)) ?_
  refine zd_ac (ok_getf (l := l) (B := B) (y := m_Dv_subtractTimes) (pc := 10) hG (C := zR2) (T := zT2) (N := 1) (ci := 2) (k := 0) rfl zl2 (by decide) (List.mem_of_getElem? (i := 179) (by decide +kernel)) (zd_dr dc_Dv_subtractTimes 5 rfl)) ?_
  refine zd_ac (ok_getf (l := l) (B := B) (y := m_Dv_subtractTimes) (pc := 13) hG (C := zR4) (T := zT4) (N := 2) (ci := 4) (k := 1) rfl zl4 (by decide) (List.mem_of_getElem? (i := 99) (by decide +kernel)) (zd_dr dc_Dv_subtractTimes 6 rfl)) ?_
  refine zd_ac (ok_istore (l := l) (B := B) (y := m_Dv_subtractTimes) (pc := 16) (zd_dr dc_Dv_subtractTimes 7 rfl) (by decide)) ?_
  refine zd_ac (ok_lconst (l := l) (B := B) (y := m_Dv_subtractTimes) (pc := 18) (n := 0) (zd_dr dc_Dv_subtractTimes 8 rfl) rfl) ?_
  refine zd_ac (ok_lstore (l := l) (B := B) (y := m_Dv_subtractTimes) (pc := 19) (zd_dr dc_Dv_subtractTimes 9 rfl) (by decide)) ?_
  refine zd_ac (ok_iconst (l := l) (B := B) (y := m_Dv_subtractTimes) (pc := 21) (n := (0)) (zd_dr dc_Dv_subtractTimes 10 rfl) rfl) ?_
  refine zd_ac (ok_istore (l := l) (B := B) (y := m_Dv_subtractTimes) (pc := 22) (zd_dr dc_Dv_subtractTimes 11 rfl) (by decide)) ?_
  refine zd_ac (ok_iload (l := l) (B := B) (y := m_Dv_subtractTimes) (pc := 24) (zd_dr dc_Dv_subtractTimes 12 rfl)) ?_
  refine zd_ac (ok_iload (l := l) (B := B) (y := m_Dv_subtractTimes) (pc := 26) (zd_dr dc_Dv_subtractTimes 13 rfl)) ?_
  refine zd_ac (ok_icmp_ge (l := l) (B := B) (y := m_Dv_subtractTimes) (pc := 28) (zd_dr dc_Dv_subtractTimes 14 rfl) (by decide)) ?_
  refine zd_ac (ok_lload_n (l := l) (B := B) (y := m_Dv_subtractTimes) (pc := 31) (k := 3) rfl (zd_dr dc_Dv_subtractTimes 15 rfl)) ?_
  refine zd_ac (ok_aload (l := l) (B := B) (y := m_Dv_subtractTimes) (pc := 32) (zd_dr dc_Dv_subtractTimes 16 rfl)) ?_
  refine zd_ac (ok_iload (l := l) (B := B) (y := m_Dv_subtractTimes) (pc := 34) (zd_dr dc_Dv_subtractTimes 17 rfl)) ?_
  refine zd_ac (ok_iaload (l := l) (B := B) (y := m_Dv_subtractTimes) (pc := 36) hG (zd_dr dc_Dv_subtractTimes 18 rfl)) ?_
  refine zd_ac (ok_i2l (l := l) (B := B) (y := m_Dv_subtractTimes) (pc := 37) (zd_dr dc_Dv_subtractTimes 19 rfl)) ?_
  refine zd_ac (ok_lmul (l := l) (B := B) (y := m_Dv_subtractTimes) (pc := 38) (zd_dr dc_Dv_subtractTimes 20 rfl)) ?_
  refine zd_ac (ok_lload (l := l) (B := B) (y := m_Dv_subtractTimes) (pc := 39) (zd_dr dc_Dv_subtractTimes 21 rfl)) ?_
  refine zd_ac (ok_ladd (l := l) (B := B) (y := m_Dv_subtractTimes) (pc := 41) (zd_dr dc_Dv_subtractTimes 22 rfl)) ?_
  refine zd_ac (ok_lstore (l := l) (B := B) (y := m_Dv_subtractTimes) (pc := 42) (zd_dr dc_Dv_subtractTimes 23 rfl) (by decide)) ?_
  refine zd_ac (ok_lload (l := l) (B := B) (y := m_Dv_subtractTimes) (pc := 44) (zd_dr dc_Dv_subtractTimes 24 rfl)) ?_
  refine zd_ac (ok_ldc2 (l := l) (B := B) (y := m_Dv_subtractTimes) (pc := 46) hG (List.mem_of_getElem? (i := 629) (by decide +kernel)) (zd_dr dc_Dv_subtractTimes 25 rfl)) ?_
  refine zd_ac (ok_ldiv (l := l) (B := B) (y := m_Dv_subtractTimes) (pc := 49) (zd_dr dc_Dv_subtractTimes 26 rfl)) ?_
  refine zd_ac (ok_lstore (l := l) (B := B) (y := m_Dv_subtractTimes) (pc := 50) (zd_dr dc_Dv_subtractTimes 27 rfl) (by decide)) ?_
  refine zd_ac (ok_aload_n (l := l) (B := B) (y := m_Dv_subtractTimes) (pc := 52) (k := 1) rfl (zd_dr dc_Dv_subtractTimes 28 rfl)) ?_
  refine zd_ac (ok_iload_n (l := l) (B := B) (y := m_Dv_subtractTimes) (pc := 53) (k := 2) rfl (zd_dr dc_Dv_subtractTimes 29 rfl)) ?_
  refine zd_ac (ok_iload (l := l) (B := B) (y := m_Dv_subtractTimes) (pc := 54) (zd_dr dc_Dv_subtractTimes 30 rfl)) ?_
  refine zd_ac (ok_iadd (l := l) (B := B) (y := m_Dv_subtractTimes) (pc := 56) (zd_dr dc_Dv_subtractTimes 31 rfl)) ?_
  refine zd_ac (ok_iaload (l := l) (B := B) (y := m_Dv_subtractTimes) (pc := 57) hG (zd_dr dc_Dv_subtractTimes 32 rfl)) ?_
  refine zd_ac (ok_lload (l := l) (B := B) (y := m_Dv_subtractTimes) (pc := 58) (zd_dr dc_Dv_subtractTimes 33 rfl)) ?_
  refine zd_ac (ok_lload (l := l) (B := B) (y := m_Dv_subtractTimes) (pc := 60) (zd_dr dc_Dv_subtractTimes 34 rfl)) ?_
  refine zd_ac (ok_ldc2 (l := l) (B := B) (y := m_Dv_subtractTimes) (pc := 62) hG (List.mem_of_getElem? (i := 629) (by decide +kernel)) (zd_dr dc_Dv_subtractTimes 35 rfl)) ?_
  refine zd_ac (ok_lmul (l := l) (B := B) (y := m_Dv_subtractTimes) (pc := 65) (zd_dr dc_Dv_subtractTimes 36 rfl)) ?_
  refine zd_ac (ok_lsub (l := l) (B := B) (y := m_Dv_subtractTimes) (pc := 66) (zd_dr dc_Dv_subtractTimes 37 rfl)) ?_
  refine zd_ac (ok_l2i (l := l) (B := B) (y := m_Dv_subtractTimes) (pc := 67) (zd_dr dc_Dv_subtractTimes 38 rfl)) ?_
  refine zd_ac (ok_isub (l := l) (B := B) (y := m_Dv_subtractTimes) (pc := 68) (zd_dr dc_Dv_subtractTimes 39 rfl)) ?_
  refine zd_ac (ok_istore (l := l) (B := B) (y := m_Dv_subtractTimes) (pc := 69) (zd_dr dc_Dv_subtractTimes 40 rfl) (by decide)) ?_
  refine zd_ac (ok_iload (l := l) (B := B) (y := m_Dv_subtractTimes) (pc := 71) (zd_dr dc_Dv_subtractTimes 41 rfl)) ?_
  refine zd_ac (ok_if_ge (l := l) (B := B) (y := m_Dv_subtractTimes) (pc := 73) (zd_dr dc_Dv_subtractTimes 42 rfl) (by decide)) ?_
  refine zd_ac (ok_iload (l := l) (B := B) (y := m_Dv_subtractTimes) (pc := 76) (zd_dr dc_Dv_subtractTimes 43 rfl)) ?_
  refine zd_ac (ok_ldc (l := l) (B := B) (y := m_Dv_subtractTimes) (pc := 78) hG (List.mem_of_getElem? (i := 615) (by decide +kernel)) (zd_dr dc_Dv_subtractTimes 44 rfl)) ?_
  refine zd_ac (ok_iadd (l := l) (B := B) (y := m_Dv_subtractTimes) (pc := 80) (zd_dr dc_Dv_subtractTimes 45 rfl)) ?_
  refine zd_ac (ok_istore (l := l) (B := B) (y := m_Dv_subtractTimes) (pc := 81) (zd_dr dc_Dv_subtractTimes 46 rfl) (by decide)) ?_
  refine zd_ac (ok_lload (l := l) (B := B) (y := m_Dv_subtractTimes) (pc := 83) (zd_dr dc_Dv_subtractTimes 47 rfl)) ?_
  refine zd_ac (ok_lconst (l := l) (B := B) (y := m_Dv_subtractTimes) (pc := 85) (n := 1) (zd_dr dc_Dv_subtractTimes 48 rfl) rfl) ?_
  refine zd_ac (ok_ladd (l := l) (B := B) (y := m_Dv_subtractTimes) (pc := 86) (zd_dr dc_Dv_subtractTimes 49 rfl)) ?_
  refine zd_ac (ok_lstore (l := l) (B := B) (y := m_Dv_subtractTimes) (pc := 87) (zd_dr dc_Dv_subtractTimes 50 rfl) (by decide)) ?_
  refine zd_ac (ok_aload_n (l := l) (B := B) (y := m_Dv_subtractTimes) (pc := 89) (k := 1) rfl (zd_dr dc_Dv_subtractTimes 51 rfl)) ?_
  refine zd_ac (ok_iload_n (l := l) (B := B) (y := m_Dv_subtractTimes) (pc := 90) (k := 2) rfl (zd_dr dc_Dv_subtractTimes 52 rfl)) ?_
  refine zd_ac (ok_iload (l := l) (B := B) (y := m_Dv_subtractTimes) (pc := 91) (zd_dr dc_Dv_subtractTimes 53 rfl)) ?_
  refine zd_ac (ok_iadd (l := l) (B := B) (y := m_Dv_subtractTimes) (pc := 93) (zd_dr dc_Dv_subtractTimes 54 rfl)) ?_
  refine zd_ac (ok_iload (l := l) (B := B) (y := m_Dv_subtractTimes) (pc := 94) (zd_dr dc_Dv_subtractTimes 55 rfl)) ?_
  refine zd_ac (ok_iastore (l := l) (B := B) (y := m_Dv_subtractTimes) (pc := 96) hG (zd_dr dc_Dv_subtractTimes 56 rfl)) ?_
  refine zd_ac (ok_iinc (l := l) (B := B) (y := m_Dv_subtractTimes) (pc := 97) (zd_dr dc_Dv_subtractTimes 57 rfl) (by decide) rfl) ?_
  refine zd_ac (ok_goto (l := l) (B := B) (y := m_Dv_subtractTimes) (pc := 100) (zd_dr dc_Dv_subtractTimes 58 rfl) (by decide)) ?_
  refine zd_ac (ok_aload_n (l := l) (B := B) (y := m_Dv_subtractTimes) (pc := 103) (k := 1) rfl (zd_dr dc_Dv_subtractTimes 59 rfl)) ?_
  refine zd_ac (ok_iload_n (l := l) (B := B) (y := m_Dv_subtractTimes) (pc := 104) (k := 2) rfl (zd_dr dc_Dv_subtractTimes 60 rfl)) ?_
  refine zd_ac (ok_iload (l := l) (B := B) (y := m_Dv_subtractTimes) (pc := 105) (zd_dr dc_Dv_subtractTimes 61 rfl)) ?_
  refine zd_ac (ok_iadd (l := l) (B := B) (y := m_Dv_subtractTimes) (pc := 107) (zd_dr dc_Dv_subtractTimes 62 rfl)) ?_
  refine zd_ac (ok_iaload (l := l) (B := B) (y := m_Dv_subtractTimes) (pc := 108) hG (zd_dr dc_Dv_subtractTimes 63 rfl)) ?_
  refine zd_ac (ok_i2l (l := l) (B := B) (y := m_Dv_subtractTimes) (pc := 109) (zd_dr dc_Dv_subtractTimes 64 rfl)) ?_
  refine zd_ac (ok_lload (l := l) (B := B) (y := m_Dv_subtractTimes) (pc := 110) (zd_dr dc_Dv_subtractTimes 65 rfl)) ?_
  refine zd_ac (ok_lcmp (l := l) (B := B) (y := m_Dv_subtractTimes) (pc := 112) (zd_dr dc_Dv_subtractTimes 66 rfl)) ?_
  refine zd_ac (ok_if_ge (l := l) (B := B) (y := m_Dv_subtractTimes) (pc := 113) (zd_dr dc_Dv_subtractTimes 67 rfl) (by decide)) ?_
  refine zd_ac (ok_iconst (l := l) (B := B) (y := m_Dv_subtractTimes) (pc := 116) (n := (1)) (zd_dr dc_Dv_subtractTimes 68 rfl) rfl) ?_
  refine zd_ac (ok_goto (l := l) (B := B) (y := m_Dv_subtractTimes) (pc := 117) (zd_dr dc_Dv_subtractTimes 69 rfl) (by decide)) ?_
  refine zd_ac (ok_iconst (l := l) (B := B) (y := m_Dv_subtractTimes) (pc := 120) (n := (0)) (zd_dr dc_Dv_subtractTimes 70 rfl) rfl) ?_
  refine zd_ac (ok_istore (l := l) (B := B) (y := m_Dv_subtractTimes) (pc := 121) (zd_dr dc_Dv_subtractTimes 71 rfl) (by decide)) ?_
  refine zd_ac (ok_aload_n (l := l) (B := B) (y := m_Dv_subtractTimes) (pc := 123) (k := 1) rfl (zd_dr dc_Dv_subtractTimes 72 rfl)) ?_
  refine zd_ac (ok_iload_n (l := l) (B := B) (y := m_Dv_subtractTimes) (pc := 124) (k := 2) rfl (zd_dr dc_Dv_subtractTimes 73 rfl)) ?_
  refine zd_ac (ok_iload (l := l) (B := B) (y := m_Dv_subtractTimes) (pc := 125) (zd_dr dc_Dv_subtractTimes 74 rfl)) ?_
  refine zd_ac (ok_iadd (l := l) (B := B) (y := m_Dv_subtractTimes) (pc := 127) (zd_dr dc_Dv_subtractTimes 75 rfl)) ?_
  refine zd_ac (ok_iconst (l := l) (B := B) (y := m_Dv_subtractTimes) (pc := 128) (n := (0)) (zd_dr dc_Dv_subtractTimes 76 rfl) rfl) ?_
  refine zd_ac (ok_iastore (l := l) (B := B) (y := m_Dv_subtractTimes) (pc := 129) hG (zd_dr dc_Dv_subtractTimes 77 rfl)) ?_
  refine zd_ac (ok_iload (l := l) (B := B) (y := m_Dv_subtractTimes) (pc := 130) (zd_dr dc_Dv_subtractTimes 78 rfl)) ?_
  refine zd_ac (ok_iret (l := l) (B := B) (y := m_Dv_subtractTimes) (pc := 132) rfl (zd_dr dc_Dv_subtractTimes 79 rfl)) ?_
  exact zd_an
def dl_Dv_giveBack : List (Nat × Instr × Nat) := [(0, .iconst (0), 1), (1, .istore_n 3, 1), (2, .iconst (0), 1), (3, .istore 4, 2), (5, .iload 4, 2), (7, .aload_n 0, 1), (8, .getfield 14, 3), (11, .getfield 20, 3), (14, .if_icmp .ge (65), 3), (17, .aload_n 1, 1), (18, .iload_n 2, 1), (19, .iload 4, 2), (21, .iadd, 1), (22, .iaload, 1), (23, .ldc 34, 2), (25, .isub, 1), (26, .aload_n 0, 1), (27, .getfield 14, 3), (30, .getfield 35, 3), (33, .iload 4, 2), (35, .iaload, 1), (36, .iadd, 1), (37, .iload_n 3, 1), (38, .iadd, 1), (39, .istore 5, 2), (41, .iload 5, 2), (43, .ifCond .lt (7), 3), (46, .iconst (1), 1), (47, .goto (4), 3), (50, .iconst (0), 1), (51, .istore_n 3, 1), (52, .aload_n 1, 1), (53, .iload_n 2, 1), (54, .iload 4, 2), (56, .iadd, 1), (57, .iload 5, 2), (59, .ifCond .lt (8), 3), (62, .iload 5, 2), (64, .goto (8), 3), (67, .iload 5, 2), (69, .ldc 34, 2), (71, .iadd, 1), (72, .iastore, 1), (73, .iinc 4 (1), 3), (76, .goto (-71), 3), (79, .return_, 1)]
theorem dc_Dv_giveBack : ∀ q ∈ dl_Dv_giveBack, decode (zd_yb m_Dv_giveBack) q.1 = .ok q.2 := by decide +kernel
def cd_Dv_giveBack (l : Launch) (B : zd_B) : List (Nat × zd_S) := [(0, oc_ci (0) 1), (1, oc_istore 3 2), (2, oc_ci (0) 3), (3, oc_istore 4 5), (5, oc_iload 4 7), (7, oc_aload 0 8), (8, oc_getf B 2 0 11), (11, oc_getf B 4 1 14), (14, oc_icmp_ge 79 17), (17, oc_aload 1 18), (18, oc_iload 2 19), (19, oc_iload 4 21), (21, oc_iadd 22), (22, oc_iaload B 23), (23, oc_ci (1000000000) 25), (25, oc_isub 26), (26, oc_aload 0 27), (27, oc_getf B 2 0 30), (30, oc_getf B 4 0 33), (33, oc_iload 4 35), (35, oc_iaload B 36), (36, oc_iadd 37), (37, oc_iload 3 38), (38, oc_iadd 39), (39, oc_istore 5 41), (41, oc_iload 5 43), (43, oc_if_lt 50 46), (46, oc_ci (1) 47), (47, oc_goto 51), (50, oc_ci (0) 51), (51, oc_istore 3 52), (52, oc_aload 1 53), (53, oc_iload 2 54), (54, oc_iload 4 56), (56, oc_iadd 57), (57, oc_iload 5 59), (59, oc_if_lt 67 62), (62, oc_iload 5 64), (64, oc_goto 72), (67, oc_iload 5 69), (69, oc_ci (1000000000) 71), (71, oc_iadd 72), (72, oc_iastore B 73), (73, oc_iinc 4 (1) 76), (76, oc_goto 5), (79, oc_vret)]
set_option maxRecDepth 20000 in
theorem ok_Dv_giveBack {l : Launch} {B : zd_B} (hG : zd_G B) (hl : l.stackTraces = false) : ∀ q ∈ cd_Dv_giveBack l B, zd_ok l B m_Dv_giveBack q.1 q.2 := by
  unfold cd_Dv_giveBack
  refine zd_ac (ok_iconst (l := l) (B := B) (y := m_Dv_giveBack) (pc := 0) (n := (0)) (zd_dr dc_Dv_giveBack 0 rfl) rfl) ?_
  refine zd_ac (ok_istore_n (l := l) (B := B) (y := m_Dv_giveBack) (pc := 1) (k := 3) rfl (zd_dr dc_Dv_giveBack 1 rfl) (by decide)) ?_
  refine zd_ac (ok_iconst (l := l) (B := B) (y := m_Dv_giveBack) (pc := 2) (n := (0)) (zd_dr dc_Dv_giveBack 2 rfl) rfl) ?_
  refine zd_ac (ok_istore (l := l) (B := B) (y := m_Dv_giveBack) (pc := 3) (zd_dr dc_Dv_giveBack 3 rfl) (by decide)) ?_
  refine zd_ac (ok_iload (l := l) (B := B) (y := m_Dv_giveBack) (pc := 5) (zd_dr dc_Dv_giveBack 4 rfl)) ?_
  refine zd_ac (ok_aload_n (l := l) (B := B) (y := m_Dv_giveBack) (pc := 7) (k := 0) rfl (zd_dr dc_Dv_giveBack 5 rfl)) ?_
  refine zd_ac (ok_getf (l := l) (B := B) (y := m_Dv_giveBack) (pc := 8) hG (C := zR2) (T := zT2) (N := 1) (ci := 2) (k := 0) rfl zl2 (by decide) (List.mem_of_getElem? (i := 179) (by decide +kernel)) (zd_dr dc_Dv_giveBack 6 rfl)) ?_
  refine zd_ac (ok_getf (l := l) (B := B) (y := m_Dv_giveBack) (pc := 11) hG (C := zR4) (T := zT4) (N := 2) (ci := 4) (k := 1) rfl zl4 (by decide) (List.mem_of_getElem? (i := 99) (by decide +kernel)) (zd_dr dc_Dv_giveBack 7 rfl)) ?_
  refine zd_ac (ok_icmp_ge (l := l) (B := B) (y := m_Dv_giveBack) (pc := 14) (zd_dr dc_Dv_giveBack 8 rfl) (by decide)) ?_
  refine zd_ac (ok_aload_n (l := l) (B := B) (y := m_Dv_giveBack) (pc := 17) (k := 1) rfl (zd_dr dc_Dv_giveBack 9 rfl)) ?_
  refine zd_ac (ok_iload_n (l := l) (B := B) (y := m_Dv_giveBack) (pc := 18) (k := 2) rfl (zd_dr dc_Dv_giveBack 10 rfl)) ?_
  refine zd_ac (ok_iload (l := l) (B := B) (y := m_Dv_giveBack) (pc := 19) (zd_dr dc_Dv_giveBack 11 rfl)) ?_
  refine zd_ac (ok_iadd (l := l) (B := B) (y := m_Dv_giveBack) (pc := 21) (zd_dr dc_Dv_giveBack 12 rfl)) ?_
  refine zd_ac (ok_iaload (l := l) (B := B) (y := m_Dv_giveBack) (pc := 22) hG (zd_dr dc_Dv_giveBack 13 rfl)) ?_
  refine zd_ac (ok_ldc (l := l) (B := B) (y := m_Dv_giveBack) (pc := 23) hG (List.mem_of_getElem? (i := 615) (by decide +kernel)) (zd_dr dc_Dv_giveBack 14 rfl)) ?_
  refine zd_ac (ok_isub (l := l) (B := B) (y := m_Dv_giveBack) (pc := 25) (zd_dr dc_Dv_giveBack 15 rfl)) ?_
  refine zd_ac (ok_aload_n (l := l) (B := B) (y := m_Dv_giveBack) (pc := 26) (k := 0) rfl (zd_dr dc_Dv_giveBack 16 rfl)) ?_
  refine zd_ac (ok_getf (l := l) (B := B) (y := m_Dv_giveBack) (pc := 27) hG (C := zR2) (T := zT2) (N := 1) (ci := 2) (k := 0) rfl zl2 (by decide) (List.mem_of_getElem? (i := 179) (by decide +kernel)) (zd_dr dc_Dv_giveBack 17 rfl)) ?_
  refine zd_ac (ok_getf (l := l) (B := B) (y := m_Dv_giveBack) (pc := 30) hG (C := zR4) (T := zT4) (N := 2) (ci := 4) (k := 0) rfl zl4 (by decide) (List.mem_of_getElem? (i := 97) (by decide +kernel)) (zd_dr dc_Dv_giveBack 18 rfl)) ?_
  refine zd_ac (ok_iload (l := l) (B := B) (y := m_Dv_giveBack) (pc := 33) (zd_dr dc_Dv_giveBack 19 rfl)) ?_
  refine zd_ac (ok_iaload (l := l) (B := B) (y := m_Dv_giveBack) (pc := 35) hG (zd_dr dc_Dv_giveBack 20 rfl)) ?_
  refine zd_ac (ok_iadd (l := l) (B := B) (y := m_Dv_giveBack) (pc := 36) (zd_dr dc_Dv_giveBack 21 rfl)) ?_
  refine zd_ac (ok_iload_n (l := l) (B := B) (y := m_Dv_giveBack) (pc := 37) (k := 3) rfl (zd_dr dc_Dv_giveBack 22 rfl)) ?_
  refine zd_ac (ok_iadd (l := l) (B := B) (y := m_Dv_giveBack) (pc := 38) (zd_dr dc_Dv_giveBack 23 rfl)) ?_
  refine zd_ac (ok_istore (l := l) (B := B) (y := m_Dv_giveBack) (pc := 39) (zd_dr dc_Dv_giveBack 24 rfl) (by decide)) ?_
  refine zd_ac (ok_iload (l := l) (B := B) (y := m_Dv_giveBack) (pc := 41) (zd_dr dc_Dv_giveBack 25 rfl)) ?_
  refine zd_ac (ok_if_lt (l := l) (B := B) (y := m_Dv_giveBack) (pc := 43) (zd_dr dc_Dv_giveBack 26 rfl) (by decide)) ?_
  refine zd_ac (ok_iconst (l := l) (B := B) (y := m_Dv_giveBack) (pc := 46) (n := (1)) (zd_dr dc_Dv_giveBack 27 rfl) rfl) ?_
  refine zd_ac (ok_goto (l := l) (B := B) (y := m_Dv_giveBack) (pc := 47) (zd_dr dc_Dv_giveBack 28 rfl) (by decide)) ?_
  refine zd_ac (ok_iconst (l := l) (B := B) (y := m_Dv_giveBack) (pc := 50) (n := (0)) (zd_dr dc_Dv_giveBack 29 rfl) rfl) ?_
  refine zd_ac (ok_istore_n (l := l) (B := B) (y := m_Dv_giveBack) (pc := 51) (k := 3) rfl (zd_dr dc_Dv_giveBack 30 rfl) (by decide)) ?_
  refine zd_ac (ok_aload_n (l := l) (B := B) (y := m_Dv_giveBack) (pc := 52) (k := 1) rfl (zd_dr dc_Dv_giveBack 31 rfl)) ?_
  refine zd_ac (ok_iload_n (l := l) (B := B) (y := m_Dv_giveBack) (pc := 53) (k := 2) rfl (zd_dr dc_Dv_giveBack 32 rfl)) ?_
  refine zd_ac (ok_iload (l := l) (B := B) (y := m_Dv_giveBack) (pc := 54) (zd_dr dc_Dv_giveBack 33 rfl)) ?_
  refine zd_ac (ok_iadd (l := l) (B := B) (y := m_Dv_giveBack) (pc := 56) (zd_dr dc_Dv_giveBack 34 rfl)) ?_
  refine zd_ac (ok_iload (l := l) (B := B) (y := m_Dv_giveBack) (pc := 57) (zd_dr dc_Dv_giveBack 35 rfl)) ?_
  refine zd_ac (ok_if_lt (l := l) (B := B) (y := m_Dv_giveBack) (pc := 59) (zd_dr dc_Dv_giveBack 36 rfl) (by decide)) ?_
  refine zd_ac (ok_iload (l := l) (B := B) (y := m_Dv_giveBack) (pc := 62) (zd_dr dc_Dv_giveBack 37 rfl)) ?_
  refine zd_ac (ok_goto (l := l) (B := B) (y := m_Dv_giveBack) (pc := 64) (zd_dr dc_Dv_giveBack 38 rfl) (by decide)) ?_
  refine zd_ac (ok_iload (l := l) (B := B) (y := m_Dv_giveBack) (pc := 67) (zd_dr dc_Dv_giveBack 39 rfl)) ?_
  refine zd_ac (ok_ldc (l := l) (B := B) (y := m_Dv_giveBack) (pc := 69) hG (List.mem_of_getElem? (i := 615) (by decide +kernel)) (zd_dr dc_Dv_giveBack 40 rfl)) ?_
  refine zd_ac (ok_iadd (l := l) (B := B) (y := m_Dv_giveBack) (pc := 71) (zd_dr dc_Dv_giveBack 41 rfl)) ?_
  refine zd_ac (ok_iastore (l := l) (B := B) (y := m_Dv_giveBack) (pc := 72) hG (zd_dr dc_Dv_giveBack 42 rfl)) ?_
  refine zd_ac (ok_iinc (l := l) (B := B) (y := m_Dv_giveBack) (pc := 73) (zd_dr dc_Dv_giveBack 43 rfl) (by decide) rfl) ?_
  refine zd_ac (ok_goto (l := l) (B := B) (y := m_Dv_giveBack) (pc := 76) (zd_dr dc_Dv_giveBack 44 rfl) (by decide)) ?_
  refine zd_ac (ok_vret (l := l) (B := B) (y := m_Dv_giveBack) (pc := 79) rfl (zd_dr dc_Dv_giveBack 45 rfl)) ?_
  exact zd_an
def dl_Ro_init : List (Nat × Instr × Nat) := [(0, .aload_n 0, 1), (1, .invokespecial 3, 3), (4, .aload_n 0, 1), (5, .new 9, 3), (8, .dup, 1), (9, .sipush (226), 3), (12, .invokespecial 11, 3), (15, .putfield 14, 3), (18, .aload_n 0, 1), (19, .new 9, 3), (22, .dup, 1), (23, .sipush (226), 3), (26, .invokespecial 11, 3), (29, .putfield 20, 3), (32, .aload_n 0, 1), (33, .new 9, 3), (36, .dup, 1), (37, .sipush (226), 3), (40, .invokespecial 11, 3), (43, .putfield 23, 3), (46, .aload_n 0, 1), (47, .aload_n 1, 1), (48, .putfield 26, 3), (51, .return_, 1)]
theorem dc_Ro_init : ∀ q ∈ dl_Ro_init, decode (zd_yb m_Ro_init) q.1 = .ok q.2 := by decide +kernel
def cd_Ro_init (l : Launch) (B : zd_B) : List (Nat × zd_S) := [(0, oc_aload 0 1), (1, oc_oinit 4), (4, oc_aload 0 5), (5, oc_new B 4 2 [.null, .int 0] 8), (8, oc_dup 9), (9, oc_ci (226) 12), (12, oc_calli l B m_Na_init 1 15), (15, oc_putf B (zy5 1) 5 1 18), (18, oc_aload 0 19), (19, oc_new B 4 2 [.null, .int 0] 22), (22, oc_dup 23), (23, oc_ci (226) 26), (26, oc_calli l B m_Na_init 1 29), (29, oc_putf B (zy5 2) 5 2 32), (32, oc_aload 0 33), (33, oc_new B 4 2 [.null, .int 0] 36), (36, oc_dup 37), (37, oc_ci (226) 40), (40, oc_calli l B m_Na_init 1 43), (43, oc_putf B (zy5 3) 5 3 46), (46, oc_aload 0 47), (47, oc_aload 1 48), (48, oc_putf B (zy5 0) 5 0 51), (51, oc_vret)]
set_option maxRecDepth 20000 in
theorem ok_Ro_init {l : Launch} {B : zd_B} (hG : zd_G B) (hl : l.stackTraces = false) : ∀ q ∈ cd_Ro_init l B, zd_ok l B m_Ro_init q.1 q.2 := by
  unfold cd_Ro_init
  refine zd_ac (ok_aload_n (l := l) (B := B) (y := m_Ro_init) (pc := 0) (k := 0) rfl (zd_dr dc_Ro_init 0 rfl)) ?_
  refine zd_ac (ok_oinit (l := l) (B := B) (y := m_Ro_init) (pc := 1) hG (List.mem_of_getElem? (i := 188) (by decide +kernel)) (List.mem_of_getElem? (i := 81) (by decide +kernel)) (List.mem_of_getElem? (i := 82) (by decide +kernel)) (by decide) (by decide) (zd_dr dc_Ro_init 1 rfl)) ?_
  refine zd_ac (ok_aload_n (l := l) (B := B) (y := m_Ro_init) (pc := 4) (k := 0) rfl (zd_dr dc_Ro_init 2 rfl)) ?_
  refine zd_ac (ok_new (l := l) (B := B) (y := m_Ro_init) (pc := 5) hG (C := zR4) (T := zT4) (ty := zy4) (N := 2) rfl zl4 zt4 (List.mem_of_getElem? (i := 189) (by decide +kernel)) (List.mem_of_getElem? (i := 91) (by decide +kernel)) (List.mem_of_getElem? (i := 58) (by decide +kernel)) (by decide) (zd_dr dc_Ro_init 3 rfl)) ?_
  refine zd_ac (ok_dup (l := l) (B := B) (y := m_Ro_init) (pc := 8) (zd_dr dc_Ro_init 4 rfl)) ?_
  refine zd_ac (ok_sipush (l := l) (B := B) (y := m_Ro_init) (pc := 9) (n := (226)) (zd_dr dc_Ro_init 5 rfl) rfl) ?_
  refine zd_ac (ok_calli (l := l) (B := B) (y := m_Ro_init) (pc := 12) hG cf_Ro_init_Na_init rfl rfl rfl rfl (List.mem_of_getElem? (i := 190) (by decide +kernel)) (List.mem_of_getElem? (i := 93) (by decide +kernel)) (zd_dr dc_Ro_init 6 rfl)) ?_
  refine zd_ac (ok_putfF (l := l) (B := B) (y := m_Ro_init) (pc := 15) hG (C := zR5) (T := zT5) (N := 4) (ci := 5) (k := 1) rfl zl5 zt5 (by decide) (List.mem_of_getElem? (i := 192) (by decide +kernel)) rfl rfl rfl (zd_dr dc_Ro_init 7 rfl)) ?_
  refine zd_ac (ok_aload_n (l := l) (B := B) (y := m_Ro_init) (pc := 18) (k := 0) rfl (zd_dr dc_Ro_init 8 rfl)) ?_
  refine zd_ac (ok_new (l := l) (B := B) (y := m_Ro_init) (pc := 19) hG (C := zR4) (T := zT4) (ty := zy4) (N := 2) rfl zl4 zt4 (List.mem_of_getElem? (i := 189) (by decide +kernel)) (List.mem_of_getElem? (i := 91) (by decide +kernel)) (List.mem_of_getElem? (i := 58) (by decide +kernel)) (by decide) (zd_dr dc_Ro_init 9 rfl)) ?_
  refine zd_ac (ok_dup (l := l) (B := B) (y := m_Ro_init) (pc := 22) (zd_dr dc_Ro_init 10 rfl)) ?_
  refine zd_ac (ok_sipush (l := l) (B := B) (y := m_Ro_init) (pc := 23) (n := (226)) (zd_dr dc_Ro_init 11 rfl) rfl) ?_
  refine zd_ac (ok_calli (l := l) (B := B) (y := m_Ro_init) (pc := 26) hG cf_Ro_init_Na_init rfl rfl rfl rfl (List.mem_of_getElem? (i := 190) (by decide +kernel)) (List.mem_of_getElem? (i := 93) (by decide +kernel)) (zd_dr dc_Ro_init 12 rfl)) ?_
  refine zd_ac (ok_putfF (l := l) (B := B) (y := m_Ro_init) (pc := 29) hG (C := zR5) (T := zT5) (N := 4) (ci := 5) (k := 2) rfl zl5 zt5 (by decide) (List.mem_of_getElem? (i := 193) (by decide +kernel)) rfl rfl rfl (zd_dr dc_Ro_init 13 rfl)) ?_
  refine zd_ac (ok_aload_n (l := l) (B := B) (y := m_Ro_init) (pc := 32) (k := 0) rfl (zd_dr dc_Ro_init 14 rfl)) ?_
  refine zd_ac (ok_new (l := l) (B := B) (y := m_Ro_init) (pc := 33) hG (C := zR4) (T := zT4) (ty := zy4) (N := 2) rfl zl4 zt4 (List.mem_of_getElem? (i := 189) (by decide +kernel)) (List.mem_of_getElem? (i := 91) (by decide +kernel)) (List.mem_of_getElem? (i := 58) (by decide +kernel)) (by decide) (zd_dr dc_Ro_init 15 rfl)) ?_
  refine zd_ac (ok_dup (l := l) (B := B) (y := m_Ro_init) (pc := 36) (zd_dr dc_Ro_init 16 rfl)) ?_
  refine zd_ac (ok_sipush (l := l) (B := B) (y := m_Ro_init) (pc := 37) (n := (226)) (zd_dr dc_Ro_init 17 rfl) rfl) ?_
  refine zd_ac (ok_calli (l := l) (B := B) (y := m_Ro_init) (pc := 40) hG cf_Ro_init_Na_init rfl rfl rfl rfl (List.mem_of_getElem? (i := 190) (by decide +kernel)) (List.mem_of_getElem? (i := 93) (by decide +kernel)) (zd_dr dc_Ro_init 18 rfl)) ?_
  refine zd_ac (ok_putfF (l := l) (B := B) (y := m_Ro_init) (pc := 43) hG (C := zR5) (T := zT5) (N := 4) (ci := 5) (k := 3) rfl zl5 zt5 (by decide) (List.mem_of_getElem? (i := 194) (by decide +kernel)) rfl rfl rfl (zd_dr dc_Ro_init 19 rfl)) ?_
  refine zd_ac (ok_aload_n (l := l) (B := B) (y := m_Ro_init) (pc := 46) (k := 0) rfl (zd_dr dc_Ro_init 20 rfl)) ?_
  refine zd_ac (ok_aload_n (l := l) (B := B) (y := m_Ro_init) (pc := 47) (k := 1) rfl (zd_dr dc_Ro_init 21 rfl)) ?_
  refine zd_ac (ok_putfF (l := l) (B := B) (y := m_Ro_init) (pc := 48) hG (C := zR5) (T := zT5) (N := 4) (ci := 5) (k := 0) rfl zl5 zt5 (by decide) (List.mem_of_getElem? (i := 191) (by decide +kernel)) rfl rfl rfl (zd_dr dc_Ro_init 22 rfl)) ?_
  refine zd_ac (ok_vret (l := l) (B := B) (y := m_Ro_init) (pc := 51) rfl (zd_dr dc_Ro_init 23 rfl)) ?_
  exact zd_an
def dl_Ro_extract : List (Nat × Instr × Nat) := [(0, .aload_n 1, 1), (1, .getfield 30, 3), (4, .iconst (1), 1), (5, .iadd, 1), (6, .iconst (2), 1), (7, .idiv, 1), (8, .istore_n 3, 1), (9, .iconst (0), 1), (10, .istore 4, 2), (12, .aload_n 2, 1), (13, .iconst (0), 1), (14, .invokevirtual 34, 3), (17, .iconst (0), 1), (18, .istore 5, 2), (20, .iconst (0), 1), (21, .istore 6, 2), (23, .iload 6, 2), (25, .sipush (226), 3), (28, .if_icmp .ge (85), 3), (31, .iload 5, 2), (33, .iload_n 3, 1), (34, .if_icmp .ge (79), 3), (37, .iload_n 3, 1), (38, .iload 5, 2), (40, .iconst (1), 1), (41, .iadd, 1), (42, .iconst (2), 1), (43, .iload 5, 2), (45, .imul, 1), (46, .iconst (1), 1), (47, .isub, 1), (48, .invokestatic 37, 3), (51, .invokestatic 43, 3), (54, .istore 7, 2), (56, .aload_n 0, 1), (57, .getfield 14, 3), (60, .aload_n 1, 1), (61, .invokevirtual 46, 3), (64, .aload_n 0, 1), (65, .getfield 14, 3), (68, .bipush (-18), 2), (70, .iload_n 3, 1), (71, .iload 7, 2), (73, .isub, 1), (74, .imul, 1), (75, .invokevirtual 50, 3), (78, .pop, 1), (79, .aload_n 2, 1), (80, .invokevirtual 54, 3), (83, .aload_n 2, 1), (84, .bipush (9), 2), (86, .iload 7, 2), (88, .iload 5, 2), (90, .isub, 1), (91, .imul, 1), (92, .invokevirtual 50, 3), (95, .pop, 1), (96, .aload_n 0, 1), (97, .aload_n 2, 1), (98, .invokevirtual 57, 3), (101, .istore 4, 2), (103, .iload 7, 2), (105, .istore 5, 2), (107, .iinc 6 (1), 3), (110, .goto (-87), 3), (113, .iload 4, 2), (115, .ireturn, 1)]
theorem dc_Ro_extract : ∀ q ∈ dl_Ro_extract, decode (zd_yb m_Ro_extract) q.1 = .ok q.2 := by decide +kernel
def cd_Ro_extract (l : Launch) (B : zd_B) : List (Nat × zd_S) := [(0, oc_aload 1 1), (1, oc_getf B 4 1 4), (4, oc_ci (1) 5), (5, oc_iadd 6), (6, oc_ci (2) 7), (7, oc_idiv 8), (8, oc_istore 3 9), (9, oc_ci (0) 10), (10, oc_istore 4 12), (12, oc_aload 2 13), (13, oc_ci (0) 14), (14, oc_callv l B 4 m_Na_claim 1 17), (17, oc_ci (0) 18), (18, oc_istore 5 20), (20, oc_ci (0) 21), (21, oc_istore 6 23), (23, oc_iload 6 25), (25, oc_ci (226) 28), (28, oc_icmp_ge 113 31), (31, oc_iload 5 33), (33, oc_iload 3 34), (34, oc_icmp_ge 113 37), (37, oc_iload 3 38), (38, oc_iload 5 40), (40, oc_ci (1) 41), (41, oc_iadd 42), (42, oc_ci (2) 43), (43, oc_iload 5 45), (45, oc_imul 46), (46, oc_ci (1) 47), (47, oc_isub 48), (48, oc_calls l B m_Ma_max 2 51), (51, oc_calls l B m_Ma_min 2 54), (54, oc_istore 7 56), (56, oc_aload 0 57), (57, oc_getf B 5 1 60), (60, oc_aload 1 61), (61, oc_callv l B 4 m_Na_copy 1 64), (64, oc_aload 0 65), (65, oc_getf B 5 1 68), (68, oc_ci (-18) 70), (70, oc_iload 3 71), (71, oc_iload 7 73), (73, oc_isub 74), (74, oc_imul 75), (75, oc_callv l B 4 m_Na_move 1 78), (78, oc_pop 79), (79, oc_aload 2 80), (80, oc_callv l B 4 m_Na_increment 0 83), (83, oc_aload 2 84), (84, oc_ci (9) 86), (86, oc_iload 7 88), (88, oc_iload 5 90), (90, oc_isub 91), (91, oc_imul 92), (92, oc_callv l B 4 m_Na_move 1 95), (95, oc_pop 96), (96, oc_aload 0 97), (97, oc_aload 2 98), (98, oc_callv l B 5 m_Ro_descend 1 101), (101, oc_istore 4 103), (103, oc_iload 7 105), (105, oc_istore 5 107), (107, oc_iinc 6 (1) 110), (110, oc_goto 23), (113, oc_iload 4 115), (115, oc_iret .boolean)]
set_option maxRecDepth 20000 in
theorem ok_Ro_extract {l : Launch} {B : zd_B} (hG : zd_G B) (hl : l.stackTraces = false) : ∀ q ∈ cd_Ro_extract l B, zd_ok l B m_Ro_extract q.1 q.2 := by
  unfold cd_Ro_extract
  refine zd_ac (ok_aload_n (l := l) (B := B) (y := m_Ro_extract) (pc := 0) (k := 1) rfl (zd_dr dc_Ro_extract 0 rfl)) ?_
  refine zd_ac (ok_getf (l := l) (B := B) (y := m_Ro_extract) (pc := 1) hG (C := zR4) (T := zT4) (N := 2) (ci := 4) (k := 1) rfl zl4 (by decide) (List.mem_of_getElem? (i := 100) (by decide +kernel)) (zd_dr dc_Ro_extract 1 rfl)) ?_
  refine zd_ac (ok_iconst (l := l) (B := B) (y := m_Ro_extract) (pc := 4) (n := (1)) (zd_dr dc_Ro_extract 2 rfl) rfl) ?_
  refine zd_ac (ok_iadd (l := l) (B := B) (y := m_Ro_extract) (pc := 5) (zd_dr dc_Ro_extract 3 rfl)) ?_
  refine zd_ac (ok_iconst (l := l) (B := B) (y := m_Ro_extract) (pc := 6) (n := (2)) (zd_dr dc_Ro_extract 4 rfl) rfl) ?_
  refine zd_ac (ok_idiv (l := l) (B := B) (y := m_Ro_extract) (pc := 7) (zd_dr dc_Ro_extract 5 rfl)) ?_
  refine zd_ac (ok_istore_n (l := l) (B := B) (y := m_Ro_extract) (pc := 8) (k := 3) rfl (zd_dr dc_Ro_extract 6 rfl) (by decide)) ?_
  refine zd_ac (ok_iconst (l := l) (B := B) (y := m_Ro_extract) (pc := 9) (n := (0)) (zd_dr dc_Ro_extract 7 rfl) rfl) ?_
  refine zd_ac (ok_istore (l := l) (B := B) (y := m_Ro_extract) (pc := 10) (zd_dr dc_Ro_extract 8 rfl) (by decide)) ?_
  refine zd_ac (ok_aload_n (l := l) (B := B) (y := m_Ro_extract) (pc := 12) (k := 2) rfl (zd_dr dc_Ro_extract 9 rfl)) ?_
  refine zd_ac (ok_iconst (l := l) (B := B) (y := m_Ro_extract) (pc := 13) (n := (0)) (zd_dr dc_Ro_extract 10 rfl) rfl) ?_
  refine zd_ac (ok_callv (l := l) (B := B) (y := m_Ro_extract) (pc := 14) hG (ci := 4) rfl cf_Ro_extract_Na_claim rfl (List.mem_of_getElem? (i := 729) (by decide +kernel)) (List.mem_of_getElem? (i := 442) (by decide +kernel)) (List.mem_of_getElem? (i := 443) (by decide +kernel)) (zd_dr dc_Ro_extract 11 rfl)) ?_
  refine zd_ac (ok_iconst (l := l) (B := B) (y := m_Ro_extract) (pc := 17) (n := (0)) (zd_dr dc_Ro_extract 12 rfl) rfl) ?_
  refine zd_ac (ok_istore (l := l) (B := B) (y := m_Ro_extract) (pc := 18) (zd_dr dc_Ro_extract 13 rfl) (by decide)) ?_
  refine zd_ac (ok_iconst (l := l) (B := B) (y := m_Ro_extract) (pc := 20) (n := (0)) (zd_dr dc_Ro_extract 14 rfl) rfl) ?_
  refine zd_ac (ok_istore (l := l) (B := B) (y := m_Ro_extract) (pc := 21) (zd_dr dc_Ro_extract 15 rfl) (by decide)) ?_
  refine zd_ac (ok_iload (l := l) (B := B) (y := m_Ro_extract) (pc := 23) (zd_dr dc_Ro_extract 16 rfl)) ?_
  refine zd_ac (ok_sipush (l := l) (B := B) (y := m_Ro_extract) (pc := 25) (n := (226)) (zd_dr dc_Ro_extract 17 rfl) rfl) ?_
  refine zd_ac (ok_icmp_ge (l := l) (B := B) (y := m_Ro_extract) (pc := 28) (zd_dr dc_Ro_extract 18 rfl) (by decide)) ?_
  refine zd_ac (ok_iload (l := l) (B := B) (y := m_Ro_extract) (pc := 31) (zd_dr dc_Ro_extract 19 rfl)) ?_
  refine zd_ac (ok_iload_n (l := l) (B := B) (y := m_Ro_extract) (pc := 33) (k := 3) rfl (zd_dr dc_Ro_extract 20 rfl)) ?_
  refine zd_ac (ok_icmp_ge (l := l) (B := B) (y := m_Ro_extract) (pc := 34) (zd_dr dc_Ro_extract 21 rfl) (by decide)) ?_
  refine zd_ac (ok_iload_n (l := l) (B := B) (y := m_Ro_extract) (pc := 37) (k := 3) rfl (zd_dr dc_Ro_extract 22 rfl)) ?_
  refine zd_ac (ok_iload (l := l) (B := B) (y := m_Ro_extract) (pc := 38) (zd_dr dc_Ro_extract 23 rfl)) ?_
  refine zd_ac (ok_iconst (l := l) (B := B) (y := m_Ro_extract) (pc := 40) (n := (1)) (zd_dr dc_Ro_extract 24 rfl) rfl) ?_
  refine zd_ac (ok_iadd (l := l) (B := B) (y := m_Ro_extract) (pc := 41) (zd_dr dc_Ro_extract 25 rfl)) ?_
  refine zd_ac (ok_iconst (l := l) (B := B) (y := m_Ro_extract) (pc := 42) (n := (2)) (zd_dr dc_Ro_extract 26 rfl) rfl) ?_
  refine zd_ac (ok_iload (l := l) (B := B) (y := m_Ro_extract) (pc := 43) (zd_dr dc_Ro_extract 27 rfl)) ?_
  refine zd_ac (ok_imul (l := l) (B := B) (y := m_Ro_extract) (pc := 45) (zd_dr dc_Ro_extract 28 rfl)) ?_
  refine zd_ac (ok_iconst (l := l) (B := B) (y := m_Ro_extract) (pc := 46) (n := (1)) (zd_dr dc_Ro_extract 29 rfl) rfl) ?_
  refine zd_ac (ok_isub (l := l) (B := B) (y := m_Ro_extract) (pc := 47) (zd_dr dc_Ro_extract 30 rfl)) ?_
  refine zd_ac (ok_calls (l := l) (B := B) (y := m_Ro_extract) (pc := 48) hG cf_Ro_extract_Ma_max rfl (List.mem_of_getElem? (i := 730) (by decide +kernel)) (List.mem_of_getElem? (i := 524) (by decide +kernel)) (List.mem_of_getElem? (i := 72) (by decide +kernel)) (zd_dr dc_Ro_extract 31 rfl)) ?_
  refine zd_ac (ok_calls (l := l) (B := B) (y := m_Ro_extract) (pc := 51) hG cf_Ro_extract_Ma_min rfl (List.mem_of_getElem? (i := 731) (by decide +kernel)) (List.mem_of_getElem? (i := 688) (by decide +kernel)) (List.mem_of_getElem? (i := 72) (by decide +kernel)) (zd_dr dc_Ro_extract 32 rfl)) ?_
  refine zd_ac (ok_istore (l := l) (B := B) (y := m_Ro_extract) (pc := 54) (zd_dr dc_Ro_extract 33 rfl) (by decide)) ?_
  refine zd_ac (ok_aload_n (l := l) (B := B) (y := m_Ro_extract) (pc := 56) (k := 0) rfl (zd_dr dc_Ro_extract 34 rfl)) ?_
  refine zd_ac (ok_getf (l := l) (B := B) (y := m_Ro_extract) (pc := 57) hG (C := zR5) (T := zT5) (N := 4) (ci := 5) (k := 1) rfl zl5 (by decide) (List.mem_of_getElem? (i := 192) (by decide +kernel)) (zd_dr dc_Ro_extract 35 rfl)) ?_
  refine zd_ac (ok_aload_n (l := l) (B := B) (y := m_Ro_extract) (pc := 60) (k := 1) rfl (zd_dr dc_Ro_extract 36 rfl)) ?_
  refine zd_ac (ok_callv (l := l) (B := B) (y := m_Ro_extract) (pc := 61) hG (ci := 4) rfl cf_Ro_extract_Na_copy rfl (List.mem_of_getElem? (i := 732) (by decide +kernel)) (List.mem_of_getElem? (i := 483) (by decide +kernel)) (List.mem_of_getElem? (i := 484) (by decide +kernel)) (zd_dr dc_Ro_extract 37 rfl)) ?_
  refine zd_ac (ok_aload_n (l := l) (B := B) (y := m_Ro_extract) (pc := 64) (k := 0) rfl (zd_dr dc_Ro_extract 38 rfl)) ?_
  refine zd_ac (ok_getf (l := l) (B := B) (y := m_Ro_extract) (pc := 65) hG (C := zR5) (T := zT5) (N := 4) (ci := 5) (k := 1) rfl zl5 (by decide) (List.mem_of_getElem? (i := 192) (by decide +kernel)) (zd_dr dc_Ro_extract 39 rfl)) ?_
  refine zd_ac (ok_bipush (l := l) (B := B) (y := m_Ro_extract) (pc := 68) (n := (-18)) (zd_dr dc_Ro_extract 40 rfl) rfl) ?_
  refine zd_ac (ok_iload_n (l := l) (B := B) (y := m_Ro_extract) (pc := 70) (k := 3) rfl (zd_dr dc_Ro_extract 41 rfl)) ?_
  refine zd_ac (ok_iload (l := l) (B := B) (y := m_Ro_extract) (pc := 71) (zd_dr dc_Ro_extract 42 rfl)) ?_
  refine zd_ac (ok_isub (l := l) (B := B) (y := m_Ro_extract) (pc := 73) (zd_dr dc_Ro_extract 43 rfl)) ?_
  refine zd_ac (ok_imul (l := l) (B := B) (y := m_Ro_extract) (pc := 74) (zd_dr dc_Ro_extract 44 rfl)) ?_
  refine zd_ac (ok_callv (l := l) (B := B) (y := m_Ro_extract) (pc := 75) hG (ci := 4) rfl cf_Ro_extract_Na_move rfl (List.mem_of_getElem? (i := 733) (by decide +kernel)) (List.mem_of_getElem? (i := 537) (by decide +kernel)) (List.mem_of_getElem? (i := 538) (by decide +kernel)) (zd_dr dc_Ro_extract 45 rfl)) ?_
  refine zd_ac (ok_pop (l := l) (B := B) (y := m_Ro_extract) (pc := 78) (zd_dr dc_Ro_extract 46 rfl)) ?_
  refine zd_ac (ok_aload_n (l := l) (B := B) (y := m_Ro_extract) (pc := 79) (k := 2) rfl (zd_dr dc_Ro_extract 47 rfl)) ?_
  refine zd_ac (ok_callv (l := l) (B := B) (y := m_Ro_extract) (pc := 80) hG (ci := 4) rfl cf_Ro_extract_Na_increment rfl (List.mem_of_getElem? (i := 734) (by decide +kernel)) (List.mem_of_getElem? (i := 660) (by decide +kernel)) (List.mem_of_getElem? (i := 661) (by decide +kernel)) (zd_dr dc_Ro_extract 48 rfl)) ?_
  refine zd_ac (ok_aload_n (l := l) (B := B) (y := m_Ro_extract) (pc := 83) (k := 2) rfl (zd_dr dc_Ro_extract 49 rfl)) ?_
  refine zd_ac (ok_bipush (l := l) (B := B) (y := m_Ro_extract) (pc := 84) (n := (9)) (zd_dr dc_Ro_extract 50 rfl) rfl) ?_
  refine zd_ac (ok_iload (l := l) (B := B) (y := m_Ro_extract) (pc := 86) (zd_dr dc_Ro_extract 51 rfl)) ?_
  refine zd_ac (ok_iload (l := l) (B := B) (y := m_Ro_extract) (pc := 88) (zd_dr dc_Ro_extract 52 rfl)) ?_
  refine zd_ac (ok_isub (l := l) (B := B) (y := m_Ro_extract) (pc := 90) (zd_dr dc_Ro_extract 53 rfl)) ?_
  refine zd_ac (ok_imul (l := l) (B := B) (y := m_Ro_extract) (pc := 91) (zd_dr dc_Ro_extract 54 rfl)) ?_
  refine zd_ac (ok_callv (l := l) (B := B) (y := m_Ro_extract) (pc := 92) hG (ci := 4) rfl cf_Ro_extract_Na_move rfl (List.mem_of_getElem? (i := 733) (by decide +kernel)) (List.mem_of_getElem? (i := 537) (by decide +kernel)) (List.mem_of_getElem? (i := 538) (by decide +kernel)) (zd_dr dc_Ro_extract 55 rfl)) ?_
  refine zd_ac (ok_pop (l := l) (B := B) (y := m_Ro_extract) (pc := 95) (zd_dr dc_Ro_extract 56 rfl)) ?_
  refine zd_ac (ok_aload_n (l := l) (B := B) (y := m_Ro_extract) (pc := 96) (k := 0) rfl (zd_dr dc_Ro_extract 57 rfl)) ?_
  refine zd_ac (ok_aload_n (l := l) (B := B) (y := m_Ro_extract) (pc := 97) (k := 2) rfl (zd_dr dc_Ro_extract 58 rfl)) ?_
  refine zd_ac (ok_callv (l := l) (B := B) (y := m_Ro_extract) (pc := 98) hG (ci := 5) rfl cf_Ro_extract_Ro_descend rfl (List.mem_of_getElem? (i := 735) (by decide +kernel)) (List.mem_of_getElem? (i := 737) (by decide +kernel)) (List.mem_of_getElem? (i := 17) (by decide +kernel)) (zd_dr dc_Ro_extract 59 rfl)) ?_
  refine zd_ac (ok_istore (l := l) (B := B) (y := m_Ro_extract) (pc := 101) (zd_dr dc_Ro_extract 60 rfl) (by decide)) ?_
  refine zd_ac (ok_iload (l := l) (B := B) (y := m_Ro_extract) (pc := 103) (zd_dr dc_Ro_extract 61 rfl)) ?_
  refine zd_ac (ok_istore (l := l) (B := B) (y := m_Ro_extract) (pc := 105) (zd_dr dc_Ro_extract 62 rfl) (by decide)) ?_
  refine zd_ac (ok_iinc (l := l) (B := B) (y := m_Ro_extract) (pc := 107) (zd_dr dc_Ro_extract 63 rfl) (by decide) rfl) ?_
  refine zd_ac (ok_goto (l := l) (B := B) (y := m_Ro_extract) (pc := 110) (zd_dr dc_Ro_extract 64 rfl) (by decide)) ?_
  refine zd_ac (ok_iload (l := l) (B := B) (y := m_Ro_extract) (pc := 113) (zd_dr dc_Ro_extract 65 rfl)) ?_
  refine zd_ac (ok_iret (l := l) (B := B) (y := m_Ro_extract) (pc := 115) rfl (zd_dr dc_Ro_extract 66 rfl)) ?_
  exact zd_an
def dl_Ro_descend : List (Nat × Instr × Nat) := [(0, .iconst (0), 1), (1, .istore_n 2, 1), (2, .iload_n 2, 1), (3, .sipush (1000), 3), (6, .if_icmp .ge (82), 3), (9, .aload_n 0, 1), (10, .getfield 20, 3), (13, .aload_n 0, 1), (14, .getfield 14, 3), (17, .invokevirtual 46, 3), (20, .aload_n 0, 1), (21, .getfield 26, 3), (24, .aload_n 0, 1), (25, .getfield 20, 3), (28, .aload_n 1, 1), (29, .aload_n 0, 1), (30, .getfield 23, 3), (33, .invokevirtual 61, 3), (36, .aload_n 0, 1), (37, .getfield 23, 3), (40, .aload_n 1, 1), (41, .invokevirtual 67, 3), (44, .istore_n 3, 1), (45, .iload_n 3, 1), (46, .ifCond .lt (23), 3), (49, .iload_n 3, 1), (50, .ifCond .ne (17), 3), (53, .aload_n 0, 1), (54, .getfield 20, 3), (57, .invokevirtual 71, 3), (60, .ifCond .eq (7), 3), (63, .iconst (1), 1), (64, .goto (4), 3), (67, .iconst (0), 1), (68, .ireturn, 1), (69, .aload_n 1, 1), (70, .aload_n 0, 1), (71, .getfield 23, 3), (74, .invokevirtual 75, 3), (77, .aload_n 1, 1), (78, .iconst (2), 1), (79, .invokevirtual 78, 3), (82, .iinc 2 (1), 3), (85, .goto (-83), 3), (88, .iconst (0), 1), (89, .ireturn, 1)]
theorem dc_Ro_descend : ∀ q ∈ dl_Ro_descend, decode (zd_yb m_Ro_descend) q.1 = .ok q.2 := by decide +kernel
def cd_Ro_descend (l : Launch) (B : zd_B) : List (Nat × zd_S) := [(0, oc_ci (0) 1), (1, oc_istore 2 2), (2, oc_iload 2 3), (3, oc_ci (1000) 6), (6, oc_icmp_ge 88 9), (9, oc_aload 0 10), (10, oc_getf B 5 2 13), (13, oc_aload 0 14), (14, oc_getf B 5 1 17), (17, oc_callv l B 4 m_Na_copy 1 20), (20, oc_aload 0 21), (21, oc_getf B 5 0 24), (24, oc_aload 0 25), (25, oc_getf B 5 2 28), (28, oc_aload 1 29), (29, oc_aload 0 30), (30, oc_getf B 5 3 33), (33, oc_callv l B 2 m_Dv_split 3 36), (36, oc_aload 0 37), (37, oc_getf B 5 3 40), (40, oc_aload 1 41), (41, oc_callv l B 4 m_Na_order 1 44), (44, oc_istore 3 45), (45, oc_iload 3 46), (46, oc_if_lt 69 49), (49, oc_iload 3 50), (50, oc_if_ne 67 53), (53, oc_aload 0 54), (54, oc_getf B 5 2 57), (57, oc_callv l B 4 m_Na_isZero 0 60), (60, oc_if_eq 67 63), (63, oc_ci (1) 64), (64, oc_goto 68), (67, oc_ci (0) 68), (68, oc_iret .boolean), (69, oc_aload 1 70), (70, oc_aload 0 71), (71, oc_getf B 5 3 74), (74, oc_callv l B 4 m_Na_raiseBy 1 77), (77, oc_aload 1 78), (78, oc_ci (2) 79), (79, oc_callv l B 4 m_Na_overSmall 1 82), (82, oc_iinc 2 (1) 85), (85, oc_goto 2), (88, oc_ci (0) 89), (89, oc_iret .boolean)]
set_option maxRecDepth 20000 in
theorem ok_Ro_descend {l : Launch} {B : zd_B} (hG : zd_G B) (hl : l.stackTraces = false) : ∀ q ∈ cd_Ro_descend l B, zd_ok l B m_Ro_descend q.1 q.2 := by
  unfold cd_Ro_descend
  refine zd_ac (ok_iconst (l := l) (B := B) (y := m_Ro_descend) (pc := 0) (n := (0)) (zd_dr dc_Ro_descend 0 rfl) rfl) ?_
  refine zd_ac (ok_istore_n (l := l) (B := B) (y := m_Ro_descend) (pc := 1) (k := 2) rfl (zd_dr dc_Ro_descend 1 rfl) (by decide)) ?_
  refine zd_ac (ok_iload_n (l := l) (B := B) (y := m_Ro_descend) (pc := 2) (k := 2) rfl (zd_dr dc_Ro_descend 2 rfl)) ?_
  refine zd_ac (ok_sipush (l := l) (B := B) (y := m_Ro_descend) (pc := 3) (n := (1000)) (zd_dr dc_Ro_descend 3 rfl) rfl) ?_
  refine zd_ac (ok_icmp_ge (l := l) (B := B) (y := m_Ro_descend) (pc := 6) (zd_dr dc_Ro_descend 4 rfl) (by decide)) ?_
  refine zd_ac (ok_aload_n (l := l) (B := B) (y := m_Ro_descend) (pc := 9) (k := 0) rfl (zd_dr dc_Ro_descend 5 rfl)) ?_
  refine zd_ac (ok_getf (l := l) (B := B) (y := m_Ro_descend) (pc := 10) hG (C := zR5) (T := zT5) (N := 4) (ci := 5) (k := 2) rfl zl5 (by decide) (List.mem_of_getElem? (i := 193) (by decide +kernel)) (zd_dr dc_Ro_descend 6 rfl)) ?_
  refine zd_ac (ok_aload_n (l := l) (B := B) (y := m_Ro_descend) (pc := 13) (k := 0) rfl (zd_dr dc_Ro_descend 7 rfl)) ?_
  refine zd_ac (ok_getf (l := l) (B := B) (y := m_Ro_descend) (pc := 14) hG (C := zR5) (T := zT5) (N := 4) (ci := 5) (k := 1) rfl zl5 (by decide) (List.mem_of_getElem? (i := 192) (by decide +kernel)) (zd_dr dc_Ro_descend 8 rfl)) ?_
  refine zd_ac (ok_callv (l := l) (B := B) (y := m_Ro_descend) (pc := 17) hG (ci := 4) rfl cf_Ro_descend_Na_copy rfl (List.mem_of_getElem? (i := 732) (by decide +kernel)) (List.mem_of_getElem? (i := 483) (by decide +kernel)) (List.mem_of_getElem? (i := 484) (by decide +kernel)) (zd_dr dc_Ro_descend 9 rfl)) ?_
  refine zd_ac (ok_aload_n (l := l) (B := B) (y := m_Ro_descend) (pc := 20) (k := 0) rfl (zd_dr dc_Ro_descend 10 rfl)) ?_
  refine zd_ac (ok_getf (l := l) (B := B) (y := m_Ro_descend) (pc := 21) hG (C := zR5) (T := zT5) (N := 4) (ci := 5) (k := 0) rfl zl5 (by decide) (List.mem_of_getElem? (i := 191) (by decide +kernel)) (zd_dr dc_Ro_descend 11 rfl)) ?_
  refine zd_ac (ok_aload_n (l := l) (B := B) (y := m_Ro_descend) (pc := 24) (k := 0) rfl (zd_dr dc_Ro_descend 12 rfl)) ?_
  refine zd_ac (ok_getf (l := l) (B := B) (y := m_Ro_descend) (pc := 25) hG (C := zR5) (T := zT5) (N := 4) (ci := 5) (k := 2) rfl zl5 (by decide) (List.mem_of_getElem? (i := 193) (by decide +kernel)) (zd_dr dc_Ro_descend 13 rfl)) ?_
  refine zd_ac (ok_aload_n (l := l) (B := B) (y := m_Ro_descend) (pc := 28) (k := 1) rfl (zd_dr dc_Ro_descend 14 rfl)) ?_
  refine zd_ac (ok_aload_n (l := l) (B := B) (y := m_Ro_descend) (pc := 29) (k := 0) rfl (zd_dr dc_Ro_descend 15 rfl)) ?_
  refine zd_ac (ok_getf (l := l) (B := B) (y := m_Ro_descend) (pc := 30) hG (C := zR5) (T := zT5) (N := 4) (ci := 5) (k := 3) rfl zl5 (by decide) (List.mem_of_getElem? (i := 194) (by decide +kernel)) (zd_dr dc_Ro_descend 16 rfl)) ?_
  refine zd_ac (ok_callv (l := l) (B := B) (y := m_Ro_descend) (pc := 33) hG (ci := 2) rfl cf_Ro_descend_Dv_split rfl (List.mem_of_getElem? (i := 739) (by decide +kernel)) (List.mem_of_getElem? (i := 608) (by decide +kernel)) (List.mem_of_getElem? (i := 609) (by decide +kernel)) (zd_dr dc_Ro_descend 17 rfl)) ?_
  refine zd_ac (ok_aload_n (l := l) (B := B) (y := m_Ro_descend) (pc := 36) (k := 0) rfl (zd_dr dc_Ro_descend 18 rfl)) ?_
  refine zd_ac (ok_getf (l := l) (B := B) (y := m_Ro_descend) (pc := 37) hG (C := zR5) (T := zT5) (N := 4) (ci := 5) (k := 3) rfl zl5 (by decide) (List.mem_of_getElem? (i := 194) (by decide +kernel)) (zd_dr dc_Ro_descend 19 rfl)) ?_
  refine zd_ac (ok_aload_n (l := l) (B := B) (y := m_Ro_descend) (pc := 40) (k := 1) rfl (zd_dr dc_Ro_descend 20 rfl)) ?_
  refine zd_ac (ok_callv (l := l) (B := B) (y := m_Ro_descend) (pc := 41) hG (ci := 4) rfl cf_Ro_descend_Na_order rfl (List.mem_of_getElem? (i := 740) (by decide +kernel)) (List.mem_of_getElem? (i := 562) (by decide +kernel)) (List.mem_of_getElem? (i := 563) (by decide +kernel)) (zd_dr dc_Ro_descend 21 rfl)) ?_
  refine zd_ac (ok_istore_n (l := l) (B := B) (y := m_Ro_descend) (pc := 44) (k := 3) rfl (zd_dr dc_Ro_descend 22 rfl) (by decide)) ?_
  refine zd_ac (ok_iload_n (l := l) (B := B) (y := m_Ro_descend) (pc := 45) (k := 3) rfl (zd_dr dc_Ro_descend 23 rfl)) ?_
  refine zd_ac (ok_if_lt (l := l) (B := B) (y := m_Ro_descend) (pc := 46) (zd_dr dc_Ro_descend 24 rfl) (by decide)) ?_
  refine zd_ac (ok_iload_n (l := l) (B := B) (y := m_Ro_descend) (pc := 49) (k := 3) rfl (zd_dr dc_Ro_descend 25 rfl)) ?_
  refine zd_ac (ok_if_ne (l := l) (B := B) (y := m_Ro_descend) (pc := 50) (zd_dr dc_Ro_descend 26 rfl) (by decide)) ?_
  refine zd_ac (ok_aload_n (l := l) (B := B) (y := m_Ro_descend) (pc := 53) (k := 0) rfl (zd_dr dc_Ro_descend 27 rfl)) ?_
  refine zd_ac (ok_getf (l := l) (B := B) (y := m_Ro_descend) (pc := 54) hG (C := zR5) (T := zT5) (N := 4) (ci := 5) (k := 2) rfl zl5 (by decide) (List.mem_of_getElem? (i := 193) (by decide +kernel)) (zd_dr dc_Ro_descend 28 rfl)) ?_
  refine zd_ac (ok_callv (l := l) (B := B) (y := m_Ro_descend) (pc := 57) hG (ci := 4) rfl cf_Ro_descend_Na_isZero rfl (List.mem_of_getElem? (i := 741) (by decide +kernel)) (List.mem_of_getElem? (i := 490) (by decide +kernel)) (List.mem_of_getElem? (i := 491) (by decide +kernel)) (zd_dr dc_Ro_descend 29 rfl)) ?_
  refine zd_ac (ok_if_eq (l := l) (B := B) (y := m_Ro_descend) (pc := 60) (zd_dr dc_Ro_descend 30 rfl) (by decide)) ?_
  refine zd_ac (ok_iconst (l := l) (B := B) (y := m_Ro_descend) (pc := 63) (n := (1)) (zd_dr dc_Ro_descend 31 rfl) rfl) ?_
  refine zd_ac (ok_goto (l := l) (B := B) (y := m_Ro_descend) (pc := 64) (zd_dr dc_Ro_descend 32 rfl) (by decide)) ?_
  refine zd_ac (ok_iconst (l := l) (B := B) (y := m_Ro_descend) (pc := 67) (n := (0)) (zd_dr dc_Ro_descend 33 rfl) rfl) ?_
  refine zd_ac (ok_iret (l := l) (B := B) (y := m_Ro_descend) (pc := 68) rfl (zd_dr dc_Ro_descend 34 rfl)) ?_
  refine zd_ac (ok_aload_n (l := l) (B := B) (y := m_Ro_descend) (pc := 69) (k := 1) rfl (zd_dr dc_Ro_descend 35 rfl)) ?_
  refine zd_ac (ok_aload_n (l := l) (B := B) (y := m_Ro_descend) (pc := 70) (k := 0) rfl (zd_dr dc_Ro_descend 36 rfl)) ?_
  refine zd_ac (ok_getf (l := l) (B := B) (y := m_Ro_descend) (pc := 71) hG (C := zR5) (T := zT5) (N := 4) (ci := 5) (k := 3) rfl zl5 (by decide) (List.mem_of_getElem? (i := 194) (by decide +kernel)) (zd_dr dc_Ro_descend 37 rfl)) ?_
  refine zd_ac (ok_callv (l := l) (B := B) (y := m_Ro_descend) (pc := 74) hG (ci := 4) rfl cf_Ro_descend_Na_raiseBy rfl (List.mem_of_getElem? (i := 742) (by decide +kernel)) (List.mem_of_getElem? (i := 557) (by decide +kernel)) (List.mem_of_getElem? (i := 558) (by decide +kernel)) (zd_dr dc_Ro_descend 38 rfl)) ?_
  refine zd_ac (ok_aload_n (l := l) (B := B) (y := m_Ro_descend) (pc := 77) (k := 1) rfl (zd_dr dc_Ro_descend 39 rfl)) ?_
  refine zd_ac (ok_iconst (l := l) (B := B) (y := m_Ro_descend) (pc := 78) (n := (2)) (zd_dr dc_Ro_descend 40 rfl) rfl) ?_
  refine zd_ac (ok_callv (l := l) (B := B) (y := m_Ro_descend) (pc := 79) hG (ci := 4) rfl cf_Ro_descend_Na_overSmall rfl (List.mem_of_getElem? (i := 743) (by decide +kernel)) (List.mem_of_getElem? (i := 640) (by decide +kernel)) (List.mem_of_getElem? (i := 641) (by decide +kernel)) (zd_dr dc_Ro_descend 41 rfl)) ?_
  refine zd_ac (ok_iinc (l := l) (B := B) (y := m_Ro_descend) (pc := 82) (zd_dr dc_Ro_descend 42 rfl) (by decide) rfl) ?_
  refine zd_ac (ok_goto (l := l) (B := B) (y := m_Ro_descend) (pc := 85) (zd_dr dc_Ro_descend 43 rfl) (by decide)) ?_
  refine zd_ac (ok_iconst (l := l) (B := B) (y := m_Ro_descend) (pc := 88) (n := (0)) (zd_dr dc_Ro_descend 44 rfl) rfl) ?_
  refine zd_ac (ok_iret (l := l) (B := B) (y := m_Ro_descend) (pc := 89) rfl (zd_dr dc_Ro_descend 45 rfl)) ?_
  exact zd_an
def dl_Dc_init : List (Nat × Instr × Nat) := [(0, .aload_n 0, 1), (1, .invokespecial 3, 3), (4, .aload_n 0, 1), (5, .new 9, 3), (8, .dup, 1), (9, .bipush (112), 2), (11, .invokespecial 11, 3), (14, .putfield 14, 3), (17, .return_, 1)]
theorem dc_Dc_init : ∀ q ∈ dl_Dc_init, decode (zd_yb m_Dc_init) q.1 = .ok q.2 := by decide +kernel
def cd_Dc_init (l : Launch) (B : zd_B) : List (Nat × zd_S) := [(0, oc_aload 0 1), (1, oc_oinit 4), (4, oc_aload 0 5), (5, oc_new B 4 2 [.null, .int 0] 8), (8, oc_dup 9), (9, oc_ci (112) 11), (11, oc_calli l B m_Na_init 1 14), (14, oc_putf B (zy1 0) 1 0 17), (17, oc_vret)]
set_option maxRecDepth 20000 in
theorem ok_Dc_init {l : Launch} {B : zd_B} (hG : zd_G B) (hl : l.stackTraces = false) : ∀ q ∈ cd_Dc_init l B, zd_ok l B m_Dc_init q.1 q.2 := by
  unfold cd_Dc_init
  refine zd_ac (ok_aload_n (l := l) (B := B) (y := m_Dc_init) (pc := 0) (k := 0) rfl (zd_dr dc_Dc_init 0 rfl)) ?_
  refine zd_ac (ok_oinit (l := l) (B := B) (y := m_Dc_init) (pc := 1) hG (List.mem_of_getElem? (i := 89) (by decide +kernel)) (List.mem_of_getElem? (i := 81) (by decide +kernel)) (List.mem_of_getElem? (i := 82) (by decide +kernel)) (by decide) (by decide) (zd_dr dc_Dc_init 1 rfl)) ?_
  refine zd_ac (ok_aload_n (l := l) (B := B) (y := m_Dc_init) (pc := 4) (k := 0) rfl (zd_dr dc_Dc_init 2 rfl)) ?_
  refine zd_ac (ok_new (l := l) (B := B) (y := m_Dc_init) (pc := 5) hG (C := zR4) (T := zT4) (ty := zy4) (N := 2) rfl zl4 zt4 (List.mem_of_getElem? (i := 90) (by decide +kernel)) (List.mem_of_getElem? (i := 91) (by decide +kernel)) (List.mem_of_getElem? (i := 58) (by decide +kernel)) (by decide) (zd_dr dc_Dc_init 3 rfl)) ?_
  refine zd_ac (ok_dup (l := l) (B := B) (y := m_Dc_init) (pc := 8) (zd_dr dc_Dc_init 4 rfl)) ?_
  refine zd_ac (ok_bipush (l := l) (B := B) (y := m_Dc_init) (pc := 9) (n := (112)) (zd_dr dc_Dc_init 5 rfl) rfl) ?_
  refine zd_ac (ok_calli (l := l) (B := B) (y := m_Dc_init) (pc := 11) hG cf_Dc_init_Na_init rfl rfl rfl rfl (List.mem_of_getElem? (i := 92) (by decide +kernel)) (List.mem_of_getElem? (i := 93) (by decide +kernel)) (zd_dr dc_Dc_init 6 rfl)) ?_
  refine zd_ac (ok_putfF (l := l) (B := B) (y := m_Dc_init) (pc := 14) hG (C := zR1) (T := zT1) (N := 3) (ci := 1) (k := 0) rfl zl1 zt1 (by decide) (List.mem_of_getElem? (i := 107) (by decide +kernel)) rfl rfl rfl (zd_dr dc_Dc_init 7 rfl)) ?_
  refine zd_ac (ok_vret (l := l) (B := B) (y := m_Dc_init) (pc := 17) rfl (zd_dr dc_Dc_init 8 rfl)) ?_
  exact zd_an
def dl_Dc_sign : List (Nat × Instr × Nat) := [(0, .aload_n 0, 1), (1, .getfield 14, 3), (4, .invokevirtual 20, 3), (7, .ifCond .eq (5), 3), (10, .iconst (0), 1), (11, .ireturn, 1), (12, .aload_n 0, 1), (13, .getfield 24, 3), (16, .ifCond .eq (7), 3), (19, .iconst (-1), 1), (20, .goto (4), 3), (23, .iconst (1), 1), (24, .ireturn, 1)]
theorem dc_Dc_sign : ∀ q ∈ dl_Dc_sign, decode (zd_yb m_Dc_sign) q.1 = .ok q.2 := by decide +kernel
def cd_Dc_sign (l : Launch) (B : zd_B) : List (Nat × zd_S) := [(0, oc_aload 0 1), (1, oc_getf B 1 0 4), (4, oc_callv l B 4 m_Na_isZero 0 7), (7, oc_if_eq 12 10), (10, oc_ci (0) 11), (11, oc_iret .int), (12, oc_aload 0 13), (13, oc_getf B 1 1 16), (16, oc_if_eq 23 19), (19, oc_ci (-1) 20), (20, oc_goto 24), (23, oc_ci (1) 24), (24, oc_iret .int)]
set_option maxRecDepth 20000 in
theorem ok_Dc_sign {l : Launch} {B : zd_B} (hG : zd_G B) (hl : l.stackTraces = false) : ∀ q ∈ cd_Dc_sign l B, zd_ok l B m_Dc_sign q.1 q.2 := by
  unfold cd_Dc_sign
  refine zd_ac (ok_aload_n (l := l) (B := B) (y := m_Dc_sign) (pc := 0) (k := 0) rfl (zd_dr dc_Dc_sign 0 rfl)) ?_
  refine zd_ac (ok_getf (l := l) (B := B) (y := m_Dc_sign) (pc := 1) hG (C := zR1) (T := zT1) (N := 3) (ci := 1) (k := 0) rfl zl1 (by decide) (List.mem_of_getElem? (i := 107) (by decide +kernel)) (zd_dr dc_Dc_sign 1 rfl)) ?_
  refine zd_ac (ok_callv (l := l) (B := B) (y := m_Dc_sign) (pc := 4) hG (ci := 4) rfl cf_Dc_sign_Na_isZero rfl (List.mem_of_getElem? (i := 489) (by decide +kernel)) (List.mem_of_getElem? (i := 490) (by decide +kernel)) (List.mem_of_getElem? (i := 491) (by decide +kernel)) (zd_dr dc_Dc_sign 2 rfl)) ?_
  refine zd_ac (ok_if_eq (l := l) (B := B) (y := m_Dc_sign) (pc := 7) (zd_dr dc_Dc_sign 3 rfl) (by decide)) ?_
  refine zd_ac (ok_iconst (l := l) (B := B) (y := m_Dc_sign) (pc := 10) (n := (0)) (zd_dr dc_Dc_sign 4 rfl) rfl) ?_
  refine zd_ac (ok_iret (l := l) (B := B) (y := m_Dc_sign) (pc := 11) rfl (zd_dr dc_Dc_sign 5 rfl)) ?_
  refine zd_ac (ok_aload_n (l := l) (B := B) (y := m_Dc_sign) (pc := 12) (k := 0) rfl (zd_dr dc_Dc_sign 6 rfl)) ?_
  refine zd_ac (ok_getf (l := l) (B := B) (y := m_Dc_sign) (pc := 13) hG (C := zR1) (T := zT1) (N := 3) (ci := 1) (k := 1) rfl zl1 (by decide) (List.mem_of_getElem? (i := 111) (by decide +kernel)) (zd_dr dc_Dc_sign 7 rfl)) ?_
  refine zd_ac (ok_if_eq (l := l) (B := B) (y := m_Dc_sign) (pc := 16) (zd_dr dc_Dc_sign 8 rfl) (by decide)) ?_
  refine zd_ac (ok_iconst (l := l) (B := B) (y := m_Dc_sign) (pc := 19) (n := (-1)) (zd_dr dc_Dc_sign 9 rfl) rfl) ?_
  refine zd_ac (ok_goto (l := l) (B := B) (y := m_Dc_sign) (pc := 20) (zd_dr dc_Dc_sign 10 rfl) (by decide)) ?_
  refine zd_ac (ok_iconst (l := l) (B := B) (y := m_Dc_sign) (pc := 23) (n := (1)) (zd_dr dc_Dc_sign 11 rfl) rfl) ?_
  refine zd_ac (ok_iret (l := l) (B := B) (y := m_Dc_sign) (pc := 24) rfl (zd_dr dc_Dc_sign 12 rfl)) ?_
  exact zd_an
def dl_Dc_accept : List (Nat × Instr × Nat) := [(0, .aload_n 0, 1), (1, .getfield 14, 3), (4, .aload_n 1, 1), (5, .getfield 28, 3), (8, .invokevirtual 31, 3), (11, .aload_n 0, 1), (12, .aload_n 1, 1), (13, .getfield 35, 3), (16, .ifCond .eq (17), 3), (19, .aload_n 0, 1), (20, .getfield 14, 3), (23, .invokevirtual 20, 3), (26, .ifCond .ne (7), 3), (29, .iconst (1), 1), (30, .goto (4), 3), (33, .iconst (0), 1), (34, .putfield 24, 3), (37, .aload_n 0, 1), (38, .aload_n 1, 1), (39, .getfield 36, 3), (42, .putfield 40, 3), (45, .return_, 1)]
theorem dc_Dc_accept : ∀ q ∈ dl_Dc_accept, decode (zd_yb m_Dc_accept) q.1 = .ok q.2 := by decide +kernel
def cd_Dc_accept (l : Launch) (B : zd_B) : List (Nat × zd_S) := [(0, oc_aload 0 1), (1, oc_getf B 1 0 4), (4, oc_aload 1 5), (5, oc_getf B 6 0 8), (8, oc_callv l B 4 m_Na_copy 1 11), (11, oc_aload 0 12), (12, oc_aload 1 13), (13, oc_getf B 6 1 16), (16, oc_if_eq 33 19), (19, oc_aload 0 20), (20, oc_getf B 1 0 23), (23, oc_callv l B 4 m_Na_isZero 0 26), (26, oc_if_ne 33 29), (29, oc_ci (1) 30), (30, oc_goto 34), (33, oc_ci (0) 34), (34, oc_putf B (zy1 1) 1 1 37), (37, oc_aload 0 38), (38, oc_aload 1 39), (39, oc_getf B 6 2 42), (42, oc_putf B (zy1 2) 1 2 45), (45, oc_vret)]
set_option maxRecDepth 20000 in
theorem ok_Dc_accept {l : Launch} {B : zd_B} (hG : zd_G B) (hl : l.stackTraces = false) : ∀ q ∈ cd_Dc_accept l B, zd_ok l B m_Dc_accept q.1 q.2 := by
  unfold cd_Dc_accept
  refine zd_ac (ok_aload_n (l := l) (B := B) (y := m_Dc_accept) (pc := 0) (k := 0) rfl (zd_dr dc_Dc_accept 0 rfl)) ?_
  refine zd_ac (ok_getf (l := l) (B := B) (y := m_Dc_accept) (pc := 1) hG (C := zR1) (T := zT1) (N := 3) (ci := 1) (k := 0) rfl zl1 (by decide) (List.mem_of_getElem? (i := 107) (by decide +kernel)) (zd_dr dc_Dc_accept 1 rfl)) ?_
  refine zd_ac (ok_aload_n (l := l) (B := B) (y := m_Dc_accept) (pc := 4) (k := 1) rfl (zd_dr dc_Dc_accept 2 rfl)) ?_
  refine zd_ac (ok_getf (l := l) (B := B) (y := m_Dc_accept) (pc := 5) hG (C := zR6) (T := zT6) (N := 4) (ci := 6) (k := 0) rfl zl6 (by decide) (List.mem_of_getElem? (i := 213) (by decide +kernel)) (zd_dr dc_Dc_accept 3 rfl)) ?_
  refine zd_ac (ok_callv (l := l) (B := B) (y := m_Dc_accept) (pc := 8) hG (ci := 4) rfl cf_Dc_accept_Na_copy rfl (List.mem_of_getElem? (i := 482) (by decide +kernel)) (List.mem_of_getElem? (i := 483) (by decide +kernel)) (List.mem_of_getElem? (i := 484) (by decide +kernel)) (zd_dr dc_Dc_accept 4 rfl)) ?_
  refine zd_ac (ok_aload_n (l := l) (B := B) (y := m_Dc_accept) (pc := 11) (k := 0) rfl (zd_dr dc_Dc_accept 5 rfl)) ?_
  refine zd_ac (ok_aload_n (l := l) (B := B) (y := m_Dc_accept) (pc := 12) (k := 1) rfl (zd_dr dc_Dc_accept 6 rfl)) ?_
  refine zd_ac (ok_getf (l := l) (B := B) (y := m_Dc_accept) (pc := 13) hG (C := zR6) (T := zT6) (N := 4) (ci := 6) (k := 1) rfl zl6 (by decide) (List.mem_of_getElem? (i := 216) (by decide +kernel)) (zd_dr dc_Dc_accept 7 rfl)) ?_
  refine zd_ac (ok_if_eq (l := l) (B := B) (y := m_Dc_accept) (pc := 16) (zd_dr dc_Dc_accept 8 rfl) (by decide)) ?_
  refine zd_ac (ok_aload_n (l := l) (B := B) (y := m_Dc_accept) (pc := 19) (k := 0) rfl (zd_dr dc_Dc_accept 9 rfl)) ?_
  refine zd_ac (ok_getf (l := l) (B := B) (y := m_Dc_accept) (pc := 20) hG (C := zR1) (T := zT1) (N := 3) (ci := 1) (k := 0) rfl zl1 (by decide) (List.mem_of_getElem? (i := 107) (by decide +kernel)) (zd_dr dc_Dc_accept 10 rfl)) ?_
  refine zd_ac (ok_callv (l := l) (B := B) (y := m_Dc_accept) (pc := 23) hG (ci := 4) rfl cf_Dc_accept_Na_isZero rfl (List.mem_of_getElem? (i := 489) (by decide +kernel)) (List.mem_of_getElem? (i := 490) (by decide +kernel)) (List.mem_of_getElem? (i := 491) (by decide +kernel)) (zd_dr dc_Dc_accept 11 rfl)) ?_
  refine zd_ac (ok_if_ne (l := l) (B := B) (y := m_Dc_accept) (pc := 26) (zd_dr dc_Dc_accept 12 rfl) (by decide)) ?_
  refine zd_ac (ok_iconst (l := l) (B := B) (y := m_Dc_accept) (pc := 29) (n := (1)) (zd_dr dc_Dc_accept 13 rfl) rfl) ?_
  refine zd_ac (ok_goto (l := l) (B := B) (y := m_Dc_accept) (pc := 30) (zd_dr dc_Dc_accept 14 rfl) (by decide)) ?_
  refine zd_ac (ok_iconst (l := l) (B := B) (y := m_Dc_accept) (pc := 33) (n := (0)) (zd_dr dc_Dc_accept 15 rfl) rfl) ?_
  refine zd_ac (ok_putf (l := l) (B := B) (y := m_Dc_accept) (pc := 34) hG (C := zR1) (T := zT1) (N := 3) (ci := 1) (k := 1) rfl zl1 zt1 (by decide) (List.mem_of_getElem? (i := 111) (by decide +kernel)) rfl (zd_dr dc_Dc_accept 16 rfl)) ?_
  refine zd_ac (ok_aload_n (l := l) (B := B) (y := m_Dc_accept) (pc := 37) (k := 0) rfl (zd_dr dc_Dc_accept 17 rfl)) ?_
  refine zd_ac (ok_aload_n (l := l) (B := B) (y := m_Dc_accept) (pc := 38) (k := 1) rfl (zd_dr dc_Dc_accept 18 rfl)) ?_
  refine zd_ac (ok_getf (l := l) (B := B) (y := m_Dc_accept) (pc := 39) hG (C := zR6) (T := zT6) (N := 4) (ci := 6) (k := 2) rfl zl6 (by decide) (List.mem_of_getElem? (i := 219) (by decide +kernel)) (zd_dr dc_Dc_accept 19 rfl)) ?_
  refine zd_ac (ok_putf (l := l) (B := B) (y := m_Dc_accept) (pc := 42) hG (C := zR1) (T := zT1) (N := 3) (ci := 1) (k := 2) rfl zl1 zt1 (by decide) (List.mem_of_getElem? (i := 117) (by decide +kernel)) rfl (zd_dr dc_Dc_accept 20 rfl)) ?_
  refine zd_ac (ok_vret (l := l) (B := B) (y := m_Dc_accept) (pc := 45) rfl (zd_dr dc_Dc_accept 21 rfl)) ?_
  exact zd_an
def dl_Ru_init : List (Nat × Instr × Nat) := [(0, .aload_n 0, 1), (1, .invokespecial 3, 3), (4, .aload_n 0, 1), (5, .new 9, 3), (8, .dup, 1), (9, .sipush (226), 3), (12, .invokespecial 11, 3), (15, .putfield 14, 3), (18, .return_, 1)]
theorem dc_Ru_init : ∀ q ∈ dl_Ru_init, decode (zd_yb m_Ru_init) q.1 = .ok q.2 := by decide +kernel
def cd_Ru_init (l : Launch) (B : zd_B) : List (Nat × zd_S) := [(0, oc_aload 0 1), (1, oc_oinit 4), (4, oc_aload 0 5), (5, oc_new B 4 2 [.null, .int 0] 8), (8, oc_dup 9), (9, oc_ci (226) 12), (12, oc_calli l B m_Na_init 1 15), (15, oc_putf B (zy6 0) 6 0 18), (18, oc_vret)]
set_option maxRecDepth 20000 in
theorem ok_Ru_init {l : Launch} {B : zd_B} (hG : zd_G B) (hl : l.stackTraces = false) : ∀ q ∈ cd_Ru_init l B, zd_ok l B m_Ru_init q.1 q.2 := by
  unfold cd_Ru_init
  refine zd_ac (ok_aload_n (l := l) (B := B) (y := m_Ru_init) (pc := 0) (k := 0) rfl (zd_dr dc_Ru_init 0 rfl)) ?_
  refine zd_ac (ok_oinit (l := l) (B := B) (y := m_Ru_init) (pc := 1) hG (List.mem_of_getElem? (i := 209) (by decide +kernel)) (List.mem_of_getElem? (i := 81) (by decide +kernel)) (List.mem_of_getElem? (i := 82) (by decide +kernel)) (by decide) (by decide) (zd_dr dc_Ru_init 1 rfl)) ?_
  refine zd_ac (ok_aload_n (l := l) (B := B) (y := m_Ru_init) (pc := 4) (k := 0) rfl (zd_dr dc_Ru_init 2 rfl)) ?_
  refine zd_ac (ok_new (l := l) (B := B) (y := m_Ru_init) (pc := 5) hG (C := zR4) (T := zT4) (ty := zy4) (N := 2) rfl zl4 zt4 (List.mem_of_getElem? (i := 210) (by decide +kernel)) (List.mem_of_getElem? (i := 91) (by decide +kernel)) (List.mem_of_getElem? (i := 58) (by decide +kernel)) (by decide) (zd_dr dc_Ru_init 3 rfl)) ?_
  refine zd_ac (ok_dup (l := l) (B := B) (y := m_Ru_init) (pc := 8) (zd_dr dc_Ru_init 4 rfl)) ?_
  refine zd_ac (ok_sipush (l := l) (B := B) (y := m_Ru_init) (pc := 9) (n := (226)) (zd_dr dc_Ru_init 5 rfl) rfl) ?_
  refine zd_ac (ok_calli (l := l) (B := B) (y := m_Ru_init) (pc := 12) hG cf_Ru_init_Na_init rfl rfl rfl rfl (List.mem_of_getElem? (i := 211) (by decide +kernel)) (List.mem_of_getElem? (i := 93) (by decide +kernel)) (zd_dr dc_Ru_init 6 rfl)) ?_
  refine zd_ac (ok_putfF (l := l) (B := B) (y := m_Ru_init) (pc := 15) hG (C := zR6) (T := zT6) (N := 4) (ci := 6) (k := 0) rfl zl6 zt6 (by decide) (List.mem_of_getElem? (i := 212) (by decide +kernel)) rfl rfl rfl (zd_dr dc_Ru_init 7 rfl)) ?_
  refine zd_ac (ok_vret (l := l) (B := B) (y := m_Ru_init) (pc := 18) rfl (zd_dr dc_Ru_init 8 rfl)) ?_
  exact zd_an
def dl_Ru_describe : List (Nat × Instr × Nat) := [(0, .aload_n 0, 1), (1, .iload_n 1, 1), (2, .putfield 20, 3), (5, .aload_n 0, 1), (6, .iload_n 2, 1), (7, .putfield 24, 3), (10, .aload_n 0, 1), (11, .iconst (0), 1), (12, .putfield 28, 3), (15, .return_, 1)]
theorem dc_Ru_describe : ∀ q ∈ dl_Ru_describe, decode (zd_yb m_Ru_describe) q.1 = .ok q.2 := by decide +kernel
def cd_Ru_describe (l : Launch) (B : zd_B) : List (Nat × zd_S) := [(0, oc_aload 0 1), (1, oc_iload 1 2), (2, oc_putf B (zy6 1) 6 1 5), (5, oc_aload 0 6), (6, oc_iload 2 7), (7, oc_putf B (zy6 2) 6 2 10), (10, oc_aload 0 11), (11, oc_ci (0) 12), (12, oc_putf B (zy6 3) 6 3 15), (15, oc_vret)]
set_option maxRecDepth 20000 in
theorem ok_Ru_describe {l : Launch} {B : zd_B} (hG : zd_G B) (hl : l.stackTraces = false) : ∀ q ∈ cd_Ru_describe l B, zd_ok l B m_Ru_describe q.1 q.2 := by
  unfold cd_Ru_describe
  refine zd_ac (ok_aload_n (l := l) (B := B) (y := m_Ru_describe) (pc := 0) (k := 0) rfl (zd_dr dc_Ru_describe 0 rfl)) ?_
  refine zd_ac (ok_iload_n (l := l) (B := B) (y := m_Ru_describe) (pc := 1) (k := 1) rfl (zd_dr dc_Ru_describe 1 rfl)) ?_
  refine zd_ac (ok_putf (l := l) (B := B) (y := m_Ru_describe) (pc := 2) hG (C := zR6) (T := zT6) (N := 4) (ci := 6) (k := 1) rfl zl6 zt6 (by decide) (List.mem_of_getElem? (i := 215) (by decide +kernel)) rfl (zd_dr dc_Ru_describe 2 rfl)) ?_
  refine zd_ac (ok_aload_n (l := l) (B := B) (y := m_Ru_describe) (pc := 5) (k := 0) rfl (zd_dr dc_Ru_describe 3 rfl)) ?_
  refine zd_ac (ok_iload_n (l := l) (B := B) (y := m_Ru_describe) (pc := 6) (k := 2) rfl (zd_dr dc_Ru_describe 4 rfl)) ?_
  refine zd_ac (ok_putf (l := l) (B := B) (y := m_Ru_describe) (pc := 7) hG (C := zR6) (T := zT6) (N := 4) (ci := 6) (k := 2) rfl zl6 zt6 (by decide) (List.mem_of_getElem? (i := 218) (by decide +kernel)) rfl (zd_dr dc_Ru_describe 5 rfl)) ?_
  refine zd_ac (ok_aload_n (l := l) (B := B) (y := m_Ru_describe) (pc := 10) (k := 0) rfl (zd_dr dc_Ru_describe 6 rfl)) ?_
  refine zd_ac (ok_iconst (l := l) (B := B) (y := m_Ru_describe) (pc := 11) (n := (0)) (zd_dr dc_Ru_describe 7 rfl) rfl) ?_
  refine zd_ac (ok_putf (l := l) (B := B) (y := m_Ru_describe) (pc := 12) hG (C := zR6) (T := zT6) (N := 4) (ci := 6) (k := 3) rfl zl6 zt6 (by decide) (List.mem_of_getElem? (i := 221) (by decide +kernel)) rfl (zd_dr dc_Ru_describe 8 rfl)) ?_
  refine zd_ac (ok_vret (l := l) (B := B) (y := m_Ru_describe) (pc := 15) rfl (zd_dr dc_Ru_describe 9 rfl)) ?_
  exact zd_an
def dl_Ru_take : List (Nat × Instr × Nat) := [(0, .aload_n 0, 1), (1, .getfield 14, 3), (4, .aload_n 1, 1), (5, .getfield 31, 3), (8, .invokevirtual 34, 3), (11, .aload_n 0, 1), (12, .aload_n 1, 1), (13, .getfield 38, 3), (16, .aload_n 1, 1), (17, .getfield 39, 3), (20, .invokevirtual 40, 3), (23, .return_, 1)]
theorem dc_Ru_take : ∀ q ∈ dl_Ru_take, decode (zd_yb m_Ru_take) q.1 = .ok q.2 := by decide +kernel
def cd_Ru_take (l : Launch) (B : zd_B) : List (Nat × zd_S) := [(0, oc_aload 0 1), (1, oc_getf B 6 0 4), (4, oc_aload 1 5), (5, oc_getf B 1 0 8), (8, oc_callv l B 4 m_Na_copy 1 11), (11, oc_aload 0 12), (12, oc_aload 1 13), (13, oc_getf B 1 1 16), (16, oc_aload 1 17), (17, oc_getf B 1 2 20), (20, oc_callv l B 6 m_Ru_describe 2 23), (23, oc_vret)]
set_option maxRecDepth 20000 in
theorem ok_Ru_take {l : Launch} {B : zd_B} (hG : zd_G B) (hl : l.stackTraces = false) : ∀ q ∈ cd_Ru_take l B, zd_ok l B m_Ru_take q.1 q.2 := by
  unfold cd_Ru_take
  refine zd_ac (ok_aload_n (l := l) (B := B) (y := m_Ru_take) (pc := 0) (k := 0) rfl (zd_dr dc_Ru_take 0 rfl)) ?_
  refine zd_ac (ok_getf (l := l) (B := B) (y := m_Ru_take) (pc := 1) hG (C := zR6) (T := zT6) (N := 4) (ci := 6) (k := 0) rfl zl6 (by decide) (List.mem_of_getElem? (i := 212) (by decide +kernel)) (zd_dr dc_Ru_take 1 rfl)) ?_
  refine zd_ac (ok_aload_n (l := l) (B := B) (y := m_Ru_take) (pc := 4) (k := 1) rfl (zd_dr dc_Ru_take 2 rfl)) ?_
  refine zd_ac (ok_getf (l := l) (B := B) (y := m_Ru_take) (pc := 5) hG (C := zR1) (T := zT1) (N := 3) (ci := 1) (k := 0) rfl zl1 (by decide) (List.mem_of_getElem? (i := 109) (by decide +kernel)) (zd_dr dc_Ru_take 3 rfl)) ?_
  refine zd_ac (ok_callv (l := l) (B := B) (y := m_Ru_take) (pc := 8) hG (ci := 4) rfl cf_Ru_take_Na_copy rfl (List.mem_of_getElem? (i := 530) (by decide +kernel)) (List.mem_of_getElem? (i := 483) (by decide +kernel)) (List.mem_of_getElem? (i := 484) (by decide +kernel)) (zd_dr dc_Ru_take 4 rfl)) ?_
  refine zd_ac (ok_aload_n (l := l) (B := B) (y := m_Ru_take) (pc := 11) (k := 0) rfl (zd_dr dc_Ru_take 5 rfl)) ?_
  refine zd_ac (ok_aload_n (l := l) (B := B) (y := m_Ru_take) (pc := 12) (k := 1) rfl (zd_dr dc_Ru_take 6 rfl)) ?_
  refine zd_ac (ok_getf (l := l) (B := B) (y := m_Ru_take) (pc := 13) hG (C := zR1) (T := zT1) (N := 3) (ci := 1) (k := 1) rfl zl1 (by decide) (List.mem_of_getElem? (i := 112) (by decide +kernel)) (zd_dr dc_Ru_take 7 rfl)) ?_
  refine zd_ac (ok_aload_n (l := l) (B := B) (y := m_Ru_take) (pc := 16) (k := 1) rfl (zd_dr dc_Ru_take 8 rfl)) ?_
  refine zd_ac (ok_getf (l := l) (B := B) (y := m_Ru_take) (pc := 17) hG (C := zR1) (T := zT1) (N := 3) (ci := 1) (k := 2) rfl zl1 (by decide) (List.mem_of_getElem? (i := 116) (by decide +kernel)) (zd_dr dc_Ru_take 9 rfl)) ?_
  refine zd_ac (ok_callv (l := l) (B := B) (y := m_Ru_take) (pc := 20) hG (ci := 6) rfl cf_Ru_take_Ru_describe rfl (List.mem_of_getElem? (i := 531) (by decide +kernel)) (List.mem_of_getElem? (i := 463) (by decide +kernel)) (List.mem_of_getElem? (i := 464) (by decide +kernel)) (zd_dr dc_Ru_take 10 rfl)) ?_
  refine zd_ac (ok_vret (l := l) (B := B) (y := m_Ru_take) (pc := 23) rfl (zd_dr dc_Ru_take 11 rfl)) ?_
  exact zd_an
def dl_Ru_cutTo : List (Nat × Instr × Nat) := [(0, .aload_n 0, 1), (1, .getfield 14, 3), (4, .iload_n 1, 1), (5, .aload_n 0, 1), (6, .getfield 24, 3), (9, .isub, 1), (10, .invokevirtual 44, 3), (13, .istore_n 2, 1), (14, .aload_n 0, 1), (15, .aload_n 0, 1), (16, .getfield 28, 3), (19, .ifCond .ne (7), 3), (22, .iload_n 2, 1), (23, .ifCond .eq (7), 3), (26, .iconst (1), 1), (27, .goto (4), 3), (30, .iconst (0), 1), (31, .putfield 28, 3), (34, .aload_n 0, 1), (35, .iload_n 1, 1), (36, .putfield 24, 3), (39, .return_, 1)]
theorem dc_Ru_cutTo : ∀ q ∈ dl_Ru_cutTo, decode (zd_yb m_Ru_cutTo) q.1 = .ok q.2 := by decide +kernel
def cd_Ru_cutTo (l : Launch) (B : zd_B) : List (Nat × zd_S) := [(0, oc_aload 0 1), (1, oc_getf B 6 0 4), (4, oc_iload 1 5), (5, oc_aload 0 6), (6, oc_getf B 6 2 9), (9, oc_isub 10), (10, oc_callv l B 4 m_Na_move 1 13), (13, oc_istore 2 14), (14, oc_aload 0 15), (15, oc_aload 0 16), (16, oc_getf B 6 3 19), (19, oc_if_ne 26 22), (22, oc_iload 2 23), (23, oc_if_eq 30 26), (26, oc_ci (1) 27), (27, oc_goto 31), (30, oc_ci (0) 31), (31, oc_putf B (zy6 3) 6 3 34), (34, oc_aload 0 35), (35, oc_iload 1 36), (36, oc_putf B (zy6 2) 6 2 39), (39, oc_vret)]
set_option maxRecDepth 20000 in
theorem ok_Ru_cutTo {l : Launch} {B : zd_B} (hG : zd_G B) (hl : l.stackTraces = false) : ∀ q ∈ cd_Ru_cutTo l B, zd_ok l B m_Ru_cutTo q.1 q.2 := by
  unfold cd_Ru_cutTo
  refine zd_ac (ok_aload_n (l := l) (B := B) (y := m_Ru_cutTo) (pc := 0) (k := 0) rfl (zd_dr dc_Ru_cutTo 0 rfl)) ?_
  refine zd_ac (ok_getf (l := l) (B := B) (y := m_Ru_cutTo) (pc := 1) hG (C := zR6) (T := zT6) (N := 4) (ci := 6) (k := 0) rfl zl6 (by decide) (List.mem_of_getElem? (i := 212) (by decide +kernel)) (zd_dr dc_Ru_cutTo 1 rfl)) ?_
  refine zd_ac (ok_iload_n (l := l) (B := B) (y := m_Ru_cutTo) (pc := 4) (k := 1) rfl (zd_dr dc_Ru_cutTo 2 rfl)) ?_
  refine zd_ac (ok_aload_n (l := l) (B := B) (y := m_Ru_cutTo) (pc := 5) (k := 0) rfl (zd_dr dc_Ru_cutTo 3 rfl)) ?_
  refine zd_ac (ok_getf (l := l) (B := B) (y := m_Ru_cutTo) (pc := 6) hG (C := zR6) (T := zT6) (N := 4) (ci := 6) (k := 2) rfl zl6 (by decide) (List.mem_of_getElem? (i := 218) (by decide +kernel)) (zd_dr dc_Ru_cutTo 4 rfl)) ?_
  refine zd_ac (ok_isub (l := l) (B := B) (y := m_Ru_cutTo) (pc := 9) (zd_dr dc_Ru_cutTo 5 rfl)) ?_
  refine zd_ac (ok_callv (l := l) (B := B) (y := m_Ru_cutTo) (pc := 10) hG (ci := 4) rfl cf_Ru_cutTo_Na_move rfl (List.mem_of_getElem? (i := 536) (by decide +kernel)) (List.mem_of_getElem? (i := 537) (by decide +kernel)) (List.mem_of_getElem? (i := 538) (by decide +kernel)) (zd_dr dc_Ru_cutTo 6 rfl)) ?_
  refine zd_ac (ok_istore_n (l := l) (B := B) (y := m_Ru_cutTo) (pc := 13) (k := 2) rfl (zd_dr dc_Ru_cutTo 7 rfl) (by decide)) ?_
  refine zd_ac (ok_aload_n (l := l) (B := B) (y := m_Ru_cutTo) (pc := 14) (k := 0) rfl (zd_dr dc_Ru_cutTo 8 rfl)) ?_
  refine zd_ac (ok_aload_n (l := l) (B := B) (y := m_Ru_cutTo) (pc := 15) (k := 0) rfl (zd_dr dc_Ru_cutTo 9 rfl)) ?_
  refine zd_ac (ok_getf (l := l) (B := B) (y := m_Ru_cutTo) (pc := 16) hG (C := zR6) (T := zT6) (N := 4) (ci := 6) (k := 3) rfl zl6 (by decide) (List.mem_of_getElem? (i := 221) (by decide +kernel)) (zd_dr dc_Ru_cutTo 10 rfl)) ?_
  refine zd_ac (ok_if_ne (l := l) (B := B) (y := m_Ru_cutTo) (pc := 19) (zd_dr dc_Ru_cutTo 11 rfl) (by decide)) ?_
  refine zd_ac (ok_iload_n (l := l) (B := B) (y := m_Ru_cutTo) (pc := 22) (k := 2) rfl (zd_dr dc_Ru_cutTo 12 rfl)) ?_
  refine zd_ac (ok_if_eq (l := l) (B := B) (y := m_Ru_cutTo) (pc := 23) (zd_dr dc_Ru_cutTo 13 rfl) (by decide)) ?_
  refine zd_ac (ok_iconst (l := l) (B := B) (y := m_Ru_cutTo) (pc := 26) (n := (1)) (zd_dr dc_Ru_cutTo 14 rfl) rfl) ?_
  refine zd_ac (ok_goto (l := l) (B := B) (y := m_Ru_cutTo) (pc := 27) (zd_dr dc_Ru_cutTo 15 rfl) (by decide)) ?_
  refine zd_ac (ok_iconst (l := l) (B := B) (y := m_Ru_cutTo) (pc := 30) (n := (0)) (zd_dr dc_Ru_cutTo 16 rfl) rfl) ?_
  refine zd_ac (ok_putf (l := l) (B := B) (y := m_Ru_cutTo) (pc := 31) hG (C := zR6) (T := zT6) (N := 4) (ci := 6) (k := 3) rfl zl6 zt6 (by decide) (List.mem_of_getElem? (i := 221) (by decide +kernel)) rfl (zd_dr dc_Ru_cutTo 17 rfl)) ?_
  refine zd_ac (ok_aload_n (l := l) (B := B) (y := m_Ru_cutTo) (pc := 34) (k := 0) rfl (zd_dr dc_Ru_cutTo 18 rfl)) ?_
  refine zd_ac (ok_iload_n (l := l) (B := B) (y := m_Ru_cutTo) (pc := 35) (k := 1) rfl (zd_dr dc_Ru_cutTo 19 rfl)) ?_
  refine zd_ac (ok_putf (l := l) (B := B) (y := m_Ru_cutTo) (pc := 36) hG (C := zR6) (T := zT6) (N := 4) (ci := 6) (k := 2) rfl zl6 zt6 (by decide) (List.mem_of_getElem? (i := 218) (by decide +kernel)) rfl (zd_dr dc_Ru_cutTo 20 rfl)) ?_
  refine zd_ac (ok_vret (l := l) (B := B) (y := m_Ru_cutTo) (pc := 39) rfl (zd_dr dc_Ru_cutTo 21 rfl)) ?_
  exact zd_an
def dl_Ru_dropGuard : List (Nat × Instr × Nat) := [(0, .aload_n 0, 1), (1, .getfield 14, 3), (4, .iconst (0), 1), (5, .invokevirtual 48, 3), (8, .istore_n 2, 1), (9, .aload_n 0, 1), (10, .getfield 28, 3), (13, .istore_n 3, 1), (14, .aload_n 0, 1), (15, .aload_n 0, 1), (16, .getfield 24, 3), (19, .iconst (1), 1), (20, .isub, 1), (21, .invokevirtual 52, 3), (24, .aload_n 0, 1), (25, .getfield 28, 3), (28, .ifCond .ne (4), 3), (31, .return_, 1), (32, .iload_n 1, 1), (33, .bipush (7), 2), (35, .if_icmp .ne (13), 3), (38, .new 55, 3), (41, .dup, 1), (42, .ldc 57, 2), (44, .invokespecial 59, 3), (47, .athrow, 1), (48, .aload_n 0, 1), (49, .iload_n 1, 1), (50, .iload_n 2, 1), (51, .iload_n 3, 1), (52, .invokevirtual 62, 3), (55, .ifCond .eq (10), 3), (58, .aload_n 0, 1), (59, .getfield 14, 3), (62, .invokevirtual 66, 3), (65, .return_, 1)]
theorem dc_Ru_dropGuard : ∀ q ∈ dl_Ru_dropGuard, decode (zd_yb m_Ru_dropGuard) q.1 = .ok q.2 := by decide +kernel
def cd_Ru_dropGuard (l : Launch) (B : zd_B) : List (Nat × zd_S) := [(0, oc_aload 0 1), (1, oc_getf B 6 0 4), (4, oc_ci (0) 5), (5, oc_callv l B 4 m_Na_digitAt 1 8), (8, oc_istore 2 9), (9, oc_aload 0 10), (10, oc_getf B 6 3 13), (13, oc_istore 3 14), (14, oc_aload 0 15), (15, oc_aload 0 16), (16, oc_getf B 6 2 19), (19, oc_ci (1) 20), (20, oc_isub 21), (21, oc_callv l B 6 m_Ru_cutTo 1 24), (24, oc_aload 0 25), (25, oc_getf B 6 3 28), (28, oc_if_ne 32 31), (31, oc_vret), (32, oc_iload 1 33), (33, oc_ci (7) 35), (35, oc_icmp_ne 48 38), (38, oc_throw B 11), (48, oc_aload 0 49), (49, oc_iload 1 50), (50, oc_iload 2 51), (51, oc_iload 3 52), (52, oc_callv l B 6 m_Ru_goesOutwards 3 55), (55, oc_if_eq 65 58), (58, oc_aload 0 59), (59, oc_getf B 6 0 62), (62, oc_callv l B 4 m_Na_increment 0 65), (65, oc_vret)]
set_option maxRecDepth 20000 in
theorem ok_Ru_dropGuard {l : Launch} {B : zd_B} (hG : zd_G B) (hl : l.stackTraces = false) : ∀ q ∈ cd_Ru_dropGuard l B, zd_ok l B m_Ru_dropGuard q.1 q.2 := by
  unfold cd_Ru_dropGuard
  refine zd_ac (ok_aload_n (l := l) (B := B) (y := m_Ru_dropGuard) (pc := 0) (k := 0) rfl (zd_dr dc_Ru_dropGuard 0 rfl)) ?_
  refine zd_ac (ok_getf (l := l) (B := B) (y := m_Ru_dropGuard) (pc := 1) hG (C := zR6) (T := zT6) (N := 4) (ci := 6) (k := 0) rfl zl6 (by decide) (List.mem_of_getElem? (i := 212) (by decide +kernel)) (zd_dr dc_Ru_dropGuard 1 rfl)) ?_
  refine zd_ac (ok_iconst (l := l) (B := B) (y := m_Ru_dropGuard) (pc := 4) (n := (0)) (zd_dr dc_Ru_dropGuard 2 rfl) rfl) ?_
  refine zd_ac (ok_callv (l := l) (B := B) (y := m_Ru_dropGuard) (pc := 5) hG (ci := 4) rfl cf_Ru_dropGuard_Na_digitAt rfl (List.mem_of_getElem? (i := 647) (by decide +kernel)) (List.mem_of_getElem? (i := 648) (by decide +kernel)) (List.mem_of_getElem? (i := 649) (by decide +kernel)) (zd_dr dc_Ru_dropGuard 3 rfl)) ?_
  refine zd_ac (ok_istore_n (l := l) (B := B) (y := m_Ru_dropGuard) (pc := 8) (k := 2) rfl (zd_dr dc_Ru_dropGuard 4 rfl) (by decide)) ?_
  refine zd_ac (ok_aload_n (l := l) (B := B) (y := m_Ru_dropGuard) (pc := 9) (k := 0) rfl (zd_dr dc_Ru_dropGuard 5 rfl)) ?_
  refine zd_ac (ok_getf (l := l) (B := B) (y := m_Ru_dropGuard) (pc := 10) hG (C := zR6) (T := zT6) (N := 4) (ci := 6) (k := 3) rfl zl6 (by decide) (List.mem_of_getElem? (i := 221) (by decide +kernel)) (zd_dr dc_Ru_dropGuard 6 rfl)) ?_
  refine zd_ac (ok_istore_n (l := l) (B := B) (y := m_Ru_dropGuard) (pc := 13) (k := 3) rfl (zd_dr dc_Ru_dropGuard 7 rfl) (by decide)) ?_
  refine zd_ac (ok_aload_n (l := l) (B := B) (y := m_Ru_dropGuard) (pc := 14) (k := 0) rfl (zd_dr dc_Ru_dropGuard 8 rfl)) ?_
  refine zd_ac (ok_aload_n (l := l) (B := B) (y := m_Ru_dropGuard) (pc := 15) (k := 0) rfl (zd_dr dc_Ru_dropGuard 9 rfl)) ?_
  refine zd_ac (ok_getf (l := l) (B := B) (y := m_Ru_dropGuard) (pc := 16) hG (C := zR6) (T := zT6) (N := 4) (ci := 6) (k := 2) rfl zl6 (by decide) (List.mem_of_getElem? (i := 218) (by decide +kernel)) (zd_dr dc_Ru_dropGuard 10 rfl)) ?_
  refine zd_ac (ok_iconst (l := l) (B := B) (y := m_Ru_dropGuard) (pc := 19) (n := (1)) (zd_dr dc_Ru_dropGuard 11 rfl) rfl) ?_
  refine zd_ac (ok_isub (l := l) (B := B) (y := m_Ru_dropGuard) (pc := 20) (zd_dr dc_Ru_dropGuard 12 rfl)) ?_
  refine zd_ac (ok_callv (l := l) (B := B) (y := m_Ru_dropGuard) (pc := 21) hG (ci := 6) rfl cf_Ru_dropGuard_Ru_cutTo rfl (List.mem_of_getElem? (i := 651) (by decide +kernel)) (List.mem_of_getElem? (i := 533) (by decide +kernel)) (List.mem_of_getElem? (i := 534) (by decide +kernel)) (zd_dr dc_Ru_dropGuard 13 rfl)) ?_
  refine zd_ac (ok_aload_n (l := l) (B := B) (y := m_Ru_dropGuard) (pc := 24) (k := 0) rfl (zd_dr dc_Ru_dropGuard 14 rfl)) ?_
  refine zd_ac (ok_getf (l := l) (B := B) (y := m_Ru_dropGuard) (pc := 25) hG (C := zR6) (T := zT6) (N := 4) (ci := 6) (k := 3) rfl zl6 (by decide) (List.mem_of_getElem? (i := 221) (by decide +kernel)) (zd_dr dc_Ru_dropGuard 15 rfl)) ?_
  refine zd_ac (ok_if_ne (l := l) (B := B) (y := m_Ru_dropGuard) (pc := 28) (zd_dr dc_Ru_dropGuard 16 rfl) (by decide)) ?_
  refine zd_ac (ok_vret (l := l) (B := B) (y := m_Ru_dropGuard) (pc := 31) rfl (zd_dr dc_Ru_dropGuard 17 rfl)) ?_
  refine zd_ac (ok_iload_n (l := l) (B := B) (y := m_Ru_dropGuard) (pc := 32) (k := 1) rfl (zd_dr dc_Ru_dropGuard 18 rfl)) ?_
  refine zd_ac (ok_bipush (l := l) (B := B) (y := m_Ru_dropGuard) (pc := 33) (n := (7)) (zd_dr dc_Ru_dropGuard 19 rfl) rfl) ?_
  refine zd_ac (ok_icmp_ne (l := l) (B := B) (y := m_Ru_dropGuard) (pc := 35) (zd_dr dc_Ru_dropGuard 20 rfl) (by decide)) ?_
  refine zd_ac (ok_throw (l := l) (B := B) (y := m_Ru_dropGuard) (pc := 38) hG hl zE11 zx_Ru_55_57_59 rfl (by decide) (by decide) (zd_dr dc_Ru_dropGuard 21 rfl) (zd_dr dc_Ru_dropGuard 22 rfl) (zd_dr dc_Ru_dropGuard 23 rfl) (zd_dr dc_Ru_dropGuard 24 rfl) (zd_dr dc_Ru_dropGuard 25 rfl)) ?_
  refine zd_ac (ok_aload_n (l := l) (B := B) (y := m_Ru_dropGuard) (pc := 48) (k := 0) rfl (zd_dr dc_Ru_dropGuard 26 rfl)) ?_
  refine zd_ac (ok_iload_n (l := l) (B := B) (y := m_Ru_dropGuard) (pc := 49) (k := 1) rfl (zd_dr dc_Ru_dropGuard 27 rfl)) ?_
  refine zd_ac (ok_iload_n (l := l) (B := B) (y := m_Ru_dropGuard) (pc := 50) (k := 2) rfl (zd_dr dc_Ru_dropGuard 28 rfl)) ?_
  refine zd_ac (ok_iload_n (l := l) (B := B) (y := m_Ru_dropGuard) (pc := 51) (k := 3) rfl (zd_dr dc_Ru_dropGuard 29 rfl)) ?_
  refine zd_ac (ok_callv (l := l) (B := B) (y := m_Ru_dropGuard) (pc := 52) hG (ci := 6) rfl cf_Ru_dropGuard_Ru_goesOutwards rfl (List.mem_of_getElem? (i := 655) (by decide +kernel)) (List.mem_of_getElem? (i := 657) (by decide +kernel)) (List.mem_of_getElem? (i := 14) (by decide +kernel)) (zd_dr dc_Ru_dropGuard 30 rfl)) ?_
  refine zd_ac (ok_if_eq (l := l) (B := B) (y := m_Ru_dropGuard) (pc := 55) (zd_dr dc_Ru_dropGuard 31 rfl) (by decide)) ?_
  refine zd_ac (ok_aload_n (l := l) (B := B) (y := m_Ru_dropGuard) (pc := 58) (k := 0) rfl (zd_dr dc_Ru_dropGuard 32 rfl)) ?_
  refine zd_ac (ok_getf (l := l) (B := B) (y := m_Ru_dropGuard) (pc := 59) hG (C := zR6) (T := zT6) (N := 4) (ci := 6) (k := 0) rfl zl6 (by decide) (List.mem_of_getElem? (i := 212) (by decide +kernel)) (zd_dr dc_Ru_dropGuard 33 rfl)) ?_
  refine zd_ac (ok_callv (l := l) (B := B) (y := m_Ru_dropGuard) (pc := 62) hG (ci := 4) rfl cf_Ru_dropGuard_Na_increment rfl (List.mem_of_getElem? (i := 659) (by decide +kernel)) (List.mem_of_getElem? (i := 660) (by decide +kernel)) (List.mem_of_getElem? (i := 661) (by decide +kernel)) (zd_dr dc_Ru_dropGuard 34 rfl)) ?_
  refine zd_ac (ok_vret (l := l) (B := B) (y := m_Ru_dropGuard) (pc := 65) rfl (zd_dr dc_Ru_dropGuard 35 rfl)) ?_
  exact zd_an
def dl_Ru_goesOutwards : List (Nat × Instr × Nat) := [(0, .iload_n 1, 1), (1, .tableswitch (127) (0) (6) #[(43), (127), (45), (58), (63), (74), (94)], 43), (44, .iconst (1), 1), (45, .ireturn, 1), (46, .aload_n 0, 1), (47, .getfield 20, 3), (50, .ifCond .ne (7), 3), (53, .iconst (1), 1), (54, .goto (4), 3), (57, .iconst (0), 1), (58, .ireturn, 1), (59, .aload_n 0, 1), (60, .getfield 20, 3), (63, .ireturn, 1), (64, .iload_n 2, 1), (65, .iconst (5), 1), (66, .if_icmp .lt (7), 3), (69, .iconst (1), 1), (70, .goto (4), 3), (73, .iconst (0), 1), (74, .ireturn, 1), (75, .iload_n 2, 1), (76, .iconst (5), 1), (77, .if_icmp .gt (12), 3), (80, .iload_n 2, 1), (81, .iconst (5), 1), (82, .if_icmp .ne (11), 3), (85, .iload_n 3, 1), (86, .ifCond .eq (7), 3), (89, .iconst (1), 1), (90, .goto (4), 3), (93, .iconst (0), 1), (94, .ireturn, 1), (95, .iload_n 2, 1), (96, .iconst (5), 1), (97, .if_icmp .gt (25), 3), (100, .iload_n 2, 1), (101, .iconst (5), 1), (102, .if_icmp .ne (24), 3), (105, .iload_n 3, 1), (106, .ifCond .ne (16), 3), (109, .aload_n 0, 1), (110, .getfield 14, 3), (113, .iconst (0), 1), (114, .invokevirtual 48, 3), (117, .iconst (2), 1), (118, .irem, 1), (119, .ifCond .eq (7), 3), (122, .iconst (1), 1), (123, .goto (4), 3), (126, .iconst (0), 1), (127, .ireturn, 1), (128, .iconst (0), 1), (129, .ireturn, 1)]
theorem dc_Ru_goesOutwards : ∀ q ∈ dl_Ru_goesOutwards, decode (zd_yb m_Ru_goesOutwards) q.1 = .ok q.2 := by decide +kernel
def cd_Ru_goesOutwards (l : Launch) (B : zd_B) : List (Nat × zd_S) := [(0, oc_iload 1 1), (1, oc_sw [(0, 44), (1, 128), (2, 46), (3, 59), (4, 64), (5, 75), (6, 95)] 128), (44, oc_ci (1) 45), (45, oc_iret .boolean), (46, oc_aload 0 47), (47, oc_getf B 6 1 50), (50, oc_if_ne 57 53), (53, oc_ci (1) 54), (54, oc_goto 58), (57, oc_ci (0) 58), (58, oc_iret .boolean), (59, oc_aload 0 60), (60, oc_getf B 6 1 63), (63, oc_iret .boolean), (64, oc_iload 2 65), (65, oc_ci (5) 66), (66, oc_icmp_lt 73 69), (69, oc_ci (1) 70), (70, oc_goto 74), (73, oc_ci (0) 74), (74, oc_iret .boolean), (75, oc_iload 2 76), (76, oc_ci (5) 77), (77, oc_icmp_gt 89 80), (80, oc_iload 2 81), (81, oc_ci (5) 82), (82, oc_icmp_ne 93 85), (85, oc_iload 3 86), (86, oc_if_eq 93 89), (89, oc_ci (1) 90), (90, oc_goto 94), (93, oc_ci (0) 94), (94, oc_iret .boolean), (95, oc_iload 2 96), (96, oc_ci (5) 97), (97, oc_icmp_gt 122 100), (100, oc_iload 2 101), (101, oc_ci (5) 102), (102, oc_icmp_ne 126 105), (105, oc_iload 3 106), (106, oc_if_ne 122 109), (109, oc_aload 0 110), (110, oc_getf B 6 0 113), (113, oc_ci (0) 114), (114, oc_callv l B 4 m_Na_digitAt 1 117), (117, oc_ci (2) 118), (118, oc_irem 119), (119, oc_if_eq 126 122), (122, oc_ci (1) 123), (123, oc_goto 127), (126, oc_ci (0) 127), (127, oc_iret .boolean), (128, oc_ci (0) 129), (129, oc_iret .boolean)]
set_option maxRecDepth 20000 in
theorem ok_Ru_goesOutwards {l : Launch} {B : zd_B} (hG : zd_G B) (hl : l.stackTraces = false) : ∀ q ∈ cd_Ru_goesOutwards l B, zd_ok l B m_Ru_goesOutwards q.1 q.2 := by
  unfold cd_Ru_goesOutwards
  refine zd_ac (ok_iload_n (l := l) (B := B) (y := m_Ru_goesOutwards) (pc := 0) (k := 1) rfl (zd_dr dc_Ru_goesOutwards 0 rfl)) ?_
  refine zd_ac (ok_sw (l := l) (B := B) (y := m_Ru_goesOutwards) (pc := 1) (zd_dr dc_Ru_goesOutwards 1 rfl) (by decide) (by unfold zd_swok; decide +kernel)) ?_
  refine zd_ac (ok_iconst (l := l) (B := B) (y := m_Ru_goesOutwards) (pc := 44) (n := (1)) (zd_dr dc_Ru_goesOutwards 2 rfl) rfl) ?_
  refine zd_ac (ok_iret (l := l) (B := B) (y := m_Ru_goesOutwards) (pc := 45) rfl (zd_dr dc_Ru_goesOutwards 3 rfl)) ?_
  refine zd_ac (ok_aload_n (l := l) (B := B) (y := m_Ru_goesOutwards) (pc := 46) (k := 0) rfl (zd_dr dc_Ru_goesOutwards 4 rfl)) ?_
  refine zd_ac (ok_getf (l := l) (B := B) (y := m_Ru_goesOutwards) (pc := 47) hG (C := zR6) (T := zT6) (N := 4) (ci := 6) (k := 1) rfl zl6 (by decide) (List.mem_of_getElem? (i := 215) (by decide +kernel)) (zd_dr dc_Ru_goesOutwards 5 rfl)) ?_
  refine zd_ac (ok_if_ne (l := l) (B := B) (y := m_Ru_goesOutwards) (pc := 50) (zd_dr dc_Ru_goesOutwards 6 rfl) (by decide)) ?_
  refine zd_ac (ok_iconst (l := l) (B := B) (y := m_Ru_goesOutwards) (pc := 53) (n := (1)) (zd_dr dc_Ru_goesOutwards 7 rfl) rfl) ?_
  refine zd_ac (ok_goto (l := l) (B := B) (y := m_Ru_goesOutwards) (pc := 54) (zd_dr dc_Ru_goesOutwards 8 rfl) (by decide)) ?_
  refine zd_ac (ok_iconst (l := l) (B := B) (y := m_Ru_goesOutwards) (pc := 57) (n := (0)) (zd_dr dc_Ru_goesOutwards 9 rfl) rfl) ?_
  refine zd_ac (ok_iret (l := l) (B := B) (y := m_Ru_goesOutwards) (pc := 58) rfl (zd_dr dc_Ru_goesOutwards 10 rfl)) ?_
  refine zd_ac (ok_aload_n (l := l) (B := B) (y := m_Ru_goesOutwards) (pc := 59) (k := 0) rfl (zd_dr dc_Ru_goesOutwards 11 rfl)) ?_
  refine zd_ac (ok_getf (l := l) (B := B) (y := m_Ru_goesOutwards) (pc := 60) hG (C := zR6) (T := zT6) (N := 4) (ci := 6) (k := 1) rfl zl6 (by decide) (List.mem_of_getElem? (i := 215) (by decide +kernel)) (zd_dr dc_Ru_goesOutwards 12 rfl)) ?_
  refine zd_ac (ok_iret (l := l) (B := B) (y := m_Ru_goesOutwards) (pc := 63) rfl (zd_dr dc_Ru_goesOutwards 13 rfl)) ?_
  refine zd_ac (ok_iload_n (l := l) (B := B) (y := m_Ru_goesOutwards) (pc := 64) (k := 2) rfl (zd_dr dc_Ru_goesOutwards 14 rfl)) ?_
  refine zd_ac (ok_iconst (l := l) (B := B) (y := m_Ru_goesOutwards) (pc := 65) (n := (5)) (zd_dr dc_Ru_goesOutwards 15 rfl) rfl) ?_
  refine zd_ac (ok_icmp_lt (l := l) (B := B) (y := m_Ru_goesOutwards) (pc := 66) (zd_dr dc_Ru_goesOutwards 16 rfl) (by decide)) ?_
  refine zd_ac (ok_iconst (l := l) (B := B) (y := m_Ru_goesOutwards) (pc := 69) (n := (1)) (zd_dr dc_Ru_goesOutwards 17 rfl) rfl) ?_
  refine zd_ac (ok_goto (l := l) (B := B) (y := m_Ru_goesOutwards) (pc := 70) (zd_dr dc_Ru_goesOutwards 18 rfl) (by decide)) ?_
  refine zd_ac (ok_iconst (l := l) (B := B) (y := m_Ru_goesOutwards) (pc := 73) (n := (0)) (zd_dr dc_Ru_goesOutwards 19 rfl) rfl) ?_
  refine zd_ac (ok_iret (l := l) (B := B) (y := m_Ru_goesOutwards) (pc := 74) rfl (zd_dr dc_Ru_goesOutwards 20 rfl)) ?_
  refine zd_ac (ok_iload_n (l := l) (B := B) (y := m_Ru_goesOutwards) (pc := 75) (k := 2) rfl (zd_dr dc_Ru_goesOutwards 21 rfl)) ?_
  refine zd_ac (ok_iconst (l := l) (B := B) (y := m_Ru_goesOutwards) (pc := 76) (n := (5)) (zd_dr dc_Ru_goesOutwards 22 rfl) rfl) ?_
  refine zd_ac (ok_icmp_gt (l := l) (B := B) (y := m_Ru_goesOutwards) (pc := 77) (zd_dr dc_Ru_goesOutwards 23 rfl) (by decide)) ?_
  refine zd_ac (ok_iload_n (l := l) (B := B) (y := m_Ru_goesOutwards) (pc := 80) (k := 2) rfl (zd_dr dc_Ru_goesOutwards 24 rfl)) ?_
  refine zd_ac (ok_iconst (l := l) (B := B) (y := m_Ru_goesOutwards) (pc := 81) (n := (5)) (zd_dr dc_Ru_goesOutwards 25 rfl) rfl) ?_
  refine zd_ac (ok_icmp_ne (l := l) (B := B) (y := m_Ru_goesOutwards) (pc := 82) (zd_dr dc_Ru_goesOutwards 26 rfl) (by decide)) ?_
  refine zd_ac (ok_iload_n (l := l) (B := B) (y := m_Ru_goesOutwards) (pc := 85) (k := 3) rfl (zd_dr dc_Ru_goesOutwards 27 rfl)) ?_
  refine zd_ac (ok_if_eq (l := l) (B := B) (y := m_Ru_goesOutwards) (pc := 86) (zd_dr dc_Ru_goesOutwards 28 rfl) (by decide)) ?_
  refine zd_ac (ok_iconst (l := l) (B := B) (y := m_Ru_goesOutwards) (pc := 89) (n := (1)) (zd_dr dc_Ru_goesOutwards 29 rfl) rfl) ?_
  refine zd_ac (ok_goto (l := l) (B := B) (y := m_Ru_goesOutwards) (pc := 90) (zd_dr dc_Ru_goesOutwards 30 rfl) (by decide)) ?_
  refine zd_ac (ok_iconst (l := l) (B := B) (y := m_Ru_goesOutwards) (pc := 93) (n := (0)) (zd_dr dc_Ru_goesOutwards 31 rfl) rfl) ?_
  refine zd_ac (ok_iret (l := l) (B := B) (y := m_Ru_goesOutwards) (pc := 94) rfl (zd_dr dc_Ru_goesOutwards 32 rfl)) ?_
  refine zd_ac (ok_iload_n (l := l) (B := B) (y := m_Ru_goesOutwards) (pc := 95) (k := 2) rfl (zd_dr dc_Ru_goesOutwards 33 rfl)) ?_
  refine zd_ac (ok_iconst (l := l) (B := B) (y := m_Ru_goesOutwards) (pc := 96) (n := (5)) (zd_dr dc_Ru_goesOutwards 34 rfl) rfl) ?_
  refine zd_ac (ok_icmp_gt (l := l) (B := B) (y := m_Ru_goesOutwards) (pc := 97) (zd_dr dc_Ru_goesOutwards 35 rfl) (by decide)) ?_
  refine zd_ac (ok_iload_n (l := l) (B := B) (y := m_Ru_goesOutwards) (pc := 100) (k := 2) rfl (zd_dr dc_Ru_goesOutwards 36 rfl)) ?_
  refine zd_ac (ok_iconst (l := l) (B := B) (y := m_Ru_goesOutwards) (pc := 101) (n := (5)) (zd_dr dc_Ru_goesOutwards 37 rfl) rfl) ?_
  refine zd_ac (ok_icmp_ne (l := l) (B := B) (y := m_Ru_goesOutwards) (pc := 102) (zd_dr dc_Ru_goesOutwards 38 rfl) (by decide)) ?_
  refine zd_ac (ok_iload_n (l := l) (B := B) (y := m_Ru_goesOutwards) (pc := 105) (k := 3) rfl (zd_dr dc_Ru_goesOutwards 39 rfl)) ?_
  refine zd_ac (ok_if_ne (l := l) (B := B) (y := m_Ru_goesOutwards) (pc := 106) (zd_dr dc_Ru_goesOutwards 40 rfl) (by decide)) ?_
  refine zd_ac (ok_aload_n (l := l) (B := B) (y := m_Ru_goesOutwards) (pc := 109) (k := 0) rfl (zd_dr dc_Ru_goesOutwards 41 rfl)) ?_
  refine zd_ac (ok_getf (l := l) (B := B) (y := m_Ru_goesOutwards) (pc := 110) hG (C := zR6) (T := zT6) (N := 4) (ci := 6) (k := 0) rfl zl6 (by decide) (List.mem_of_getElem? (i := 212) (by decide +kernel)) (zd_dr dc_Ru_goesOutwards 42 rfl)) ?_
  refine zd_ac (ok_iconst (l := l) (B := B) (y := m_Ru_goesOutwards) (pc := 113) (n := (0)) (zd_dr dc_Ru_goesOutwards 43 rfl) rfl) ?_
  refine zd_ac (ok_callv (l := l) (B := B) (y := m_Ru_goesOutwards) (pc := 114) hG (ci := 4) rfl cf_Ru_goesOutwards_Na_digitAt rfl (List.mem_of_getElem? (i := 647) (by decide +kernel)) (List.mem_of_getElem? (i := 648) (by decide +kernel)) (List.mem_of_getElem? (i := 649) (by decide +kernel)) (zd_dr dc_Ru_goesOutwards 44 rfl)) ?_
  refine zd_ac (ok_iconst (l := l) (B := B) (y := m_Ru_goesOutwards) (pc := 117) (n := (2)) (zd_dr dc_Ru_goesOutwards 45 rfl) rfl) ?_
  refine zd_ac (ok_irem (l := l) (B := B) (y := m_Ru_goesOutwards) (pc := 118) (zd_dr dc_Ru_goesOutwards 46 rfl)) ?_
  refine zd_ac (ok_if_eq (l := l) (B := B) (y := m_Ru_goesOutwards) (pc := 119) (zd_dr dc_Ru_goesOutwards 47 rfl) (by decide)) ?_
  refine zd_ac (ok_iconst (l := l) (B := B) (y := m_Ru_goesOutwards) (pc := 122) (n := (1)) (zd_dr dc_Ru_goesOutwards 48 rfl) rfl) ?_
  refine zd_ac (ok_goto (l := l) (B := B) (y := m_Ru_goesOutwards) (pc := 123) (zd_dr dc_Ru_goesOutwards 49 rfl) (by decide)) ?_
  refine zd_ac (ok_iconst (l := l) (B := B) (y := m_Ru_goesOutwards) (pc := 126) (n := (0)) (zd_dr dc_Ru_goesOutwards 50 rfl) rfl) ?_
  refine zd_ac (ok_iret (l := l) (B := B) (y := m_Ru_goesOutwards) (pc := 127) rfl (zd_dr dc_Ru_goesOutwards 51 rfl)) ?_
  refine zd_ac (ok_iconst (l := l) (B := B) (y := m_Ru_goesOutwards) (pc := 128) (n := (0)) (zd_dr dc_Ru_goesOutwards 52 rfl) rfl) ?_
  refine zd_ac (ok_iret (l := l) (B := B) (y := m_Ru_goesOutwards) (pc := 129) rfl (zd_dr dc_Ru_goesOutwards 53 rfl)) ?_
  exact zd_an
def dl_Ru_fitPrecision : List (Nat × Instr × Nat) := [(0, .aload_n 0, 1), (1, .getfield 14, 3), (4, .invokevirtual 69, 3), (7, .ifCond .eq (16), 3), (10, .aload_n 0, 1), (11, .getfield 28, 3), (14, .ifCond .ne (9), 3), (17, .aload_n 0, 1), (18, .iload_n 2, 1), (19, .putfield 24, 3), (22, .return_, 1), (23, .aload_n 0, 1), (24, .aload_n 0, 1), (25, .getfield 24, 3), (28, .iload_n 1, 1), (29, .iadd, 1), (30, .iconst (1), 1), (31, .iadd, 1), (32, .aload_n 0, 1), (33, .getfield 14, 3), (36, .invokevirtual 73, 3), (39, .isub, 1), (40, .invokevirtual 52, 3), (43, .aload_n 0, 1), (44, .getfield 28, 3), (47, .ifCond .ne (18), 3), (50, .aload_n 0, 1), (51, .getfield 14, 3), (54, .iconst (0), 1), (55, .invokevirtual 48, 3), (58, .ifCond .ne (7), 3), (61, .iconst (1), 1), (62, .goto (4), 3), (65, .iconst (0), 1), (66, .istore 4, 2), (68, .aload_n 0, 1), (69, .iload_n 3, 1), (70, .invokevirtual 77, 3), (73, .iload 4, 2), (75, .ifCond .eq (39), 3), (78, .iconst (0), 1), (79, .aload_n 0, 1), (80, .getfield 24, 3), (83, .iload_n 2, 1), (84, .isub, 1), (85, .invokestatic 80, 3), (88, .istore 5, 2), (90, .aload_n 0, 1), (91, .aload_n 0, 1), (92, .getfield 24, 3), (95, .iload 5, 2), (97, .aload_n 0, 1), (98, .getfield 14, 3), (101, .invokevirtual 86, 3), (104, .invokestatic 89, 3), (107, .isub, 1), (108, .invokevirtual 52, 3), (111, .goto (24), 3), (114, .aload_n 0, 1), (115, .getfield 14, 3), (118, .invokevirtual 73, 3), (121, .iload_n 1, 1), (122, .if_icmp .le (13), 3), (125, .aload_n 0, 1), (126, .aload_n 0, 1), (127, .getfield 24, 3), (130, .iconst (1), 1), (131, .isub, 1), (132, .invokevirtual 52, 3), (135, .return_, 1)]
theorem dc_Ru_fitPrecision : ∀ q ∈ dl_Ru_fitPrecision, decode (zd_yb m_Ru_fitPrecision) q.1 = .ok q.2 := by decide +kernel
def cd_Ru_fitPrecision (l : Launch) (B : zd_B) : List (Nat × zd_S) := [(0, oc_aload 0 1), (1, oc_getf B 6 0 4), (4, oc_callv l B 4 m_Na_isZero 0 7), (7, oc_if_eq 23 10), (10, oc_aload 0 11), (11, oc_getf B 6 3 14), (14, oc_if_ne 23 17), (17, oc_aload 0 18), (18, oc_iload 2 19), (19, oc_putf B (zy6 2) 6 2 22), (22, oc_vret), (23, oc_aload 0 24), (24, oc_aload 0 25), (25, oc_getf B 6 2 28), (28, oc_iload 1 29), (29, oc_iadd 30), (30, oc_ci (1) 31), (31, oc_iadd 32), (32, oc_aload 0 33), (33, oc_getf B 6 0 36), (36, oc_callv l B 4 m_Na_digits 0 39), (39, oc_isub 40), (40, oc_callv l B 6 m_Ru_cutTo 1 43), (43, oc_aload 0 44), (44, oc_getf B 6 3 47), (47, oc_if_ne 65 50), (50, oc_aload 0 51), (51, oc_getf B 6 0 54), (54, oc_ci (0) 55), (55, oc_callv l B 4 m_Na_digitAt 1 58), (58, oc_if_ne 65 61), (61, oc_ci (1) 62), (62, oc_goto 66), (65, oc_ci (0) 66), (66, oc_istore 4 68), (68, oc_aload 0 69), (69, oc_iload 3 70), (70, oc_callv l B 6 m_Ru_dropGuard 1 73), (73, oc_iload 4 75), (75, oc_if_eq 114 78), (78, oc_ci (0) 79), (79, oc_aload 0 80), (80, oc_getf B 6 2 83), (83, oc_iload 2 84), (84, oc_isub 85), (85, oc_calls l B m_Ma_max 2 88), (88, oc_istore 5 90), (90, oc_aload 0 91), (91, oc_aload 0 92), (92, oc_getf B 6 2 95), (95, oc_iload 5 97), (97, oc_aload 0 98), (98, oc_getf B 6 0 101), (101, oc_callv l B 4 m_Na_trailingZeros 0 104), (104, oc_calls l B m_Ma_min 2 107), (107, oc_isub 108), (108, oc_callv l B 6 m_Ru_cutTo 1 111), (111, oc_goto 135), (114, oc_aload 0 115), (115, oc_getf B 6 0 118), (118, oc_callv l B 4 m_Na_digits 0 121), (121, oc_iload 1 122), (122, oc_icmp_le 135 125), (125, oc_aload 0 126), (126, oc_aload 0 127), (127, oc_getf B 6 2 130), (130, oc_ci (1) 131), (131, oc_isub 132), (132, oc_callv l B 6 m_Ru_cutTo 1 135), (135, oc_vret)]
set_option maxRecDepth 20000 in
theorem ok_Ru_fitPrecision {l : Launch} {B : zd_B} (hG : zd_G B) (hl : l.stackTraces = false) : ∀ q ∈ cd_Ru_fitPrecision l B, zd_ok l B m_Ru_fitPrecision q.1 q.2 := by
  unfold cd_Ru_fitPrecision
  refine zd_ac (ok_aload_n (l := l) (B := B) (y := m_Ru_fitPrecision) (pc := 0) (k := 0) rfl (zd_dr dc_Ru_fitPrecision 0 rfl)) ?_
  refine zd_ac (ok_getf (l := l) (B := B) (y := m_Ru_fitPrecision) (pc := 1) hG (C := zR6) (T := zT6) (N := 4) (ci := 6) (k := 0) rfl zl6 (by decide) (List.mem_of_getElem? (i := 212) (by decide +kernel)) (zd_dr dc_Ru_fitPrecision 1 rfl)) ?_
  refine zd_ac (ok_callv (l := l) (B := B) (y := m_Ru_fitPrecision) (pc := 4) hG (ci := 4) rfl cf_Ru_fitPrecision_Na_isZero rfl (List.mem_of_getElem? (i := 679) (by decide +kernel)) (List.mem_of_getElem? (i := 490) (by decide +kernel)) (List.mem_of_getElem? (i := 491) (by decide +kernel)) (zd_dr dc_Ru_fitPrecision 2 rfl)) ?_
  refine zd_ac (ok_if_eq (l := l) (B := B) (y := m_Ru_fitPrecision) (pc := 7) (zd_dr dc_Ru_fitPrecision 3 rfl) (by decide)) ?_
  refine zd_ac (ok_aload_n (l := l) (B := B) (y := m_Ru_fitPrecision) (pc := 10) (k := 0) rfl (zd_dr dc_Ru_fitPrecision 4 rfl)) ?_
  refine zd_ac (ok_getf (l := l) (B := B) (y := m_Ru_fitPrecision) (pc := 11) hG (C := zR6) (T := zT6) (N := 4) (ci := 6) (k := 3) rfl zl6 (by decide) (List.mem_of_getElem? (i := 221) (by decide +kernel)) (zd_dr dc_Ru_fitPrecision 5 rfl)) ?_
  refine zd_ac (ok_if_ne (l := l) (B := B) (y := m_Ru_fitPrecision) (pc := 14) (zd_dr dc_Ru_fitPrecision 6 rfl) (by decide)) ?_
  refine zd_ac (ok_aload_n (l := l) (B := B) (y := m_Ru_fitPrecision) (pc := 17) (k := 0) rfl (zd_dr dc_Ru_fitPrecision 7 rfl)) ?_
  refine zd_ac (ok_iload_n (l := l) (B := B) (y := m_Ru_fitPrecision) (pc := 18) (k := 2) rfl (zd_dr dc_Ru_fitPrecision 8 rfl)) ?_
  refine zd_ac (ok_putf (l := l) (B := B) (y := m_Ru_fitPrecision) (pc := 19) hG (C := zR6) (T := zT6) (N := 4) (ci := 6) (k := 2) rfl zl6 zt6 (by decide) (List.mem_of_getElem? (i := 218) (by decide +kernel)) rfl (zd_dr dc_Ru_fitPrecision 9 rfl)) ?_
  refine zd_ac (ok_vret (l := l) (B := B) (y := m_Ru_fitPrecision) (pc := 22) rfl (zd_dr dc_Ru_fitPrecision 10 rfl)) ?_
  refine zd_ac (ok_aload_n (l := l) (B := B) (y := m_Ru_fitPrecision) (pc := 23) (k := 0) rfl (zd_dr dc_Ru_fitPrecision 11 rfl)) ?_
  refine zd_ac (ok_aload_n (l := l) (B := B) (y := m_Ru_fitPrecision) (pc := 24) (k := 0) rfl (zd_dr dc_Ru_fitPrecision 12 rfl)) ?_
  refine zd_ac (ok_getf (l := l) (B := B) (y := m_Ru_fitPrecision) (pc := 25) hG (C := zR6) (T := zT6) (N := 4) (ci := 6) (k := 2) rfl zl6 (by decide) (List.mem_of_getElem? (i := 218) (by decide +kernel)) (zd_dr dc_Ru_fitPrecision 13 rfl)) ?_
  refine zd_ac (ok_iload_n (l := l) (B := B) (y := m_Ru_fitPrecision) (pc := 28) (k := 1) rfl (zd_dr dc_Ru_fitPrecision 14 rfl)) ?_
  refine zd_ac (ok_iadd (l := l) (B := B) (y := m_Ru_fitPrecision) (pc := 29) (zd_dr dc_Ru_fitPrecision 15 rfl)) ?_
  refine zd_ac (ok_iconst (l := l) (B := B) (y := m_Ru_fitPrecision) (pc := 30) (n := (1)) (zd_dr dc_Ru_fitPrecision 16 rfl) rfl) ?_
  refine zd_ac (ok_iadd (l := l) (B := B) (y := m_Ru_fitPrecision) (pc := 31) (zd_dr dc_Ru_fitPrecision 17 rfl)) ?_
  refine zd_ac (ok_aload_n (l := l) (B := B) (y := m_Ru_fitPrecision) (pc := 32) (k := 0) rfl (zd_dr dc_Ru_fitPrecision 18 rfl)) ?_
  refine zd_ac (ok_getf (l := l) (B := B) (y := m_Ru_fitPrecision) (pc := 33) hG (C := zR6) (T := zT6) (N := 4) (ci := 6) (k := 0) rfl zl6 (by decide) (List.mem_of_getElem? (i := 212) (by decide +kernel)) (zd_dr dc_Ru_fitPrecision 19 rfl)) ?_
  refine zd_ac (ok_callv (l := l) (B := B) (y := m_Ru_fitPrecision) (pc := 36) hG (ci := 4) rfl cf_Ru_fitPrecision_Na_digits rfl (List.mem_of_getElem? (i := 680) (by decide +kernel)) (List.mem_of_getElem? (i := 474) (by decide +kernel)) (List.mem_of_getElem? (i := 475) (by decide +kernel)) (zd_dr dc_Ru_fitPrecision 20 rfl)) ?_
  refine zd_ac (ok_isub (l := l) (B := B) (y := m_Ru_fitPrecision) (pc := 39) (zd_dr dc_Ru_fitPrecision 21 rfl)) ?_
  refine zd_ac (ok_callv (l := l) (B := B) (y := m_Ru_fitPrecision) (pc := 40) hG (ci := 6) rfl cf_Ru_fitPrecision_Ru_cutTo rfl (List.mem_of_getElem? (i := 651) (by decide +kernel)) (List.mem_of_getElem? (i := 533) (by decide +kernel)) (List.mem_of_getElem? (i := 534) (by decide +kernel)) (zd_dr dc_Ru_fitPrecision 22 rfl)) ?_
  refine zd_ac (ok_aload_n (l := l) (B := B) (y := m_Ru_fitPrecision) (pc := 43) (k := 0) rfl (zd_dr dc_Ru_fitPrecision 23 rfl)) ?_
  refine zd_ac (ok_getf (l := l) (B := B) (y := m_Ru_fitPrecision) (pc := 44) hG (C := zR6) (T := zT6) (N := 4) (ci := 6) (k := 3) rfl zl6 (by decide) (List.mem_of_getElem? (i := 221) (by decide +kernel)) (zd_dr dc_Ru_fitPrecision 24 rfl)) ?_
  refine zd_ac (ok_if_ne (l := l) (B := B) (y := m_Ru_fitPrecision) (pc := 47) (zd_dr dc_Ru_fitPrecision 25 rfl) (by decide)) ?_
  refine zd_ac (ok_aload_n (l := l) (B := B) (y := m_Ru_fitPrecision) (pc := 50) (k := 0) rfl (zd_dr dc_Ru_fitPrecision 26 rfl)) ?_
  refine zd_ac (ok_getf (l := l) (B := B) (y := m_Ru_fitPrecision) (pc := 51) hG (C := zR6) (T := zT6) (N := 4) (ci := 6) (k := 0) rfl zl6 (by decide) (List.mem_of_getElem? (i := 212) (by decide +kernel)) (zd_dr dc_Ru_fitPrecision 27 rfl)) ?_
  refine zd_ac (ok_iconst (l := l) (B := B) (y := m_Ru_fitPrecision) (pc := 54) (n := (0)) (zd_dr dc_Ru_fitPrecision 28 rfl) rfl) ?_
  refine zd_ac (ok_callv (l := l) (B := B) (y := m_Ru_fitPrecision) (pc := 55) hG (ci := 4) rfl cf_Ru_fitPrecision_Na_digitAt rfl (List.mem_of_getElem? (i := 647) (by decide +kernel)) (List.mem_of_getElem? (i := 648) (by decide +kernel)) (List.mem_of_getElem? (i := 649) (by decide +kernel)) (zd_dr dc_Ru_fitPrecision 29 rfl)) ?_
  refine zd_ac (ok_if_ne (l := l) (B := B) (y := m_Ru_fitPrecision) (pc := 58) (zd_dr dc_Ru_fitPrecision 30 rfl) (by decide)) ?_
  refine zd_ac (ok_iconst (l := l) (B := B) (y := m_Ru_fitPrecision) (pc := 61) (n := (1)) (zd_dr dc_Ru_fitPrecision 31 rfl) rfl) ?_
  refine zd_ac (ok_goto (l := l) (B := B) (y := m_Ru_fitPrecision) (pc := 62) (zd_dr dc_Ru_fitPrecision 32 rfl) (by decide)) ?_
  refine zd_ac (ok_iconst (l := l) (B := B) (y := m_Ru_fitPrecision) (pc := 65) (n := (0)) (zd_dr dc_Ru_fitPrecision 33 rfl) rfl) ?_
  refine zd_ac (ok_istore (l := l) (B := B) (y := m_Ru_fitPrecision) (pc := 66) (zd_dr dc_Ru_fitPrecision 34 rfl) (by decide)) ?_
  refine zd_ac (ok_aload_n (l := l) (B := B) (y := m_Ru_fitPrecision) (pc := 68) (k := 0) rfl (zd_dr dc_Ru_fitPrecision 35 rfl)) ?_
  refine zd_ac (ok_iload_n (l := l) (B := B) (y := m_Ru_fitPrecision) (pc := 69) (k := 3) rfl (zd_dr dc_Ru_fitPrecision 36 rfl)) ?_
  refine zd_ac (ok_callv (l := l) (B := B) (y := m_Ru_fitPrecision) (pc := 70) hG (ci := 6) rfl cf_Ru_fitPrecision_Ru_dropGuard rfl (List.mem_of_getElem? (i := 681) (by decide +kernel)) (List.mem_of_getElem? (i := 644) (by decide +kernel)) (List.mem_of_getElem? (i := 645) (by decide +kernel)) (zd_dr dc_Ru_fitPrecision 37 rfl)) ?_
  refine zd_ac (ok_iload (l := l) (B := B) (y := m_Ru_fitPrecision) (pc := 73) (zd_dr dc_Ru_fitPrecision 38 rfl)) ?_
  refine zd_ac (ok_if_eq (l := l) (B := B) (y := m_Ru_fitPrecision) (pc := 75) (zd_dr dc_Ru_fitPrecision 39 rfl) (by decide)) ?_
  refine zd_ac (ok_iconst (l := l) (B := B) (y := m_Ru_fitPrecision) (pc := 78) (n := (0)) (zd_dr dc_Ru_fitPrecision 40 rfl) rfl) ?_
  refine zd_ac (ok_aload_n (l := l) (B := B) (y := m_Ru_fitPrecision) (pc := 79) (k := 0) rfl (zd_dr dc_Ru_fitPrecision 41 rfl)) ?_
  refine zd_ac (ok_getf (l := l) (B := B) (y := m_Ru_fitPrecision) (pc := 80) hG (C := zR6) (T := zT6) (N := 4) (ci := 6) (k := 2) rfl zl6 (by decide) (List.mem_of_getElem? (i := 218) (by decide +kernel)) (zd_dr dc_Ru_fitPrecision 42 rfl)) ?_
  refine zd_ac (ok_iload_n (l := l) (B := B) (y := m_Ru_fitPrecision) (pc := 83) (k := 2) rfl (zd_dr dc_Ru_fitPrecision 43 rfl)) ?_
  refine zd_ac (ok_isub (l := l) (B := B) (y := m_Ru_fitPrecision) (pc := 84) (zd_dr dc_Ru_fitPrecision 44 rfl)) ?_
  refine zd_ac (ok_calls (l := l) (B := B) (y := m_Ru_fitPrecision) (pc := 85) hG cf_Ru_fitPrecision_Ma_max rfl (List.mem_of_getElem? (i := 682) (by decide +kernel)) (List.mem_of_getElem? (i := 524) (by decide +kernel)) (List.mem_of_getElem? (i := 72) (by decide +kernel)) (zd_dr dc_Ru_fitPrecision 45 rfl)) ?_
  refine zd_ac (ok_istore (l := l) (B := B) (y := m_Ru_fitPrecision) (pc := 88) (zd_dr dc_Ru_fitPrecision 46 rfl) (by decide)) ?_
  refine zd_ac (ok_aload_n (l := l) (B := B) (y := m_Ru_fitPrecision) (pc := 90) (k := 0) rfl (zd_dr dc_Ru_fitPrecision 47 rfl)) ?_
  refine zd_ac (ok_aload_n (l := l) (B := B) (y := m_Ru_fitPrecision) (pc := 91) (k := 0) rfl (zd_dr dc_Ru_fitPrecision 48 rfl)) ?_
  refine zd_ac (ok_getf (l := l) (B := B) (y := m_Ru_fitPrecision) (pc := 92) hG (C := zR6) (T := zT6) (N := 4) (ci := 6) (k := 2) rfl zl6 (by decide) (List.mem_of_getElem? (i := 218) (by decide +kernel)) (zd_dr dc_Ru_fitPrecision 49 rfl)) ?_
  refine zd_ac (ok_iload (l := l) (B := B) (y := m_Ru_fitPrecision) (pc := 95) (zd_dr dc_Ru_fitPrecision 50 rfl)) ?_
  refine zd_ac (ok_aload_n (l := l) (B := B) (y := m_Ru_fitPrecision) (pc := 97) (k := 0) rfl (zd_dr dc_Ru_fitPrecision 51 rfl)) ?_
  refine zd_ac (ok_getf (l := l) (B := B) (y := m_Ru_fitPrecision) (pc := 98) hG (C := zR6) (T := zT6) (N := 4) (ci := 6) (k := 0) rfl zl6 (by decide) (List.mem_of_getElem? (i := 212) (by decide +kernel)) (zd_dr dc_Ru_fitPrecision 52 rfl)) ?_
  refine zd_ac (ok_callv (l := l) (B := B) (y := m_Ru_fitPrecision) (pc := 101) hG (ci := 4) rfl cf_Ru_fitPrecision_Na_trailingZeros rfl (List.mem_of_getElem? (i := 683) (by decide +kernel)) (List.mem_of_getElem? (i := 684) (by decide +kernel)) (List.mem_of_getElem? (i := 685) (by decide +kernel)) (zd_dr dc_Ru_fitPrecision 53 rfl)) ?_
  refine zd_ac (ok_calls (l := l) (B := B) (y := m_Ru_fitPrecision) (pc := 104) hG cf_Ru_fitPrecision_Ma_min rfl (List.mem_of_getElem? (i := 687) (by decide +kernel)) (List.mem_of_getElem? (i := 688) (by decide +kernel)) (List.mem_of_getElem? (i := 72) (by decide +kernel)) (zd_dr dc_Ru_fitPrecision 54 rfl)) ?_
  refine zd_ac (ok_isub (l := l) (B := B) (y := m_Ru_fitPrecision) (pc := 107) (zd_dr dc_Ru_fitPrecision 55 rfl)) ?_
  refine zd_ac (ok_callv (l := l) (B := B) (y := m_Ru_fitPrecision) (pc := 108) hG (ci := 6) rfl cf_Ru_fitPrecision_Ru_cutTo rfl (List.mem_of_getElem? (i := 651) (by decide +kernel)) (List.mem_of_getElem? (i := 533) (by decide +kernel)) (List.mem_of_getElem? (i := 534) (by decide +kernel)) (zd_dr dc_Ru_fitPrecision 56 rfl)) ?_
  refine zd_ac (ok_goto (l := l) (B := B) (y := m_Ru_fitPrecision) (pc := 111) (zd_dr dc_Ru_fitPrecision 57 rfl) (by decide)) ?_
  refine zd_ac (ok_aload_n (l := l) (B := B) (y := m_Ru_fitPrecision) (pc := 114) (k := 0) rfl (zd_dr dc_Ru_fitPrecision 58 rfl)) ?_
  refine zd_ac (ok_getf (l := l) (B := B) (y := m_Ru_fitPrecision) (pc := 115) hG (C := zR6) (T := zT6) (N := 4) (ci := 6) (k := 0) rfl zl6 (by decide) (List.mem_of_getElem? (i := 212) (by decide +kernel)) (zd_dr dc_Ru_fitPrecision 59 rfl)) ?_
  refine zd_ac (ok_callv (l := l) (B := B) (y := m_Ru_fitPrecision) (pc := 118) hG (ci := 4) rfl cf_Ru_fitPrecision_Na_digits rfl (List.mem_of_getElem? (i := 680) (by decide +kernel)) (List.mem_of_getElem? (i := 474) (by decide +kernel)) (List.mem_of_getElem? (i := 475) (by decide +kernel)) (zd_dr dc_Ru_fitPrecision 60 rfl)) ?_
  refine zd_ac (ok_iload_n (l := l) (B := B) (y := m_Ru_fitPrecision) (pc := 121) (k := 1) rfl (zd_dr dc_Ru_fitPrecision 61 rfl)) ?_
  refine zd_ac (ok_icmp_le (l := l) (B := B) (y := m_Ru_fitPrecision) (pc := 122) (zd_dr dc_Ru_fitPrecision 62 rfl) (by decide)) ?_
  refine zd_ac (ok_aload_n (l := l) (B := B) (y := m_Ru_fitPrecision) (pc := 125) (k := 0) rfl (zd_dr dc_Ru_fitPrecision 63 rfl)) ?_
  refine zd_ac (ok_aload_n (l := l) (B := B) (y := m_Ru_fitPrecision) (pc := 126) (k := 0) rfl (zd_dr dc_Ru_fitPrecision 64 rfl)) ?_
  refine zd_ac (ok_getf (l := l) (B := B) (y := m_Ru_fitPrecision) (pc := 127) hG (C := zR6) (T := zT6) (N := 4) (ci := 6) (k := 2) rfl zl6 (by decide) (List.mem_of_getElem? (i := 218) (by decide +kernel)) (zd_dr dc_Ru_fitPrecision 65 rfl)) ?_
  refine zd_ac (ok_iconst (l := l) (B := B) (y := m_Ru_fitPrecision) (pc := 130) (n := (1)) (zd_dr dc_Ru_fitPrecision 66 rfl) rfl) ?_
  refine zd_ac (ok_isub (l := l) (B := B) (y := m_Ru_fitPrecision) (pc := 131) (zd_dr dc_Ru_fitPrecision 67 rfl)) ?_
  refine zd_ac (ok_callv (l := l) (B := B) (y := m_Ru_fitPrecision) (pc := 132) hG (ci := 6) rfl cf_Ru_fitPrecision_Ru_cutTo rfl (List.mem_of_getElem? (i := 651) (by decide +kernel)) (List.mem_of_getElem? (i := 533) (by decide +kernel)) (List.mem_of_getElem? (i := 534) (by decide +kernel)) (zd_dr dc_Ru_fitPrecision 68 rfl)) ?_
  refine zd_ac (ok_vret (l := l) (B := B) (y := m_Ru_fitPrecision) (pc := 135) rfl (zd_dr dc_Ru_fitPrecision 69 rfl)) ?_
  exact zd_an
end
section
/-! Natural by its value alone -/
def Ns (B : zd_B) (h : zd_H) (k R : Nat) : Prop := ∃ g n, Nt B h k R g n
def Nv (B : zd_B) (h : zd_H) (k R V : Nat) : Prop := ∃ g n, Nt B h k R g n ∧ (n = 0 ∨ g (n - 1) ≠ 0) ∧ zv 1000000000 g n = V
theorem Nv.s {B : zd_B} {h : zd_H} {k R V : Nat} (a : Nv B h k R V) : Ns B h k R := a.elim fun g b => b.elim fun n c => ⟨g, n, c.1⟩
/-- how many limbs -/
def nl (V : Nat) : Nat := if V = 0 then 0 else (dg V + 8) / 9
theorem nl_eq {g : Nat → Nat} {n : Nat} (hg : ∀ i, g i < 1000000000) (hz : n = 0 ∨ g (n - 1) ≠ 0) : n = nl (zv 1000000000 g n) := by
  unfold nl
  rcases Nat.eq_zero_or_pos n with e | e
  · subst e; rfl
  · rw [if_neg (zv_pos e hz)]
    have := dg_limbs hg e hz
    omega
theorem nl_0 : nl 0 = 0 := rfl
theorem nl_mono {a b : Nat} (h : a ≤ b) : nl a ≤ nl b := by
  unfold nl
  by_cases e : a = 0
  · rw [if_pos e]; exact Nat.zero_le _
  · rw [if_neg e, if_neg (by omega)]
    have := dg_mono h
    omega
theorem nl_eq0 {a : Nat} : nl a = 0 ↔ a = 0 := by
  unfold nl
  by_cases e : a = 0
  · rw [if_pos e]; exact ⟨fun _ => e, fun _ => rfl⟩
  · rw [if_neg e]
    have := dg_pos a
    exact ⟨fun q => by omega, fun q => absurd q e⟩
theorem Nv.nl {B : zd_B} {h : zd_H} {k R V : Nat} (a : Nv B h k R V) : nl V ≤ R := by
  obtain ⟨g, n, hN, hz, hv⟩ := a
  rw [← hv, ← nl_eq hN.2.2.2.2 hz]
  exact hN.2.2.1
theorem Nv.kept {B : zd_B} {h h' : zd_H} {S : Nat → Prop} {d k R V : Nat} (hN : Nv B h k R V) (f : Fg B h h' S d) (h0 : ¬ S (zd_b0 B + k)) (h1 : ¬ S (zd_b0 B + k + 1)) : Nv B h' k R V := by
  obtain ⟨g, n, a, b⟩ := hN
  exact ⟨g, n, a.kept f h0 h1, b⟩
theorem Ns.kept {B : zd_B} {h h' : zd_H} {S : Nat → Prop} {d k R : Nat} (hN : Ns B h k R) (f : Fg B h h' S d) (h0 : ¬ S (zd_b0 B + k)) (h1 : ¬ S (zd_b0 B + k + 1)) : Ns B h' k R := by
  obtain ⟨g, n, a⟩ := hN
  exact ⟨g, n, a.kept f h0 h1⟩
theorem NS_n {B : zd_B} {k j : Nat} (h : k + 1 < j ∨ j + 1 < k) : ¬ NS B k (zd_b0 B + j) ∧ ¬ NS B k (zd_b0 B + j + 1) := ⟨fun q => by rcases q with q | q <;> omega, fun q => by rcases q with q | q <;> omega⟩
theorem NS_o {B : zd_B} {k j : Nat} (h : j < k ∨ k + 1 < j) : ¬ NS B k (zd_b0 B + j) := fun q => by rcases q with q | q <;> omega
section NK
variable {l : Launch} {B : zd_B} {h : zd_H} {Q : zd_O → zd_H → Prop}
theorem Ns.ob {k R : Nat} (hN : Ns B h k R) : ∃ fs, zd_Ob B h (zd_b0 B + k) 4 fs := by
  obtain ⟨g, n, a⟩ := hN
  exact ⟨_, a.1⟩
theorem Nv.ob {k R V : Nat} (hN : Nv B h k R V) : ∃ fs, zd_Ob B h (zd_b0 B + k) 4 fs := hN.s.ob
theorem v_isZero (hG : zd_G B) (hl : l.stackTraces = false) {k R V : Nat} (hN : Nv B h k R V) (hq : Q (.inl (some (.int (if V = 0 then 1 else 0)))) h) : zd_M l B m_Na_isZero [.ref (zd_b0 B + k)] h Q := by
  obtain ⟨g, n, a, b, c⟩ := hN
  refine c_Na_isZero hG hl a ?_
  have e := nl_eq a.2.2.2.2 b
  rw [c] at e
  have : (if n = 0 then (1 : Int32) else 0) = (if V = 0 then 1 else 0) := by
    by_cases z : V = 0
    · rw [if_pos z, if_pos (by rw [e]; exact nl_eq0.mpr z)]
    · rw [if_neg z, if_neg (fun q => z (nl_eq0.mp (e ▸ q)))]
  rw [this]
  exact hq
theorem v_digits (hG : zd_G B) (hl : l.stackTraces = false) {k R V : Nat} (hN : Nv B h k R V) (hq : Q (.inl (some (.int (nI (dg V))))) h) : zd_M l B m_Na_digits [.ref (zd_b0 B + k)] h Q := by
  obtain ⟨g, n, a, b, c⟩ := hN
  refine c_Na_digits hG hl a b ?_
  rw [c]
  exact hq
theorem v_digitAt (hG : zd_G B) (hl : l.stackTraces = false) {k R V p : Nat} (hN : Nv B h k R V) (hp : p < 2 ^ 31) (hq : Q (.inl (some (.int (nI (V / 10 ^ p % 10))))) h) : zd_M l B m_Na_digitAt [.ref (zd_b0 B + k), .int (nI p)] h Q := by
  obtain ⟨g, n, a, b, c⟩ := hN
  refine c_Na_digitAt hG hl a hp ?_
  rw [c]
  exact hq
theorem v_order (hG : zd_G B) (hl : l.stackTraces = false) {k R V j R2 V2 : Nat} (hN : Nv B h k R V) (hJ : Nv B h j R2 V2) (hq : Q (.inl (some (.int (cmpN V V2)))) h) : zd_M l B m_Na_order [.ref (zd_b0 B + k), .ref (zd_b0 B + j)] h Q := by
  obtain ⟨g, n, a, b, c⟩ := hN
  obtain ⟨g2, n2, a2, b2, c2⟩ := hJ
  refine c_Na_order hG hl a a2 b b2 ?_
  rw [c, c2]
  exact hq
theorem v_trailingZeros (hG : zd_G B) (hl : l.stackTraces = false) {k R V : Nat} (hN : Nv B h k R V) (hV : V ≠ 0) (hq : ∀ t, V % 10 ^ t = 0 → V % 10 ^ (t + 1) ≠ 0 → Q (.inl (some (.int (nI t)))) h) : zd_M l B m_Na_trailingZeros [.ref (zd_b0 B + k)] h Q := by
  obtain ⟨g, n, a, b, c⟩ := hN
  rw [← c] at hq hV
  refine c_Na_trailingZeros hG hl a ?_ b hq
  rcases Nat.eq_zero_or_pos n with e | e
  · exact absurd (by rw [e]; rfl) hV
  · exact e
theorem v_copy (hG : zd_G B) (hl : l.stackTraces = false) {k R j R2 V2 : Nat} (hN : Ns B h k R) (hJ : Nv B h j R2 V2) (hkj : k ≠ j) (hr : Rm h)
    (hok : ∀ h', nl V2 ≤ R → Fg B h h' (NS B k) 0 → Nv B h' k R V2 → Q (.inl none) h') (hth : ∀ h', R < nl V2 → Fx B h h' E0 11 → Q (.inr (zd_b0 B + h.1, 11)) h') : zd_M l B m_Na_copy [.ref (zd_b0 B + k), .ref (zd_b0 B + j)] h Q := by
  obtain ⟨g, n, a⟩ := hN
  obtain ⟨g2, n2, a2, b2, c2⟩ := hJ
  have e := nl_eq a2.2.2.2.2 b2
  rw [c2] at e
  refine c_Na_copy hG hl a a2 hkj hr (fun h' g' d1 d2 d3 d4 => hok h' (by omega) d2 ⟨g', n2, d3, ?_, by rw [← c2]; exact zv_congr d4⟩) (fun h' d1 d2 => hth h' (by omega) d2)
  rcases b2 with b2 | b2
  · exact Or.inl b2
  · rcases Nat.eq_zero_or_pos n2 with q | q
    · exact Or.inl q
    · exact Or.inr (by rw [d4 _ (by omega)]; exact b2)
theorem v_become (hG : zd_G B) (hl : l.stackTraces = false) {k R : Nat} {v : Int} (hN : Ns B h k R) (hR : 3 ≤ R) (hz : lR v) (hr : Rm h)
    (hq : ∀ h', Fg B h h' (NS B k) 0 → Nv B h' k R v.natAbs → Q (.inl none) h') : zd_M l B m_Na_become [.ref (zd_b0 B + k), .long (lI v)] h Q := by
  obtain ⟨g, n, a⟩ := hN
  exact c_Na_become hG hl a hR hz hr (fun h' g' n' b1 b2 b3 b4 => hq h' b1 ⟨g', n', b2, b3, b4⟩)
theorem v_product (hG : zd_G B) (hl : l.stackTraces = false) {k R ja Ra Va jb Rb Vb : Nat} (hN : Ns B h k R) (hA : Nv B h ja Ra Va) (hJ : Nv B h jb Rb Vb) (hka : k ≠ ja) (hkb : k ≠ jb) (hr : Rm h) (hs : nl Va + nl Vb ≤ R)
    (hq : ∀ h', Fg B h h' (NS B k) 0 → Nv B h' k R (Va * Vb) → Q (.inl none) h') : zd_M l B m_Na_becomeProduct [.ref (zd_b0 B + k), .ref (zd_b0 B + ja), .ref (zd_b0 B + jb)] h Q := by
  obtain ⟨g, n, a⟩ := hN
  obtain ⟨ga, na, a1, b1, c1⟩ := hA
  obtain ⟨gb, nb, a2, b2, c2⟩ := hJ
  have e1 := nl_eq a1.2.2.2.2 b1
  have e2 := nl_eq a2.2.2.2.2 b2
  rw [c1] at e1
  rw [c2] at e2
  exact c_Na_becomeProduct hG hl a a1 a2 hka hkb hr (by omega) (fun h' g' n' d1 d2 d3 d4 _ => hq h' d1 ⟨g', n', d2, d3, by rw [d4, c1, c2]⟩)
theorem v_move (hG : zd_G B) (hl : l.stackTraces = false) {k R V : Nat} {p : Int} (hN : Nv B h k R V) (hp : -100000 < p ∧ p < 100000) (hr : Rm h)
    (hq : ∀ h' lost, (V = 0 ∨ p ≤ 0 ∨ (dg V + p.toNat + 8) / 9 ≤ R) → Fg B h h' (NS B k) 0 → Nv B h' k R (V * 10 ^ p.toNat / 10 ^ (-p).toNat) → lost ≤ 1 → (lost = 1 ↔ V % 10 ^ (-p).toNat ≠ 0) → Q (.inl (some (.int (nI lost)))) h')
    (hth : ∀ h', V ≠ 0 → 0 < p → R < (dg V + p.toNat + 8) / 9 → Fx B h h' E0 11 → Q (.inr (zd_b0 B + h.1, 11)) h') :
    zd_M l B m_Na_move [.ref (zd_b0 B + k), .int (iI p)] h Q := by
  obtain ⟨g, n, a, b, c⟩ := hN
  refine c_Na_move hG hl a b hp hr (fun h' g' n' lost d1 d2 d3 d4 d5 d6 d7 => hq h' lost ?_ d2 ⟨g', n', d3, d4, by rw [d5, c]⟩ d6 (by rw [← c]; exact d7)) (fun h' d1 d2 d3 d4 => hth h' (by rw [← c]; exact zv_pos d1 b) d2 (by rw [← c]; exact d3) d4)
  rcases d1 with q | q
  · exact Or.inl (by rw [← c, q]; rfl)
  · rw [c] at q
    exact Or.inr q
theorem v_raiseBy (hG : zd_G B) (hl : l.stackTraces = false) {k R V j R2 V2 : Nat} (hN : Nv B h k R V) (hJ : Nv B h j R2 V2) (hkj : k ≠ j) (hr : Rm h)
    (hq : ∀ h', Fg B h h' (NS B k) 0 → Nv B h' k R (V + V2) → Q (.inl none) h')
    (hth : ∀ h', (R < nl V + 1 ∨ R < nl V2 + 1) → Fx B h h' E0 11 → Q (.inr (zd_b0 B + h.1, 11)) h') : zd_M l B m_Na_raiseBy [.ref (zd_b0 B + k), .ref (zd_b0 B + j)] h Q := by
  obtain ⟨g, n, a, b, c⟩ := hN
  obtain ⟨g2, n2, a2, b2, c2⟩ := hJ
  have e1 := nl_eq a.2.2.2.2 b
  have e2 := nl_eq a2.2.2.2.2 b2
  rw [c] at e1
  rw [c2] at e2
  refine c_Na_raiseBy hG hl a a2 hkj hr (fun h' g' n' d1 d2 d3 d4 d5 _ => hq h' d2 ⟨g', n', d3, d4, by rw [d5, c, c2]⟩) (fun h' d1 d2 => hth h' ?_ d2)
  split at d1 <;> omega
theorem v_lowerBy (hG : zd_G B) (hl : l.stackTraces = false) {k R V j R2 V2 : Nat} (hN : Nv B h k R V) (hJ : Nv B h j R2 V2) (hkj : k ≠ j) (hle : V2 ≤ V)
    (hq : ∀ h', Fg B h h' (NS B k) 0 → Nv B h' k R (V - V2) → Q (.inl none) h') : zd_M l B m_Na_lowerBy [.ref (zd_b0 B + k), .ref (zd_b0 B + j)] h Q := by
  obtain ⟨g, n, a, b, c⟩ := hN
  obtain ⟨g2, n2, a2, b2, c2⟩ := hJ
  have e1 := nl_eq a.2.2.2.2 b
  have e2 := nl_eq a2.2.2.2.2 b2
  rw [c] at e1
  rw [c2] at e2
  have := nl_mono hle
  exact c_Na_lowerBy hG hl a a2 hkj (by omega) (by rw [c, c2]; exact hle) (fun h' g' n' d1 d2 d3 d4 _ => hq h' d1 ⟨g', n', d2, d3, by rw [d4, c, c2]⟩)
theorem v_increment (hG : zd_G B) (hl : l.stackTraces = false) {k R V : Nat} (hN : Nv B h k R V) (hr : Rm h) (hnR : nl V < R)
    (hq : ∀ h', Fg B h h' (NS B k) 0 → Nv B h' k R (V + 1) → Q (.inl none) h') : zd_M l B m_Na_increment [.ref (zd_b0 B + k)] h Q := by
  obtain ⟨g, n, a, b, c⟩ := hN
  have e1 := nl_eq a.2.2.2.2 b
  rw [c] at e1
  exact c_Na_increment hG hl a hr (by omega) b (fun h' g' n' d1 d2 d3 d4 _ => hq h' d1 ⟨g', n', d2, d3, by rw [d4, c]⟩)
theorem v_overSmall (hG : zd_G B) (hl : l.stackTraces = false) {k R V m : Nat} (hN : Nv B h k R V) (hm : m < 1000000000) (hm1 : 1 ≤ m)
    (hq : ∀ h', Fg B h h' (NS B k) 0 → Nv B h' k R (V / m) → Q (.inl none) h') : zd_M l B m_Na_overSmall [.ref (zd_b0 B + k), .int (nI m)] h Q := by
  obtain ⟨g, n, a, b, c⟩ := hN
  exact c_Na_overSmall hG hl a hm hm1 b (fun h' g' n' d1 d2 d3 d4 _ => hq h' d1 ⟨g', n', d2, d3, by rw [d4, c]⟩)
end NK
end
section
/-! Divider -/
section DA
variable {l : Launch} {B : zd_B} {h : zd_H} {Q : zd_O → zd_H → Prop}
/-- the loop of timesSmall -/
theorem w_Na_times2 (hG : zd_G B) (hl : l.stackTraces = false) {k R n m : Nat} {g0 : Nat → Nat} (hm : m < 1000000000) (hm1 : 1 ≤ m) 
    (hq : ∀ h' g' n', Fg B h h' (NS B k) 0 → Nt B h' k R g' n' → zv 1000000000 g' n' = zv 1000000000 g0 n * m → (n' = n ∨ (n' = n + 1 ∧ g' n ≠ 0)) → Q (.inl none) h')
    (hth : ∀ h', R < n + 1 → 1000000000 ^ n ≤ zv 1000000000 g0 n * m → Fx B h h' (NS B k) 11 → (∃ g' n', Nt B h' k R g' n') → Q (.inr (zd_b0 B + h.1, 11)) h') :
    ∀ (d i : Nat) (h1 : zd_H) (g : Nat → Nat) (c : Nat) (w : Option Value), i + d = n → Fg B h h1 (NS B k) 0 → Nt B h1 k R g n → Rm h1 → (∀ j, i ≤ j → g j = g0 j) → c < m → zv 1000000000 g i + c * 1000000000 ^ i = zv 1000000000 g0 i * m → zd_W l B m_Na_timesSmall 5 [some (.ref (zd_b0 B + k)), some (.int (nI m)), some (.long (lN c)), none, some (.int (nI i)), w, none] [] h1 Q := by
  intro d
  induction d with
  | zero =>
    intro i h1 g c w hd f hN hr hj hc hv
    have hi : i = n := by omega
    subst hi
    have r2 := hN.2.2.2.1
    have r1 := hN.2.2.1
    refine zd_go (ok_Na_timesSmall hG hl) [] 50 ?_
    conv => whnf
    refine ⟨_, hN.1, ?_⟩
    conv => whnf
    refine ⟨fun z => ?_, fun z => absurd (Int32.le_refl _) z⟩
    conv => whnf
    refine ⟨fun z => ?_, fun z => ?_⟩
    · have z' : c = 0 := by
        have := (lg_cmp_le (lN c) 0).mp z
        have := (pk_lLE (a := c) (b := 0) (by omega) (by omega)).mp this
        omega
      conv => whnf
      refine ⟨hq _ g i f hN ?_ (Or.inl rfl), trivial⟩
      rw [z'] at hv
      omega
    · have z' : c ≠ 0 := fun e => z (by rw [e]; decide)
      conv => whnf
      refine ⟨_, hN.1, ?_⟩
      conv => whnf
      refine ⟨⟨_, hN.1⟩, ⟨rfl, Nat.zero_le _, Nat.le_of_ble_eq_true rfl⟩, ?_⟩
      rw [nI_1]
      refine c_Na_claim hG hl hN (by omega) hr (fun h2 a1 a2 a3 => ?_) (fun h2 a1 a2 => ?_)
      rotate_left
      · have : 1 * 1000000000 ^ i ≤ c * 1000000000 ^ i := Nat.mul_le_mul_right _ (by omega)
        have := hth h2 a1 (by omega) (Fx.after f (a2.mono (fun _ z => z.elim))) ⟨g, i, hN.kept a2.1 (fun z => z) (fun z => z)⟩
        rw [f.1]
        exact this
      conv => whnf
      refine ⟨_, a3.1, ?_⟩
      conv => whnf
      refine ⟨_, a3.1, ?_⟩
      conv => whnf
      refine ⟨R, _, a3.2.1, by rw [nI_pred]; exact vp_in_nI (by omega) (by omega), ?_⟩
      rw [nI_pred, nI_clamp (by omega), lN_i]
      conv => whnf
      refine ⟨hq _ (zu g i c) (i + 1) ((f.tr0 a2).set2 (Or.inr rfl)) (a3.put (v := c) (by omega)) ?_ (Or.inr ⟨rfl, by rw [zu_s]; exact z'⟩), trivial⟩
      rw [zv_succ, zu_s, zv_zu_out (Nat.le_refl _)]
      exact hv
  | succ d ih =>
    intro i h1 g c w hd f hN hr hj hc hv
    have r2 := hN.2.2.2.1
    have r1 := hN.2.2.1
    have hgi := hN.2.2.2.2 i
    have hp : g i * m + c < 1000000000 * m := by
      have : (g i + 1) * m ≤ 1000000000 * m := Nat.mul_le_mul_right _ hgi
      rw [Nat.add_mul, Nat.one_mul] at this
      omega
    have hp2 : 1000000000 * m ≤ 1000000000 * 999999999 := Nat.mul_le_mul_left _ (by omega)
    refine zd_go (ok_Na_timesSmall hG hl) [5] 50 ?_
    conv => whnf
    refine ⟨_, hN.1, ?_⟩
    conv => whnf
    refine ⟨fun z => absurd z (nI_ge (by omega) (by omega)), fun z => ?_⟩
    conv => whnf
    refine ⟨_, hN.1, ?_⟩
    conv => whnf
    refine ⟨R, _, Or.inl hN.2.1, vp_in_nI (by omega) (by omega), ?_⟩
    rw [nI_clamp (by omega)]
    conv => whnf
    refine ⟨by decide, ?_⟩
    have e1 : (nI (g i)).toInt64 * (nI m).toInt64 + lN c = lN (g i * m + c) := by rw [nI_l (by omega), nI_l (by omega), lN_mul, lN_add]
    have e2 : lN (g i * m + c) / 1000000000 = lN ((g i * m + c) / 1000000000) := pk_lDiv (b := 1000000000) (by omega) (by omega) (by omega)
    rw [e1, e2]
    conv => whnf
    refine ⟨_, hN.1, ?_⟩
    conv => whnf
    refine ⟨R, _, hN.2.1, vp_in_nI (by omega) (by omega), ?_⟩
    have e3 : lN (g i * m + c) - lN ((g i * m + c) / 1000000000) * 1000000000 = lN ((g i * m + c) % 1000000000) := by
      rw [show (1000000000 : Int64) = lN 1000000000 from rfl, lN_mul, lN_sub (by omega)]
      congr 1
      omega
    rw [nI_clamp (by omega), e3, lN_i]
    conv => whnf
    refine ⟨?_, trivial⟩
    show zd_W l B m_Na_timesSmall 5 [some (.ref (zd_b0 B + k)), some (.int (nI m)), some (.long (lN ((g i * m + c) / 1000000000))), none, some (.int (nI i + 1)), some (.long (lN (g i * m + c))), none] [] _ Q
    rw [nI_1]
    have hc2 : (g i * m + c) / 1000000000 < m := by omega
    refine ih (i + 1) _ (zu g i ((g i * m + c) % 1000000000)) _ _ (by omega) (f.set2 (Or.inr rfl)) (hN.put (Nat.mod_lt _ (by decide))) hr (fun j hj2 => by rw [zu_n (by omega)]; exact hj j (by omega)) hc2 ?_
    rw [zv_succ, zu_s, zv_zu_out (Nat.le_refl _), zv_succ, ← hj i (Nat.le_refl _), Nat.add_mul, ← hv, Nat.pow_succ]
    have e4 := Nat.mod_add_div (g i * m + c) 1000000000
    generalize (g i * m + c) % 1000000000 = x at *
    generalize (g i * m + c) / 1000000000 = y at *
    generalize 1000000000 ^ i = p at *
    have e5 : (x + 1000000000 * y) * p = (g i * m + c) * p := by rw [e4]
    rw [Nat.add_mul, Nat.add_mul] at e5
    have e6 : y * (p * 1000000000) = 1000000000 * y * p := by rw [Nat.mul_comm p, ← Nat.mul_assoc, Nat.mul_comm y]
    have e7 : g i * p * m = g i * m * p := by rw [Nat.mul_assoc, Nat.mul_comm p, ← Nat.mul_assoc]
    omega
theorem c_Na_timesSmall2 (hG : zd_G B) (hl : l.stackTraces = false) {k R n m : Nat} {g : Nat → Nat} (hN : Nt B h k R g n) (hr : Rm h) (hm : m < 1000000000) (hm1 : 1 ≤ m) 
    (hq : ∀ h' g' n', Fg B h h' (NS B k) 0 → Nt B h' k R g' n' → zv 1000000000 g' n' = zv 1000000000 g n * m → (n' = n ∨ (n' = n + 1 ∧ g' n ≠ 0)) → Q (.inl none) h')
    (hth : ∀ h', R < n + 1 → 1000000000 ^ n ≤ zv 1000000000 g n * m → Fx B h h' (NS B k) 11 → (∃ g' n', Nt B h' k R g' n') → Q (.inr (zd_b0 B + h.1, 11)) h') : zd_M l B m_Na_timesSmall [.ref (zd_b0 B + k), .int (nI m)] h Q := by
  refine zd_go (ok_Na_timesSmall hG hl) [5] 50 ?_
  conv => whnf
  refine ⟨?_, trivial⟩
  exact w_Na_times2 hG hl hm hm1 hq hth n 0 h g 0 none (by omega) Fg.rf hN hr (fun j _ => rfl) (by omega) (by simp [zv])
end DA
end
section
/-! Divider: pure facts of the guess -/
/-- a factor makes the top limb at least half the base -/
theorem kn_top {t f : Nat} (h1 : 1 ≤ t) (h2 : t < 1000000000) (hf : f = 1000000000 / (t + 1)) : 500000000 ≤ t * f ∧ 1 ≤ f ∧ f ≤ 500000000 ∧ (t + 1) * f ≤ 1000000000 := by
  have e := Nat.div_add_mod 1000000000 (t + 1)
  have r := Nat.mod_lt 1000000000 (show 0 < t + 1 by omega)
  rw [← hf] at e
  have f1 : 1 ≤ f := by rw [hf]; exact (Nat.le_div_iff_mul_le (by omega)).mpr (by omega)
  have f2 : f ≤ 500000000 := by
    rw [hf]
    exact Nat.le_of_lt_succ ((Nat.div_lt_iff_lt_mul (by omega)).mpr (by omega))
  refine ⟨?_, f1, f2, by omega⟩
  generalize 1000000000 % (t + 1) = x at *
  rcases (show t = 1 ∨ 2 ≤ t by omega) with c | c
  · subst c
    have : f = 500000000 := by rw [hf]
    omega
  · rcases (show f = 1 ∨ 2 ≤ f by omega) with d | d
    · subst d
      omega
    · obtain ⟨a, rfl⟩ : ∃ a, f = a + 2 := ⟨f - 2, by omega⟩
      obtain ⟨b, rfl⟩ : ∃ b, t = b + 2 := ⟨t - 2, by omega⟩
      have q1 : (b + 2 + 1) * (a + 2) = b * a + 2 * b + 3 * a + 6 := by
        rw [Nat.mul_add, Nat.add_mul, Nat.add_mul]
        omega
      have q2 : (b + 2) * (a + 2) = b * a + 2 * b + 2 * a + 4 := by
        rw [Nat.mul_add, Nat.add_mul]
        omega
      rw [q1] at e
      rw [q2]
      omega
/-- what two limbs say of a quotient -/
def Kn (D W X Y : Nat) : Prop := ∃ s P D2 W2, 0 < s ∧ s * D = X * P + D2 ∧ D2 < P ∧ s * W = Y * P + W2 ∧ W2 < P
theorem Kn.le {D W X Y x : Nat} (k : Kn D W X Y) (h : x * D ≤ W) : x * X ≤ Y := by
  obtain ⟨s, P, D2, W2, hs, e1, l1, e2, l2⟩ := k
  have h1 : s * (x * D) ≤ s * W := Nat.mul_le_mul_left _ h
  rw [Nat.mul_left_comm, e1, e2, Nat.mul_add] at h1
  have h2 : x * (X * P) < (Y + 1) * P := by rw [Nat.add_mul, Nat.one_mul]; omega
  rw [← Nat.mul_assoc] at h2
  have := Nat.lt_of_mul_lt_mul_right h2
  omega
theorem Kn.ge {D W X Y x : Nat} (k : Kn D W X Y) (h : x * X ≤ Y) (hx : x ≤ 1000000000) (hX : 1000000000 ≤ X) : x * D ≤ W + D := by
  obtain ⟨s, P, D2, W2, hs, e1, l1, e2, l2⟩ := k
  have h1 : x * X * P ≤ Y * P := Nat.mul_le_mul_right _ h
  have h2 : x * D2 ≤ 1000000000 * P := Nat.mul_le_mul hx (Nat.le_of_lt l1)
  have h3 : 1000000000 * P ≤ X * P := Nat.mul_le_mul_right _ hX
  have h4 : s * (x * D) ≤ s * (W + D) := by
    rw [Nat.mul_left_comm, e1, Nat.mul_add s, e2, e1, Nat.mul_add, ← Nat.mul_assoc]
    omega
  exact Nat.le_of_mul_le_mul_left h4 hs
theorem kn_of1 {D W d1 head : Nat} (h1 : D = d1) (h2 : W = head) : Kn D W (d1 * 1000000000 + 0) (head * 1000000000 + 0) := ⟨1000000000, 1, 0, 0, by decide, by omega, by decide, by omega, by decide⟩
/-- the top two limbs of the divisor, the top three of what is divided -/
theorem kn_of2 {u v : Nat → Nat} {m at0 : Nat} (hu : ∀ i, u i < 1000000000) (hv : ∀ i, v i < 1000000000) :
    Kn (zv 1000000000 v (m + 2)) (zv 1000000000 (fun i => u (at0 + i)) (m + 3)) (v (m + 1) * 1000000000 + v m) ((u (at0 + (m + 2)) * 1000000000 + u (at0 + (m + 1))) * 1000000000 + u (at0 + m)) := by
  refine ⟨1, 1000000000 ^ m, zv 1000000000 v m, zv 1000000000 (fun i => u (at0 + i)) m, by decide, ?_, zv_lt (fun i _ => hv i), ?_, zv_lt (fun i _ => hu _)⟩
  · rw [Nat.one_mul, zv_succ, zv_succ, Nat.pow_succ, Nat.add_mul, Nat.mul_assoc, Nat.mul_comm (1000000000 ^ m)]
    omega
  · rw [Nat.one_mul, zv_succ, zv_succ, zv_succ, show m + 2 = m + 1 + 1 from rfl]
    simp only [Nat.pow_succ]
    generalize 1000000000 ^ m = P
    simp only [Nat.add_mul, Nat.mul_add, Nat.mul_assoc, Nat.mul_comm, Nat.mul_left_comm]
    omega
def Dvd (B : zd_B) (h : zd_H) (d : Nat) : Prop := zd_Ob B h (zd_b0 B + d) 2 [.ref (zd_b0 B + (d + 1))]
section DB
variable {l : Launch} {B : zd_B} {h : zd_H} {Q : zd_O → zd_H → Prop}
theorem w_Dv_guess99 (hG : zd_G B) (hl : l.stackTraces = false) {a0 a1 : Value} {a2 a3 : Int32} {q d1 sec th head : Nat} (hd1 : 500000000 ≤ d1) (hd2 : d1 < 1000000000) (hsec : sec < 1000000000) (hth : th < 1000000000) (hhead : head < d1 * 1000000000 + 1000000000) (hqB : q < 1000000000)
    (hqX : ∀ x, x ≤ q → x * (d1 * 1000000000 + sec) ≤ head * 1000000000 + th)
    (hq : ∀ x, x < 1000000000 → q ≤ x → x * (d1 * 1000000000 + sec) ≤ head * 1000000000 + th → Q (.inl (some (.long (lN x)))) h) :
    ∀ (d i guess left : Nat), i + d = 2 → left + guess * d1 = head → guess + i = head / d1 → q ≤ guess → zd_W l B m_Dv_guessLimb 99 [some a0, some a1, some (.int a2), some (.int a3), some (.long (lN d1)), none, some (.long (lN sec)), none, some (.long (lN th)), none, some (.long (lN head)), none, some (.long (lN guess)), none, some (.long (lN left)), none, some (.int (nI i))] [] h Q := by
  have hG1 : head / d1 ≤ 1000000001 := Nat.le_of_lt_succ ((Nat.div_lt_iff_lt_mul (by omega)).mpr (by omega))
  have key : ∀ guess left, left + guess * d1 = head → guess * sec ≤ left * 1000000000 + th → guess * (d1 * 1000000000 + sec) ≤ head * 1000000000 + th := by
    intro guess left e1 e2
    rw [Nat.mul_add, ← e1, Nat.add_mul, ← Nat.mul_assoc]
    omega
  have fin : ∀ guess left (i : Int32), guess < 1000000000 → q ≤ guess → guess * (d1 * 1000000000 + sec) ≤ head * 1000000000 + th → zd_W l B m_Dv_guessLimb 163 [some a0, some a1, some (.int a2), some (.int a3), some (.long (lN d1)), none, some (.long (lN sec)), none, some (.long (lN th)), none, some (.long (lN head)), none, some (.long (lN guess)), none, some (.long (lN left)), none, some (.int i)] [] h Q := by
    intro guess left i g1 g2 g3
    refine zd_go (ok_Dv_guessLimb hG hl) [] 60 ?_
    conv => whnf
    exact ⟨hq guess g1 g2 g3, trivial⟩
  intro d
  induction d with
  | zero =>
    intro i guess left hi e1 e2 e3
    have : i = 2 := by omega
    subst this
    refine zd_go (ok_Dv_guessLimb hG hl) [163] 60 ?_
    conv => whnf
    refine ⟨fun z => ?_, fun z => absurd (by decide) z⟩
    conv => whnf
    refine ⟨fin guess left _ (by omega) e3 (key guess left e1 ?_), trivial⟩
    have h1 : guess * sec ≤ 999999999 * 999999999 := Nat.mul_le_mul (by omega) (by omega)
    have h2 : head / d1 * d1 ≤ head := Nat.div_mul_le_self _ _
    rw [← e2, Nat.add_mul] at h2
    omega
  | succ d ih =>
    intro i guess left hi e1 e2 e3
    have gl : guess ≤ 1000000001 := by omega
    have hhb : head < 1000000000000000000 := by
      have : d1 * 1000000000 ≤ 999999999 * 1000000000 := Nat.mul_le_mul_right _ (by omega)
      omega
    have ll : left ≤ head := by omega
    refine zd_go (ok_Dv_guessLimb hG hl) [163, 99] 60 ?_
    conv => whnf
    refine ⟨fun z => absurd z (nI_ge (b := 2) (by omega) (by omega)), fun z => ?_⟩
    conv => whnf
    refine ⟨fun z => ?_, fun z => ?_⟩
    · have z' : 1000000000 ≤ left := (pk_lLE (a := 1000000000) (b := left) (by omega) (by omega)).mp ((lg_cmp_ge _ _).mp z)
      have gB : guess < 1000000000 := by
        have h1 : guess * d1 < 1000000000 * d1 := by omega
        exact Nat.lt_of_mul_lt_mul_right h1
      have h1 : guess * sec ≤ 999999999 * 999999999 := Nat.mul_le_mul (by omega) (by omega)
      conv => whnf
      exact ⟨fin guess left _ gB e3 (key guess left e1 (by omega)), trivial⟩
    · have z' : left < 1000000000 := by
        have : ¬ 1000000000 ≤ left := fun q => z ((lg_cmp_ge _ _).mpr ((pk_lLE (a := 1000000000) (b := left) (by omega) (by omega)).mpr q))
        omega
      conv => whnf
      refine ⟨fun z => ?_, fun z => ?_⟩
      · have z2 : 1000000000 ≤ guess := (pk_lLE (a := 1000000000) (b := guess) (by omega) (by omega)).mp ((lg_cmp_ge _ _).mp z)
        conv => whnf
        refine ⟨?_, trivial⟩
        obtain ⟨gg, rfl⟩ : ∃ gg, guess = gg + 1 := ⟨guess - 1, by omega⟩
        have := ih (i + 1) gg (left + d1) (by omega) (by rw [← e1, Nat.add_mul]; omega) (by omega) (by omega)
        rw [← nI_1 i, ← lN_add, show lN gg = lN (gg + 1) - 1 from (by rw [show (1 : Int64) = lN 1 from rfl, lN_sub (by omega)]; rfl)] at this
        exact this
      · have z2 : guess < 1000000000 := by
          have : ¬ 1000000000 ≤ guess := fun q => z ((lg_cmp_ge _ _).mpr ((pk_lLE (a := 1000000000) (b := guess) (by omega) (by omega)).mpr q))
          omega
        have h1 : guess * sec ≤ 999999999 * 999999999 := Nat.mul_le_mul (by omega) (by omega)
        have ea : lN guess * lN sec = lN (guess * sec) := lN_mul _ _
        have eb : lN left * 1000000000 + lN th = lN (left * 1000000000 + th) := by rw [show (1000000000 : Int64) = lN 1000000000 from rfl, lN_mul, lN_add]
        conv => whnf
        refine ⟨fun z => ?_, fun z => ?_⟩
        · rw [ea, eb] at z
          have z3 : left * 1000000000 + th < guess * sec := (pk_lLT (by omega) (by omega)).mp ((lg_cmp_gt _ _).mp z)
          have hqg : q < guess := by
            rcases Nat.lt_or_ge q guess with c | c
            · exact c
            · have := hqX guess c
              rw [Nat.mul_add, ← e1, Nat.add_mul, ← Nat.mul_assoc] at this
              omega
          conv => whnf
          refine ⟨?_, trivial⟩
          obtain ⟨gg, rfl⟩ : ∃ gg, guess = gg + 1 := ⟨guess - 1, by omega⟩
          have := ih (i + 1) gg (left + d1) (by omega) (by rw [← e1, Nat.add_mul]; omega) (by omega) (by omega)
          rw [← nI_1 i, ← lN_add, show lN gg = lN (gg + 1) - 1 from (by rw [show (1 : Int64) = lN 1 from rfl, lN_sub (by omega)]; rfl)] at this
          exact this
        · rw [ea, eb] at z
          have z3 : guess * sec ≤ left * 1000000000 + th := by
            have : ¬ left * 1000000000 + th < guess * sec := fun q => z ((lg_cmp_gt _ _).mpr ((pk_lLT (by omega) (by omega)).mpr q))
            omega
          conv => whnf
          exact ⟨fin guess left _ z2 e3 (key guess left e1 z3), trivial⟩
end DB
end
section
/-! Divider: the guess -/
theorem Kn.lt {D W X Y b : Nat} (k : Kn D W X Y) (h : W < b * D) : Y < b * (X + 1) := by
  obtain ⟨s, P, D2, W2, hs, e1, l1, e2, l2⟩ := k
  rcases Nat.lt_or_ge Y (b * (X + 1)) with c | c
  · exact c
  · exfalso
    have h1 : s * W < s * (b * D) := Nat.mul_lt_mul_of_pos_left h hs
    have h2 : b * (X + 1) * P ≤ Y * P := Nat.mul_le_mul_right _ c
    rw [Nat.mul_left_comm, e1, e2] at h1
    have h3 : b * (X * P + D2) ≤ b * ((X + 1) * P) := Nat.mul_le_mul_left _ (by rw [Nat.add_mul, Nat.one_mul]; omega)
    rw [← Nat.mul_assoc] at h3
    omega
theorem lN_0 : lN 0 = 0 := rfl
section DC
variable {l : Launch} {B : zd_B} {h : zd_H} {Q : zd_O → zd_H → Prop}
theorem c_Dv_guessLimb (hG : zd_G B) (hl : l.stackTraces = false) {d r R n m at0 : Nat} {u v : Nat → Nat} (hD : Dvd B h d) (hV : Nt B h (d + 1) 226 v m) (hU : Nt B h r R u n) (hm : 0 < m) (hat : at0 + m < R) (hd1 : 500000000 ≤ v (m - 1)) (hWD : zv 1000000000 (fun i => u (at0 + i)) (m + 1) < 1000000000 * zv 1000000000 v m)
    (hq : ∀ x, x < 1000000000 → zv 1000000000 (fun i => u (at0 + i)) (m + 1) / zv 1000000000 v m ≤ x → x ≤ zv 1000000000 (fun i => u (at0 + i)) (m + 1) / zv 1000000000 v m + 1 → Q (.inl (some (.long (lN x)))) h) :
    zd_M l B m_Dv_guessLimb [.ref (zd_b0 B + d), .ref (zd_b0 B + r + 1), .int (nI (at0 + m))] h Q := by
  have r1 := hV.2.2.1
  have r2 := hU.2.2.2.1
  have u0 := hU.2.2.2.2 (at0 + m)
  have u1 := hU.2.2.2.2 (at0 + m - 1)
  have v1 := hV.2.2.2.2 (m - 1)
  have hD0 : 0 < zv 1000000000 v m := by omega
  have b62 : ∀ sec th, sec < 1000000000 → th < 1000000000 → Kn (zv 1000000000 v m) (zv 1000000000 (fun i => u (at0 + i)) (m + 1)) (v (m - 1) * 1000000000 + sec) ((u (at0 + m) * 1000000000 + u (at0 + m - 1)) * 1000000000 + th) →
      zd_W l B m_Dv_guessLimb 62 [some (.ref (zd_b0 B + d)), some (.ref (zd_b0 B + r + 1)), some (.int (nI (at0 + m))), some (.int (nI m)), some (.long (lN (v (m - 1)))), none, some (.long (lN sec)), none, some (.long (lN th)), none, none, none, none, none, none, none, none] [] h Q := by
    intro sec th hs ht hk
    have hY := hk.lt hWD
    obtain ⟨head, hh⟩ : ∃ head, head = u (at0 + m) * 1000000000 + u (at0 + m - 1) := ⟨_, rfl⟩
    rw [← hh] at hk hY
    have hhb : head < 1000000000000000000 := by omega
    have e1 : (nI (u (at0 + m))).toInt64 * 1000000000 + (nI (u (at0 + m - 1))).toInt64 = lN head := by rw [nI_l (by omega), nI_l (by omega), show (1000000000 : Int64) = lN 1000000000 from rfl, lN_mul, lN_add, hh]
    have hdm := Nat.div_add_mod head (v (m - 1))
    have hdl : head / v (m - 1) ≤ head := Nat.div_le_self _ _
    have hml : head / v (m - 1) * v (m - 1) ≤ head := Nat.div_mul_le_self _ _
    have e2 : lN head / lN (v (m - 1)) = lN (head / v (m - 1)) := pk_lDiv (by omega) (by omega) (by omega)
    have e3 : lN head - lN (head / v (m - 1)) * lN (v (m - 1)) = lN (head % v (m - 1)) := by
      rw [lN_mul, lN_sub hml]
      congr 1
      rw [Nat.mul_comm]
      omega
    refine zd_go (ok_Dv_guessLimb hG hl) [99] 60 ?_
    conv => whnf
    refine ⟨_, _, Or.inl hU.2.1, vp_in_nI (by omega) (by omega), ?_⟩
    rw [nI_clamp (by omega)]
    conv => whnf
    refine ⟨_, _, Or.inl hU.2.1, by rw [show (1 : Int32) = nI 1 from rfl, pk_sub (by omega)]; exact vp_in_nI (by omega) (by omega), ?_⟩
    rw [show (1 : Int32) = nI 1 from rfl, pk_sub (by omega), nI_clamp (by omega)]
    conv => whnf
    refine ⟨fun q => by have := (pk_lEQ (a := v (m - 1)) (b := 0) (by omega) (by omega)).mp q; omega, ?_⟩
    rw [e1, e2]
    conv => whnf
    refine ⟨?_, trivial⟩
    have := w_Dv_guess99 (a0 := .ref (zd_b0 B + d)) (a1 := .ref (zd_b0 B + r + 1)) (a2 := nI (at0 + m)) (a3 := nI m) (h := h) (Q := Q) hG hl (q := zv 1000000000 (fun i => u (at0 + i)) (m + 1) / zv 1000000000 v m) (d1 := v (m - 1)) (sec := sec) (th := th) (head := head) hd1 v1 hs ht (by omega) ((Nat.div_lt_iff_lt_mul hD0).mpr hWD) (fun x hx => hk.le ((Nat.le_div_iff_mul_le hD0).mp hx))
      (fun x x1 x2 x3 => hq x x1 x2 ?_) 2 0 (head / v (m - 1)) (head % v (m - 1)) (by omega) (by rw [Nat.mul_comm]; omega) (by omega) ?_
    · rw [← e3, nI_0] at this
      exact this
    · have := hk.ge x3 (by omega) (by omega)
      rw [← Nat.add_div_right _ hD0]
      exact (Nat.le_div_iff_mul_le hD0).mpr this
    · refine (Nat.le_div_iff_mul_le (by omega)).mpr ?_
      have := hk.le (Nat.div_mul_le_self (zv 1000000000 (fun i => u (at0 + i)) (m + 1)) (zv 1000000000 v m))
      rw [Nat.mul_add, ← Nat.mul_assoc] at this
      omega
  rcases (show m = 1 ∨ 2 ≤ m by omega) with c | c
  · subst c
    have hk := kn_of1 (D := zv 1000000000 v 1) (W := zv 1000000000 (fun i => u (at0 + i)) 2) (d1 := v 0) (head := u (at0 + 1) * 1000000000 + u at0) (by simp [zv]) (by simp [zv]; omega)
    have := b62 0 0 (by omega) (by omega) hk
    refine zd_go (ok_Dv_guessLimb hG hl) [62] 60 ?_
    conv => whnf
    refine ⟨_, hD, ?_⟩
    conv => whnf
    refine ⟨_, hV.1, ?_⟩
    conv => whnf
    refine ⟨_, hD, ?_⟩
    conv => whnf
    refine ⟨_, hV.1, ?_⟩
    conv => whnf
    have n0 : nI 1 - 1 = nI 0 := nI_pred 0
    refine ⟨_, _, Or.inl hV.2.1, by rw [n0]; exact vp_in_nI (by omega) (by omega), ?_⟩
    rw [n0, nI_clamp (by omega)]
    conv => whnf
    have le1 : nI 1 ≤ 1 := by decide
    refine ⟨fun z => ?_, fun z => absurd le1 z⟩
    conv => whnf
    refine ⟨fun z => ?_, fun z => absurd le1 z⟩
    conv => whnf
    refine ⟨?_, trivial⟩
    rw [← nI_l (by omega), lN_0] at this
    exact this
  · obtain ⟨mm, rfl⟩ : ∃ mm, m = mm + 2 := ⟨m - 2, by omega⟩
    have hk := kn_of2 (m := mm) (at0 := at0) hU.2.2.2.2 hV.2.2.2.2
    have := b62 (v mm) (u (at0 + mm)) (hV.2.2.2.2 _) (hU.2.2.2.2 _) hk
    have n1 : nI (mm + 2) - 1 = nI (mm + 1) := nI_pred _
    have n2 : nI (mm + 2) - 2 = nI mm := by rw [show (2 : Int32) = nI 2 from rfl, pk_sub (by omega)]; rfl
    have n3 : nI (at0 + (mm + 2)) - 2 = nI (at0 + mm) := by rw [show (2 : Int32) = nI 2 from rfl, pk_sub (by omega)]; rfl
    have v3 := hV.2.2.2.2 mm
    have v4 := hV.2.2.2.2 (mm + 1)
    have u3 := hU.2.2.2.2 (at0 + mm)
    have b43 : zd_W l B m_Dv_guessLimb 43 [some (.ref (zd_b0 B + d)), some (.ref (zd_b0 B + r + 1)), some (.int (nI (at0 + (mm + 2)))), some (.int (nI (mm + 2))), some (.long (lN (v (mm + 1)))), none, none, none, none, none, none, none, none, none, none, none, none] [.long (lN (v mm))] h Q := by
      refine zd_go (ok_Dv_guessLimb hG hl) [62] 60 ?_
      conv => whnf
      refine ⟨fun z => absurd z (nI_ge (a := 1) (by omega) (by omega)), fun z => ?_⟩
      conv => whnf
      refine ⟨_, _, Or.inl hU.2.1, by rw [n3]; exact vp_in_nI (by omega) (by omega), ?_⟩
      rw [n3, nI_clamp (by omega)]
      conv => whnf
      refine ⟨?_, trivial⟩
      rw [nI_l (by omega)]
      exact this
    refine zd_go (ok_Dv_guessLimb hG hl) [43] 60 ?_
    conv => whnf
    refine ⟨_, hD, ?_⟩
    conv => whnf
    refine ⟨_, hV.1, ?_⟩
    conv => whnf
    refine ⟨_, hD, ?_⟩
    conv => whnf
    refine ⟨_, hV.1, ?_⟩
    conv => whnf
    refine ⟨_, _, Or.inl hV.2.1, by rw [n1]; exact vp_in_nI (by omega) (by omega), ?_⟩
    rw [n1, nI_clamp (by omega)]
    conv => whnf
    refine ⟨fun z => absurd z (nI_ge (a := 1) (by omega) (by omega)), fun z => ?_⟩
    conv => whnf
    refine ⟨_, hD, ?_⟩
    conv => whnf
    refine ⟨_, hV.1, ?_⟩
    conv => whnf
    refine ⟨_, _, Or.inl hV.2.1, by rw [n2]; exact vp_in_nI (by omega) (by omega), ?_⟩
    rw [n2, nI_clamp (by omega)]
    conv => whnf
    refine ⟨?_, trivial⟩
    rw [nI_l (by omega), nI_l (by omega)]
    exact b43
end DC
end
section
/-! Divider: subtractTimes, giveBack -/
theorem Dvd.kept {B : zd_B} {h h' : zd_H} {S : Nat → Prop} {d : Nat} (a : Dvd B h d) (f : Fg B h h' S 0) (hn : ¬ S (zd_b0 B + d)) : Dvd B h' d := f.ob a hn
theorem sub_step {q v c P Z Z0 V u y x c1 b : Nat} (e1 : q * v + c = c1 * 1000000000 + x) (e2 : y + x = u + b * 1000000000) (h : Z + q * V = Z0 + c * P) : Z + y * P + q * (V + v * P) = Z0 + u * P + (c1 + b) * (P * 1000000000) := by
  have e3 : (y + x) * P = (u + b * 1000000000) * P := by rw [e2]
  have e4 : (q * v + c) * P = (c1 * 1000000000 + x) * P := by rw [e1]
  have e5 : q * (V + v * P) = q * V + q * v * P := by rw [Nat.mul_add, Nat.mul_assoc]
  have e6 : (c1 + b) * (P * 1000000000) = c1 * 1000000000 * P + b * 1000000000 * P := by rw [Nat.add_mul, Nat.mul_comm P, ← Nat.mul_assoc, ← Nat.mul_assoc]
  rw [e5, e6]
  rw [Nat.add_mul, Nat.add_mul] at e3 e4
  omega
section DD
variable {l : Launch} {B : zd_B} {h : zd_H} {Q : zd_O → zd_H → Prop}
theorem w_Dv_sub24 (hG : zd_G B) (hl : l.stackTraces = false) {d r R n m at0 q : Nat} {u0 v : Nat → Nat} (hV : Nt B h (d + 1) 226 v m) (hrd : r + 1 < d ∨ d + 2 < r) (hat : at0 + m < R) (hqB : q < 1000000000)
    (hq : ∀ h' u' c, Fg B h h' (NS B r) 0 → Nt B h' r R u' n → (∀ j, (j < at0 ∨ at0 + m < j) → u' j = u0 j) → u' (at0 + m) = 0 → zv 1000000000 (fun i => u' (at0 + i)) m + q * zv 1000000000 v m = zv 1000000000 (fun i => u0 (at0 + i)) m + c * 1000000000 ^ m → Q (.inl (some (.int (if u0 (at0 + m) < c then 1 else 0)))) h') :
    ∀ (e i : Nat) (h1 : zd_H) (u : Nat → Nat) (c : Nat) (w10 w12 : Option Value), i + e = m → Fg B h h1 (NS B r) 0 → Nt B h1 r R u n → (∀ j, (j < at0 ∨ at0 + i ≤ j) → u j = u0 j) → c ≤ 1000000000 → zv 1000000000 (fun i => u (at0 + i)) i + q * zv 1000000000 v i = zv 1000000000 (fun i => u0 (at0 + i)) i + c * 1000000000 ^ i →
      zd_W l B m_Dv_subtractTimes 24 [some (.ref (zd_b0 B + d)), some (.ref (zd_b0 B + r + 1)), some (.int (nI at0)), some (.long (lN q)), none, some (.ref (zd_b0 B + (d + 1) + 1)), some (.int (nI m)), some (.long (lN c)), none, some (.int (nI i)), w10, none, w12] [] h1 Q := by
  intro e
  induction e with
  | zero =>
    intro i h1 u c w10 w12 he f hN hj hc hv
    have hi : i = m := by omega
    subst hi
    have r1 := hV.2.2.1
    have r2 := hN.2.2.2.1
    have ul := hN.2.2.2.2 (at0 + i)
    have fin : ∀ b : Nat, b = (if u (at0 + i) < c then 1 else 0) → zd_W l B m_Dv_subtractTimes 121 [some (.ref (zd_b0 B + d)), some (.ref (zd_b0 B + r + 1)), some (.int (nI at0)), some (.long (lN q)), none, some (.ref (zd_b0 B + (d + 1) + 1)), some (.int (nI i)), some (.long (lN c)), none, some (.int (nI i)), w10, none, w12] [.int (nI b)] h1 Q := by
      intro b hb
      have hb1 : b ≤ 1 := by rw [hb]; split <;> omega
      refine zd_go (ok_Dv_subtractTimes hG hl) [] 60 ?_
      conv => whnf
      refine ⟨_, _, hN.2.1, by rw [nI_add]; exact vp_in_nI (by omega) (by omega), ?_⟩
      rw [nI_add, nI_clamp (by omega), show (0 : Int32) = nI 0 from nI_0.symm]
      conv => whnf
      refine ⟨?_, ?_, trivial⟩
      · rcases (show b = 0 ∨ b = 1 by omega) with e | e <;> rw [e] <;> rfl
      · have := hq _ (zu u (at0 + i) 0) c (f.set2 (Or.inr rfl)) (hN.put (i := at0 + i) (v := 0) (by omega)) (fun j hj2 => by rw [zu_n (by omega)]; exact hj j (by omega)) zu_s (by
          rw [zv_congr (g := fun j => zu u (at0 + i) 0 (at0 + j)) (g' := fun j => u (at0 + j)) (fun j hj2 => zu_n (by omega))]
          exact hv)
        rw [← hj (at0 + i) (Or.inr (Nat.le_refl _)), ind_nI, ← hb] at this
        exact this
    refine zd_go (ok_Dv_subtractTimes hG hl) [121] 60 ?_
    conv => whnf
    refine ⟨fun z => ?_, fun z => absurd (Int32.le_refl _) z⟩
    conv => whnf
    refine ⟨_, _, Or.inl hN.2.1, by rw [nI_add]; exact vp_in_nI (by omega) (by omega), ?_⟩
    rw [nI_add, nI_clamp (by omega)]
    conv => whnf
    rw [nI_l (by omega)]
    refine ⟨fun z => ?_, fun z => ?_⟩
    · have z' : c ≤ u (at0 + i) := (pk_lLE (by omega) (by omega)).mp ((lg_cmp_ge _ _).mp z)
      conv => whnf
      have := fin 0 (by rw [if_neg (by omega)])
      rw [nI_0] at this
      exact ⟨this, trivial⟩
    · have z' : ¬ c ≤ u (at0 + i) := fun q => z ((lg_cmp_ge _ _).mpr ((pk_lLE (by omega) (by omega)).mpr q))
      conv => whnf
      have := fin 1 (by rw [if_pos (by omega)])
      exact ⟨this, trivial⟩
  | succ e ih =>
    intro i h1 u c w10 w12 he f hN hj hc hv
    have r1 := hV.2.2.1
    have r2 := hN.2.2.2.1
    have hV1 := hV.kept f (NS_n (B := B) (k := r) (j := d + 1) (by omega)).1 (NS_n (B := B) (k := r) (j := d + 1) (by omega)).2
    have vl := hV.2.2.2.2 i
    have ul := hN.2.2.2.2 (at0 + i)
    have hqv : q * v i ≤ 999999999 * 999999999 := Nat.mul_le_mul (by omega) (by omega)
    obtain ⟨part, hp⟩ : ∃ part, part = q * v i + c := ⟨_, rfl⟩
    have e1 : lN q * (nI (v i)).toInt64 + lN c = lN part := by rw [nI_l (by omega), lN_mul, lN_add, hp]
    have e2 : lN part / 1000000000 = lN (part / 1000000000) := pk_lDiv (b := 1000000000) (by omega) (by omega) (by omega)
    have e3 : lN part - lN (part / 1000000000) * 1000000000 = lN (part % 1000000000) := by
      rw [show (1000000000 : Int64) = lN 1000000000 from rfl, lN_mul, lN_sub (by omega)]
      congr 1
      omega
    have fin : ∀ (y b : Nat) , y < 1000000000 → b ≤ 1 → y + part % 1000000000 = u (at0 + i) + b * 1000000000 → zd_W l B m_Dv_subtractTimes 89 [some (.ref (zd_b0 B + d)), some (.ref (zd_b0 B + r + 1)), some (.int (nI at0)), some (.long (lN q)), none, some (.ref (zd_b0 B + (d + 1) + 1)), some (.int (nI m)), some (.long (lN (part / 1000000000 + b))), none, some (.int (nI i)), some (.long (lN part)), none, some (.int (nI y))] [] h1 Q := by
      intro y b hy hb hyb
      have := ih (i + 1) _ (zu u (at0 + i) y) (part / 1000000000 + b) (some (.long (lN part))) (some (.int (nI y))) (by omega) (f.set2 (Or.inr rfl)) (hN.put (i := at0 + i) hy) (fun j hj2 => by rw [zu_n (by omega)]; exact hj j (by omega)) (by omega) (by
        rw [zv_succ, zv_succ, zv_succ, zu_s, zv_congr (g := fun j => zu u (at0 + i) y (at0 + j)) (g' := fun j => u (at0 + j)) (fun j hj2 => zu_n (by omega)), Nat.pow_succ, ← hj (at0 + i) (Or.inr (Nat.le_refl _))]
        exact sub_step (c := c) (x := part % 1000000000) (by rw [← hp]; omega) hyb hv)
      rw [← nI_1 i] at this
      refine zd_go (ok_Dv_subtractTimes hG hl) [24] 60 ?_
      conv => whnf
      refine ⟨_, _, hN.2.1, by rw [nI_add]; exact vp_in_nI (by omega) (by omega), ?_⟩
      rw [nI_add, nI_clamp (by omega)]
      conv => whnf
      exact ⟨this, trivial⟩
    refine zd_go (ok_Dv_subtractTimes hG hl) [24, 89] 60 ?_
    conv => whnf
    refine ⟨fun z => absurd z (nI_ge (by omega) (by omega)), fun z => ?_⟩
    conv => whnf
    refine ⟨_, _, Or.inl hV1.2.1, vp_in_nI (by omega) (by omega), ?_⟩
    rw [nI_clamp (by omega)]
    conv => whnf
    refine ⟨by decide, ?_⟩
    rw [e1, e2]
    conv => whnf
    refine ⟨_, _, Or.inl hN.2.1, by rw [nI_add]; exact vp_in_nI (by omega) (by omega), ?_⟩
    rw [nI_add, nI_clamp (by omega)]
    conv => whnf
    rw [e3, lN_i]
    have xl : part % 1000000000 < 1000000000 := Nat.mod_lt _ (by omega)
    have ei : nI (u (at0 + i)) - nI (part % 1000000000) = iI ((u (at0 + i) : Int) - (part % 1000000000 : Nat)) := by rw [iI_nI, iI_nI, iI_sub]
    have rr : iR ((u (at0 + i) : Int) - (part % 1000000000 : Nat)) := ⟨by omega, by omega⟩
    rw [ei]
    refine ⟨fun z => ?_, fun z => ?_⟩
    · have z' : (0 : Int) ≤ (u (at0 + i) : Int) - (part % 1000000000 : Nat) := (iI_le ⟨by omega, by omega⟩ rr).mp z
      have := fin (u (at0 + i) - part % 1000000000) 0 (by omega) (by omega) (by omega)
      rw [Nat.add_zero, show nI (u (at0 + i) - part % 1000000000) = iI ((u (at0 + i) : Int) - (part % 1000000000 : Nat)) by rw [iI_nI]; congr 1; omega] at this
      conv => whnf
      exact ⟨this, trivial⟩
    · have z' : ¬ (0 : Int) ≤ (u (at0 + i) : Int) - (part % 1000000000 : Nat) := fun q => z ((iI_le ⟨by omega, by omega⟩ rr).mpr q)
      have := fin (u (at0 + i) + 1000000000 - part % 1000000000) 1 (by omega) (by omega) (by omega)
      rw [← lN_1, show nI (u (at0 + i) + 1000000000 - part % 1000000000) = iI ((u (at0 + i) : Int) - (part % 1000000000 : Nat)) + 1000000000 by rw [iI_nI, show (1000000000 : Int32) = iI 1000000000 from rfl, iI_add]; congr 1; omega] at this
      conv => whnf
      exact ⟨this, trivial⟩
theorem c_Dv_subtractTimes (hG : zd_G B) (hl : l.stackTraces = false) {d r R n m at0 q : Nat} {u v : Nat → Nat} (hD : Dvd B h d) (hV : Nt B h (d + 1) 226 v m) (hU : Nt B h r R u n) (hrd : r + 1 < d ∨ d + 2 < r) (hat : at0 + m < R) (hqB : q < 1000000000)
    (hq : ∀ h' u' c, Fg B h h' (NS B r) 0 → Nt B h' r R u' n → (∀ j, (j < at0 ∨ at0 + m < j) → u' j = u j) → u' (at0 + m) = 0 → zv 1000000000 (fun i => u' (at0 + i)) m + q * zv 1000000000 v m = zv 1000000000 (fun i => u (at0 + i)) m + c * 1000000000 ^ m → Q (.inl (some (.int (if u (at0 + m) < c then 1 else 0)))) h') :
    zd_M l B m_Dv_subtractTimes [.ref (zd_b0 B + d), .ref (zd_b0 B + r + 1), .int (nI at0), .long (lN q)] h Q := by
  have := w_Dv_sub24 hG hl hV hrd hat hqB hq m 0 h u 0 none none (by omega) Fg.rf hU (fun _ _ => rfl) (by omega) (by simp [zv])
  rw [nI_0, lN_0] at this
  refine zd_go (ok_Dv_subtractTimes hG hl) [24] 60 ?_
  conv => whnf
  refine ⟨_, hD, ?_⟩
  conv => whnf
  refine ⟨_, hV.1, ?_⟩
  conv => whnf
  refine ⟨_, hD, ?_⟩
  conv => whnf
  refine ⟨_, hV.1, ?_⟩
  conv => whnf
  exact ⟨this, trivial⟩
theorem w_Dv_give5 (hG : zd_G B) (hl : l.stackTraces = false) {d r R n m at0 : Nat} {u0 v : Nat → Nat} (hD : Dvd B h d) (hV : Nt B h (d + 1) 226 v m) (hrd : r + 1 < d ∨ d + 2 < r) (hat : at0 + m < R)
    (hq : ∀ h' u' c, Fg B h h' (NS B r) 0 → Nt B h' r R u' n → (∀ j, (j < at0 ∨ at0 + m ≤ j) → u' j = u0 j) → c ≤ 1 → zv 1000000000 (fun i => u' (at0 + i)) m + c * 1000000000 ^ m = zv 1000000000 (fun i => u0 (at0 + i)) m + zv 1000000000 v m → Q (.inl none) h') :
    ∀ (e i : Nat) (h1 : zd_H) (u : Nat → Nat) (c : Nat) (w5 : Option Value), i + e = m → Fg B h h1 (NS B r) 0 → Nt B h1 r R u n → (∀ j, (j < at0 ∨ at0 + i ≤ j) → u j = u0 j) → c ≤ 1 → zv 1000000000 (fun i => u (at0 + i)) i + c * 1000000000 ^ i = zv 1000000000 (fun i => u0 (at0 + i)) i + zv 1000000000 v i →
      zd_W l B m_Dv_giveBack 5 [some (.ref (zd_b0 B + d)), some (.ref (zd_b0 B + r + 1)), some (.int (nI at0)), some (.int (nI c)), some (.int (nI i)), w5] [] h1 Q := by
  intro e
  induction e with
  | zero =>
    intro i h1 u c w5 he f hN hj hc hv
    have hi : i = m := by omega
    subst hi
    have hV1 := hV.kept f (NS_n (B := B) (k := r) (j := d + 1) (by omega)).1 (NS_n (B := B) (k := r) (j := d + 1) (by omega)).2
    have hD1 := hD.kept f (NS_o (by omega))
    refine zd_go (ok_Dv_giveBack hG hl) [] 60 ?_
    conv => whnf
    refine ⟨_, hD1, ?_⟩
    conv => whnf
    refine ⟨_, hV1.1, ?_⟩
    conv => whnf
    refine ⟨fun z => ?_, fun z => absurd (Int32.le_refl _) z⟩
    conv => whnf
    exact ⟨hq h1 u c f hN hj hc hv, trivial⟩
  | succ e ih =>
    intro i h1 u c w5 he f hN hj hc hv
    have r1 := hV.2.2.1
    have r2 := hN.2.2.2.1
    have hV1 := hV.kept f (NS_n (B := B) (k := r) (j := d + 1) (by omega)).1 (NS_n (B := B) (k := r) (j := d + 1) (by omega)).2
    have hD1 := hD.kept f (NS_o (by omega))
    have vl := hV.2.2.2.2 i
    have ul := hN.2.2.2.2 (at0 + i)
    obtain ⟨part, hp⟩ : ∃ part : Int, part = (u (at0 + i) : Int) - 1000000000 + v i + c := ⟨_, rfl⟩
    have ep : nI (u (at0 + i)) - 1000000000 + nI (v i) + nI c = iI part := by
      rw [iI_nI, iI_nI, iI_nI, show (1000000000 : Int32) = iI 1000000000 from rfl, iI_sub, iI_add, iI_add, hp]
    have pR : iR part := ⟨by omega, by omega⟩
    have fin : ∀ (y b : Nat), y < 1000000000 → b ≤ 1 → y + b * 1000000000 = u (at0 + i) + v i + c → zd_W l B m_Dv_giveBack 72 [some (.ref (zd_b0 B + d)), some (.ref (zd_b0 B + r + 1)), some (.int (nI at0)), some (.int (nI b)), some (.int (nI i)), some (.int (iI part))] [.int (nI y), .int (nI (at0 + i)), .ref (zd_b0 B + r + 1)] h1 Q := by
      intro y b hy hb hyb
      have := ih (i + 1) _ (zu u (at0 + i) y) b (some (.int (iI part))) (by omega) (f.set2 (Or.inr rfl)) (hN.put (i := at0 + i) hy) (fun j hj2 => by rw [zu_n (by omega)]; exact hj j (by omega)) hb (by
        rw [zv_succ, zv_succ, zv_succ, zu_s, zv_congr (g := fun j => zu u (at0 + i) y (at0 + j)) (g' := fun j => u (at0 + j)) (fun j hj2 => zu_n (by omega)), Nat.pow_succ, ← hj (at0 + i) (Or.inr (Nat.le_refl _))]
        have e3 : (y + b * 1000000000) * 1000000000 ^ i = (u (at0 + i) + v i + c) * 1000000000 ^ i := by rw [hyb]
        rw [Nat.add_mul, Nat.add_mul, Nat.add_mul, Nat.mul_assoc, Nat.mul_comm 1000000000] at e3
        omega)
      rw [← nI_1 i] at this
      refine zd_go (ok_Dv_giveBack hG hl) [5] 60 ?_
      conv => whnf
      refine ⟨_, _, hN.2.1, vp_in_nI (by omega) (by omega), ?_⟩
      rw [nI_clamp (by omega)]
      conv => whnf
      exact ⟨this, trivial⟩
    refine zd_go (ok_Dv_giveBack hG hl) [5, 72] 60 ?_
    conv => whnf
    refine ⟨_, hD1, ?_⟩
    conv => whnf
    refine ⟨_, hV1.1, ?_⟩
    conv => whnf
    refine ⟨fun z => absurd z (nI_ge (by omega) (by omega)), fun z => ?_⟩
    conv => whnf
    refine ⟨_, _, Or.inl hN.2.1, by rw [nI_add]; exact vp_in_nI (by omega) (by omega), ?_⟩
    rw [nI_add, nI_clamp (by omega)]
    conv => whnf
    refine ⟨_, hD1, ?_⟩
    conv => whnf
    refine ⟨_, hV1.1, ?_⟩
    conv => whnf
    refine ⟨_, _, Or.inl hV1.2.1, vp_in_nI (by omega) (by omega), ?_⟩
    rw [nI_clamp (by omega)]
    conv => whnf
    rw [ep]
    refine ⟨fun z => ?_, fun z => ?_⟩
    · have z' : part < 0 := (iI_lt pR ⟨by omega, by omega⟩).mp z
      have := fin (u (at0 + i) + v i + c) 0 (by omega) (by omega) (by omega)
      rw [nI_0, show nI (u (at0 + i) + v i + c) = iI part + 1000000000 by rw [iI_nI, show (1000000000 : Int32) = iI 1000000000 from rfl, iI_add]; congr 1; omega, ← nI_add] at this
      conv => whnf
      refine ⟨fun z2 => ?_, fun z2 => absurd z z2⟩
      conv => whnf
      exact ⟨this, trivial⟩
    · have z' : ¬ part < 0 := fun q => z ((iI_lt pR ⟨by omega, by omega⟩).mpr q)
      have := fin (u (at0 + i) + v i + c - 1000000000) 1 (by omega) (by omega) (by omega)
      rw [show nI (u (at0 + i) + v i + c - 1000000000) = iI part by rw [iI_nI]; congr 1; omega, ← nI_add] at this
      conv => whnf
      refine ⟨fun z2 => absurd z2 z, fun z2 => ?_⟩
      conv => whnf
      exact ⟨this, trivial⟩
theorem c_Dv_giveBack (hG : zd_G B) (hl : l.stackTraces = false) {d r R n m at0 : Nat} {u v : Nat → Nat} (hD : Dvd B h d) (hV : Nt B h (d + 1) 226 v m) (hU : Nt B h r R u n) (hrd : r + 1 < d ∨ d + 2 < r) (hat : at0 + m < R)
    (hq : ∀ h' u' c, Fg B h h' (NS B r) 0 → Nt B h' r R u' n → (∀ j, (j < at0 ∨ at0 + m ≤ j) → u' j = u j) → c ≤ 1 → zv 1000000000 (fun i => u' (at0 + i)) m + c * 1000000000 ^ m = zv 1000000000 (fun i => u (at0 + i)) m + zv 1000000000 v m → Q (.inl none) h') :
    zd_M l B m_Dv_giveBack [.ref (zd_b0 B + d), .ref (zd_b0 B + r + 1), .int (nI at0)] h Q := by
  have := w_Dv_give5 hG hl hD hV hrd hat hq m 0 h u 0 none (by omega) Fg.rf hU (fun _ _ => rfl) (by omega) (by simp [zv])
  rw [nI_0] at this
  refine zd_go (ok_Dv_giveBack hG hl) [5] 60 ?_
  conv => whnf
  exact ⟨this, trivial⟩
end DD
end
section
/-! Divider: takeLimb -/
theorem take_more {W D U t c x y M : Nat} (hW : W = U + t * M) (hy : y < M) (hD : D < M) (hD0 : 0 < D) (he : y + x * D = U + c * M) (htc : t < c) (hx : x ≤ W / D + 1) : x = W / D + 1 ∧ y + D = W % D + M := by
  have e1 := Nat.div_add_mod W D
  have r1 := Nat.mod_lt W hD0
  have h1 : (t + 1) * M ≤ c * M := Nat.mul_le_mul_right _ htc
  rw [Nat.add_mul, Nat.one_mul] at h1
  have hx2 : ¬ x ≤ W / D := fun q => by
    have : x * D ≤ W / D * D := Nat.mul_le_mul_right _ q
    rw [Nat.mul_comm (W / D)] at this
    omega
  have ex : x = W / D + 1 := by omega
  refine ⟨ex, ?_⟩
  rw [ex, Nat.add_mul, Nat.one_mul, Nat.mul_comm (W / D)] at he
  have h2 : ¬ t + 1 < c := fun q => by
    have : (t + 2) * M ≤ c * M := Nat.mul_le_mul_right _ q
    rw [Nat.add_mul] at this
    omega
  have ec : c = t + 1 := by omega
  rw [ec, Nat.add_mul, Nat.one_mul] at he
  omega
theorem take_even {W D U t c x y M : Nat} (hW : W = U + t * M) (hD : D < M) (hD0 : 0 < D) (he : y + x * D = U + c * M) (htc : c ≤ t) (hx : W / D ≤ x) : x = W / D ∧ y = W % D := by
  have e1 := Nat.div_add_mod W D
  have r1 := Nat.mod_lt W hD0
  have h1 : c * M ≤ t * M := Nat.mul_le_mul_right _ htc
  have hx2 : x ≤ W / D := (Nat.le_div_iff_mul_le hD0).mpr (by omega)
  have ex : x = W / D := by omega
  refine ⟨ex, ?_⟩
  rw [ex, Nat.mul_comm (W / D)] at he
  have h2 : ¬ c < t := fun q => by
    have : (c + 1) * M ≤ t * M := Nat.mul_le_mul_right _ q
    rw [Nat.add_mul, Nat.one_mul] at this
    omega
  have ec : c = t := by omega
  rw [ec] at he
  omega
section DE
variable {l : Launch} {B : zd_B} {h : zd_H} {Q : zd_O → zd_H → Prop}
theorem c_Dv_takeLimb (hG : zd_G B) (hl : l.stackTraces = false) {d r R n m at0 : Nat} {u v : Nat → Nat} (hD : Dvd B h d) (hV : Nt B h (d + 1) 226 v m) (hU : Nt B h r R u n) (hrd : r + 1 < d ∨ d + 2 < r) (hm : 0 < m) (hat : at0 + m < R) (hd1 : 500000000 ≤ v (m - 1)) (hWD : zv 1000000000 (fun i => u (at0 + i)) (m + 1) < 1000000000 * zv 1000000000 v m)
    (hq : ∀ h' u', Fg B h h' (NS B r) 0 → Nt B h' r R u' n → (∀ j, (j < at0 ∨ at0 + m < j) → u' j = u j) → u' (at0 + m) = 0 → zv 1000000000 (fun i => u' (at0 + i)) m = zv 1000000000 (fun i => u (at0 + i)) (m + 1) % zv 1000000000 v m → Q (.inl (some (.int (nI (zv 1000000000 (fun i => u (at0 + i)) (m + 1) / zv 1000000000 v m))))) h') :
    zd_M l B m_Dv_takeLimb [.ref (zd_b0 B + d), .ref (zd_b0 B + r + 1), .int (nI at0)] h Q := by
  have r1 := hV.2.2.1
  have r2 := hU.2.2.2.1
  have hD0 : 0 < zv 1000000000 v m := by omega
  have hDM : zv 1000000000 v m < 1000000000 ^ m := zv_lt (fun i _ => hV.2.2.2.2 i)
  have hWs : zv 1000000000 (fun i => u (at0 + i)) (m + 1) = zv 1000000000 (fun i => u (at0 + i)) m + u (at0 + m) * 1000000000 ^ m := rfl
  refine zd_go (ok_Dv_takeLimb hG hl) [] 60 ?_
  conv => whnf
  refine ⟨_, hD, ?_⟩
  conv => whnf
  refine ⟨_, hV.1, ?_⟩
  conv => whnf
  refine ⟨⟨_, hD⟩, ⟨rfl, Nat.le_of_ble_eq_true rfl, Nat.le_of_ble_eq_true rfl⟩, ?_⟩
  rw [nI_add]
  refine c_Dv_guessLimb hG hl hD hV hU hm hat hd1 hWD (fun x x1 x2 x3 => ?_)
  conv => whnf
  refine ⟨fun z => ?_, fun z => ?_⟩
  · have z' : x = 0 := by
      have := (pk_lLE (a := x) (b := 0) (by omega) (by omega)).mp ((lg_cmp_le _ _).mp z)
      omega
    have q0 : zv 1000000000 (fun i => u (at0 + i)) (m + 1) / zv 1000000000 v m = 0 := Nat.eq_zero_of_le_zero (by rw [z'] at x2; exact x2)
    have hlt : zv 1000000000 (fun i => u (at0 + i)) (m + 1) < zv 1000000000 v m := by
      have := Nat.div_add_mod (zv 1000000000 (fun i => u (at0 + i)) (m + 1)) (zv 1000000000 v m)
      rw [q0, Nat.mul_zero, Nat.zero_add] at this
      rw [← this]
      exact Nat.mod_lt _ hD0
    have ut : u (at0 + m) = 0 := by
      rcases Nat.eq_zero_or_pos (u (at0 + m)) with c | c
      · exact c
      · have : 1 * 1000000000 ^ m ≤ u (at0 + m) * 1000000000 ^ m := Nat.mul_le_mul_right _ c
        omega
    have := hq h u Fg.rf hU (fun _ _ => rfl) ut (by rw [Nat.mod_eq_of_lt hlt, hWs, ut]; omega)
    rw [q0] at this
    rw [z']
    conv => whnf
    refine ⟨rfl, ?_, trivial⟩
    rw [lN_i]
    exact this
  · have z' : 0 < x := by
      rcases Nat.eq_zero_or_pos x with c | c
      · exact absurd (by rw [c]; decide) z
      · exact c
    conv => whnf
    refine ⟨⟨_, hD⟩, ⟨rfl, Nat.le_of_ble_eq_true rfl, Nat.le_of_ble_eq_true rfl⟩, ?_⟩
    refine c_Dv_subtractTimes hG hl hD hV hU hrd hat x1 (fun h1 u1 c a1 a2 a3 a4 a5 => ?_)
    have hy : zv 1000000000 (fun i => u1 (at0 + i)) m < 1000000000 ^ m := zv_lt (fun i _ => a2.2.2.2.2 _)
    by_cases hc : u (at0 + m) < c
    · obtain ⟨t1, t2⟩ := take_more hWs hy hDM hD0 a5 hc x3
      rw [if_pos hc]
      conv => whnf
      refine ⟨fun z2 => absurd z2 (by decide), fun z2 => ?_⟩
      conv => whnf
      have hD1 := hD.kept a1 (NS_o (by omega))
      have hV1 := hV.kept a1 (NS_n (B := B) (k := r) (j := d + 1) (by omega)).1 (NS_n (B := B) (k := r) (j := d + 1) (by omega)).2
      refine ⟨⟨_, hD1⟩, ⟨rfl, Nat.le_of_ble_eq_true rfl, Nat.le_of_ble_eq_true rfl⟩, ?_⟩
      refine c_Dv_giveBack hG hl hD1 hV1 a2 hrd hat (fun h2 u2 c2 b1 b2 b3 b4 b5 => ?_)
      have hy2 : zv 1000000000 (fun i => u2 (at0 + i)) m < 1000000000 ^ m := zv_lt (fun i _ => b2.2.2.2.2 _)
      have e2 : zv 1000000000 (fun i => u2 (at0 + i)) m = zv 1000000000 (fun i => u (at0 + i)) (m + 1) % zv 1000000000 v m := by
        rcases (show c2 = 0 ∨ c2 = 1 by omega) with q | q
        · rw [q, Nat.zero_mul, Nat.add_zero, t2] at b5
          omega
        · rw [q, Nat.one_mul, t2] at b5
          omega
      conv => whnf
      refine ⟨rfl, ?_, trivial⟩
      have := hq h2 u2 (a1.tr0 b1) b2 (fun j hj => (b3 j (by omega)).trans (a3 j hj)) ((b3 _ (Or.inr (Nat.le_refl _))).trans a4) e2
      rw [show (1 : Int64) = lN 1 from rfl, lN_sub (by omega), lN_i, show x - 1 = zv 1000000000 (fun i => u (at0 + i)) (m + 1) / zv 1000000000 v m by rw [t1]; exact Nat.add_sub_cancel _ _]
      exact this
    · obtain ⟨t1, t2⟩ := take_even hWs hDM hD0 a5 (by omega) x2
      rw [if_neg hc]
      conv => whnf
      refine ⟨fun z2 => ?_, fun z2 => absurd rfl z2⟩
      conv => whnf
      refine ⟨rfl, ?_, trivial⟩
      have := hq h1 u1 a1 a2 a3 a4 t2
      rw [lN_i, t1]
      exact this
end DE
end
section
/-! Divider: split -/
/-- the cells that split writes -/
def DS (B : zd_B) (r s d : Nat) : Nat → Prop := fun a => NS B r a ∨ NS B s a ∨ NS B (d + 1) a
section DF
variable {l : Launch} {B : zd_B} {h : zd_H} {Q : zd_O → zd_H → Prop}
theorem w_Dv_split134 (hG : zd_G B) (hl : l.stackTraces = false) {d r b s R Rs L m N f : Nat} {u0 v : Nat → Nat} (hrd : r + 1 < d ∨ d + 2 < r) (hsd : s + 1 < d ∨ d + 2 < s) (hrs : r + 1 < s ∨ s + 1 < r) (hm : 0 < m) (hd1 : 500000000 ≤ v (m - 1)) (hu0 : ∀ i, u0 i < 1000000000) (hNm : N + m = L + 1) (hLR : L + 1 ≤ R) (hNR : N ≤ Rs) (hm2 : m ≤ 226) (hf : f < 1000000000) (hf1 : 1 ≤ f) (hR2 : R < 1000) (hv : ∀ i, v i < 1000000000)
    (hq : ∀ h', Fg B h h' (DS B r s d) 0 → Nv B h' r R ((zv 1000000000 u0 (L + 1) % zv 1000000000 v m) / f) → Nv B h' s Rs (zv 1000000000 u0 (L + 1) / zv 1000000000 v m) → Dvd B h' d → Nt B h' (d + 1) 226 v m → Q (.inl none) h') :
    ∀ (t : Nat) (h1 : zd_H) (u g : Nat → Nat), t ≤ N → Fg B h h1 (DS B r s d) 0 → Dvd B h1 d → Nt B h1 (d + 1) 226 v m → Nt B h1 r R u (L + 1) → Nt B h1 s Rs g N → (∀ j, j < t → u j = u0 j) → (∀ j, t + m ≤ j → j < L + 1 → u j = 0) → zv 1000000000 (fun i => u (t + i)) m < zv 1000000000 v m → zh 1000000000 u0 (L + 1) t = zh 1000000000 g N t * zv 1000000000 v m + zv 1000000000 (fun i => u (t + i)) m →
      zd_W l B m_Dv_split 134 [some (.ref (zd_b0 B + d)), some (.ref (zd_b0 B + r)), some (.ref (zd_b0 B + b)), some (.ref (zd_b0 B + s)), some (.int (nI f)), some (.int (nI L)), some (.int (nI t - 1))] [] h1 Q := by
  intro t
  induction t with
  | zero =>
    intro h1 u g ht fr hD hV hU hS hlow hhigh hrem hinv
    have hD0 : 0 < zv 1000000000 v m := by omega
    refine zd_go (ok_Dv_split hG hl) [] 60 ?_
    conv => whnf
    refine ⟨fun z => ?_, fun z => absurd (by decide) z⟩
    conv => whnf
    refine ⟨⟨_, hS.1⟩, ⟨rfl, Nat.le_of_ble_eq_true rfl, Nat.le_of_ble_eq_true rfl⟩, ?_⟩
    refine c_Na_trim hG hl hS (fun n1 h2 a1 a2 a3 a4 a5 => ?_)
    have hU2 := hU.kept a4 (NS_n (B := B) (k := s) (j := r) (by omega)).1 (NS_n (B := B) (k := s) (j := r) (by omega)).2
    conv => whnf
    refine ⟨⟨_, hU2.1⟩, ⟨rfl, Nat.le_of_ble_eq_true rfl, Nat.le_of_ble_eq_true rfl⟩, ?_⟩
    refine c_Na_trim hG hl hU2 (fun n2 h3 b1 b2 b3 b4 b5 => ?_)
    conv => whnf
    refine ⟨⟨_, b5.1⟩, ⟨rfl, Nat.le_of_ble_eq_true rfl, Nat.le_of_ble_eq_true rfl⟩, ?_⟩
    refine c_Na_overSmall hG hl b5 hf hf1 b3 (fun h4 u4 n4 c1 c2 c3 c4 c5 => ?_)
    conv => whnf
    rw [zh_0, zh_0] at hinv
    have ez : zv 1000000000 (fun i => u (0 + i)) m = zv 1000000000 u m := zv_congr (fun i _ => by rw [Nat.zero_add])
    rw [ez] at hinv hrem
    have ev : zv 1000000000 u (L + 1) = zv 1000000000 u m := by
      rw [show L + 1 = m + (L + 1 - m) by omega, zv_split, zv_zero (g := fun i => u (m + i)) (fun i hi => hhigh _ (by omega) (by omega)), Nat.mul_zero, Nat.add_zero]
    have eq : zv 1000000000 u0 (L + 1) / zv 1000000000 v m = zv 1000000000 g N := by
      rw [hinv, Nat.mul_comm, Nat.mul_add_div hD0, Nat.div_eq_of_lt hrem, Nat.add_zero]
    have er : zv 1000000000 u0 (L + 1) % zv 1000000000 v m = zv 1000000000 u m := by
      rw [hinv, Nat.mul_comm, Nat.mul_add_mod, Nat.mod_eq_of_lt hrem]
    have s1 : ∀ q, NS B s q → DS B r s d q := fun q z => Or.inr (Or.inl z)
    have s2 : ∀ q, NS B r q → DS B r s d q := fun q z => Or.inl z
    have nrs := NS_n (B := B) (k := r) (j := s) (by omega)
    have nrd := NS_n (B := B) (k := r) (j := d + 1) (by omega)
    have nsd := NS_n (B := B) (k := s) (j := d + 1) (by omega)
    refine ⟨hq h4 (((fr.tr0 (a4.mono s1)).tr0 (b4.mono s2)).tr0 (c1.mono s2)) ⟨u4, n4, c2, c3, by rw [c4, b2, ev, er]⟩ ?_ ?_ ?_, trivial⟩
    · exact ⟨g, n1, (a5.kept b4 nrs.1 nrs.2).kept c1 nrs.1 nrs.2, a3, by rw [a2, eq]⟩
    · exact ((hD.kept a4 (NS_o (by omega))).kept b4 (NS_o (by omega))).kept c1 (NS_o (by omega))
    · exact ((hV.kept a4 nsd.1 nsd.2).kept b4 nrd.1 nrd.2).kept c1 nrd.1 nrd.2
  | succ t ih =>
    intro h1 u g ht fr hD hV hU hS hlow hhigh hrem hinv
    have hD0 : 0 < zv 1000000000 v m := by omega
    have ul := hU.2.2.2.2 t
    have eW : zv 1000000000 (fun i => u (t + i)) (m + 1) = u t + 1000000000 * zv 1000000000 (fun i => u (t + 1 + i)) m := by
      rw [show m + 1 = 1 + m by omega, zv_split, Nat.pow_one]
      congr 1
      · simp [zv]
      · congr 1
        exact zv_congr (fun i _ => by rw [Nat.add_assoc])
    have hWD : zv 1000000000 (fun i => u (t + i)) (m + 1) < 1000000000 * zv 1000000000 v m := by rw [eW]; omega
    rw [nI_pred]
    refine zd_go (ok_Dv_split hG hl) [134] 60 ?_
    conv => whnf
    refine ⟨fun z => absurd z (nI_pos (by omega)), fun z => ?_⟩
    conv => whnf
    refine ⟨_, hS.1, ?_⟩
    conv => whnf
    refine ⟨_, hU.1, ?_⟩
    conv => whnf
    refine ⟨⟨_, hD⟩, ⟨rfl, Nat.le_of_ble_eq_true rfl, Nat.le_of_ble_eq_true rfl⟩, ?_⟩
    refine c_Dv_takeLimb hG hl hD hV hU hrd hm (by omega) hd1 hWD (fun h2 u2 a1 a2 a3 a4 a5 => ?_)
    have nrs := NS_n (B := B) (k := r) (j := s) (by omega)
    have nrd := NS_n (B := B) (k := r) (j := d + 1) (by omega)
    have nsr := NS_n (B := B) (k := s) (j := r) (by omega)
    have nsd := NS_n (B := B) (k := s) (j := d + 1) (by omega)
    have hS2 := hS.kept a1 nrs.1 nrs.2
    have hD2 := hD.kept a1 (NS_o (by omega))
    have hV2 := hV.kept a1 nrd.1 nrd.2
    have hdig : zv 1000000000 (fun i => u (t + i)) (m + 1) / zv 1000000000 v m < 1000000000 := (Nat.div_lt_iff_lt_mul hD0).mpr hWD
    have r3 := hS.2.2.2.1
    conv => whnf
    refine ⟨_, _, hS2.2.1, vp_in_nI (by omega) (by omega), ?_⟩
    rw [nI_clamp (by omega)]
    conv => whnf
    refine ⟨?_, trivial⟩
    have hS3 := hS2.put (i := t) hdig
    have fs : Fg B h2 (zd_set h2 (zd_b0 B + s + 1) (.inr (.inl (0, Rs, upd (fun i => nI (g i)) t (nI (zv 1000000000 (fun i => u (t + i)) (m + 1) / zv 1000000000 v m)))))) (NS B s) 0 := Fg.set (Or.inr rfl)
    show zd_W l B m_Dv_split 134 [some (.ref (zd_b0 B + d)), some (.ref (zd_b0 B + r)), some (.ref (zd_b0 B + b)), some (.ref (zd_b0 B + s)), some (.int (nI f)), some (.int (nI L)), some (.int (nI t + (-1)))] [] _ Q
    rw [show nI t + (-1) = nI t - 1 from (Int32.sub_eq_add_neg _ _).symm]
    refine ih _ u2 (zu g t (zv 1000000000 (fun i => u (t + i)) (m + 1) / zv 1000000000 v m)) (by omega) ((fr.tr0 (a1.mono (fun q z => Or.inl z))).tr0 (fs.mono (fun q z => Or.inr (Or.inl z)))) (hD2.kept fs (NS_o (by omega))) (hV2.kept fs nsd.1 nsd.2) (a2.kept fs nsr.1 nsr.2) hS3 (fun j hj => by rw [a3 j (by omega)]; exact hlow j (by omega)) (fun j hj1 hj2 => ?_) (by rw [a5]; exact Nat.mod_lt _ hD0) ?_
    · by_cases e : j = t + m
      · rw [e]; exact a4
      · rw [a3 j (by omega)]; exact hhigh j (by omega) hj2
    · rw [zh_step (by omega), zh_step (g := zu g t _) (by omega), zu_s, hinv, zh_congr (g := zu g t _) (g' := g) (fun j hj => zu_n (by omega)), a5, ← hlow t (by omega)]
      have e4 := Nat.div_add_mod (zv 1000000000 (fun i => u (t + i)) (m + 1)) (zv 1000000000 v m)
      generalize zv 1000000000 (fun i => u (t + i)) (m + 1) / zv 1000000000 v m = dq at *
      generalize zv 1000000000 (fun i => u (t + i)) (m + 1) % zv 1000000000 v m = rm at *
      generalize zh 1000000000 g N (t + 1) = H at *
      rw [eW] at e4
      generalize zv 1000000000 (fun i => u (t + 1 + i)) m = X at *
      generalize zv 1000000000 v m = D at *
      rw [Nat.add_mul, Nat.mul_add, Nat.mul_assoc, Nat.mul_comm dq D]
      omega
end DF
end
section
/-! Divider: split, from its entry -/
theorem Ns.keptE {B : zd_B} {h h' : zd_H} {d k R : Nat} (hN : Ns B h k R) (f : Fg B h h' E0 d) : Ns B h' k R := hN.kept f (fun z => z) (fun z => z)
theorem Nv.keptE {B : zd_B} {h h' : zd_H} {d k R V : Nat} (hN : Nv B h k R V) (f : Fg B h h' E0 d) : Nv B h' k R V := hN.kept f (fun z => z) (fun z => z)
theorem nl_pow {V : Nat} : V < 1000000000 ^ nl V := by
  unfold nl
  by_cases e : V = 0
  · rw [if_pos e, e]; decide
  · rw [if_neg e, p9q]
    exact Nat.lt_of_lt_of_le (dg_lt V) (Nat.pow_le_pow_right (by decide) (by omega))
theorem Dvd.kept1 {B : zd_B} {h h' : zd_H} {S : Nat → Prop} {d e : Nat} (a : Dvd B h d) (f : Fg B h h' S e) (hn : ¬ S (zd_b0 B + d)) : Dvd B h' d := f.ob a hn
theorem Fg.c0 {B : zd_B} {h h' : zd_H} {S : Nat → Prop} (f : Fg B h h' S 0) : h'.1 = h.1 := f.1
section DG
variable {l : Launch} {B : zd_B} {h : zd_H} {Q : zd_O → zd_H → Prop}
theorem v_split (hG : zd_G B) (hl : l.stackTraces = false) {d r b s R Rb Rs V W : Nat} (hD : Dvd B h d) (hT : Ns B h (d + 1) 226) (hRv : Nv B h r R V) (hBv : Nv B h b Rb W) (hS : Ns B h s Rs) (hW : W ≠ 0) (hRR : R ≤ Rs) (hW2 : nl W ≤ 226)
    (hrd : r + 1 < d ∨ d + 2 < r) (hsd : s + 1 < d ∨ d + 2 < s) (hrs : r + 1 < s ∨ s + 1 < r) (hbr : b + 1 < r ∨ r + 1 < b) (hbs : b + 1 < s ∨ s + 1 < b) (hbd : b + 1 < d ∨ d + 2 < b) (hr : Rm h)
    (hq : ∀ h', Fg B h h' (DS B r s d) 0 → Nv B h' r R (V % W) → Nv B h' s Rs (V / W) → Dvd B h' d → Ns B h' (d + 1) 226 → Q (.inl none) h')
    (hth : ∀ h', nl W ≤ nl V → R < nl V + 1 → Fx B h h' (DS B r s d) 11 → Ns B h' r R → Ns B h' s Rs → Dvd B h' d → Ns B h' (d + 1) 226 → Q (.inr (zd_b0 B + h.1, 11)) h') :
    zd_M l B m_Dv_split [.ref (zd_b0 B + d), .ref (zd_b0 B + r), .ref (zd_b0 B + b), .ref (zd_b0 B + s)] h Q := by
  obtain ⟨gr, L, hN, hz, hv⟩ := hRv
  obtain ⟨gb, m, hB, hzb, hvb⟩ := hBv
  obtain ⟨gs, ns, hS0⟩ := hS
  obtain ⟨gt, nt, hT0⟩ := hT
  have eL := nl_eq hN.2.2.2.2 hz
  have em := nl_eq hB.2.2.2.2 hzb
  rw [hv] at eL
  rw [hvb] at em
  have L1 := hN.2.2.1
  have L2 := hN.2.2.2.1
  have m1 := hB.2.2.1
  have m2 := hB.2.2.2.1
  have hm : 0 < m := by
    rcases Nat.eq_zero_or_pos m with e | e
    · exact absurd (nl_eq0.mp (em ▸ e)) hW
    · exact e
  have hzb' : gb (m - 1) ≠ 0 := by rcases hzb with e | e; omega; exact e
  have nrs := NS_n (B := B) (k := r) (j := s) (by omega)
  have nrd := NS_n (B := B) (k := r) (j := d + 1) (by omega)
  have nrb := NS_n (B := B) (k := r) (j := b) (by omega)
  have nsr := NS_n (B := B) (k := s) (j := r) (by omega)
  have nsd := NS_n (B := B) (k := s) (j := d + 1) (by omega)
  have nsb := NS_n (B := B) (k := s) (j := b) (by omega)
  have ndr := NS_n (B := B) (k := d + 1) (j := r) (by omega)
  have nds := NS_n (B := B) (k := d + 1) (j := s) (by omega)
  have ndb := NS_n (B := B) (k := d + 1) (j := b) (by omega)
  have sS : ∀ q, NS B s q → DS B r s d q := fun q z => Or.inr (Or.inl z)
  have sR : ∀ q, NS B r q → DS B r s d q := fun q z => Or.inl z
  have sD : ∀ q, NS B (d + 1) q → DS B r s d q := fun q z => Or.inr (Or.inr z)
  refine zd_go (ok_Dv_split hG hl) [106] 60 ?_
  conv => whnf
  refine ⟨_, hB.1, ?_⟩
  conv => whnf
  refine ⟨fun z => ?_, fun z => absurd z (nI_ne0 hm (by omega))⟩
  conv => whnf
  refine ⟨⟨_, hS0.1⟩, ⟨rfl, Nat.le_of_ble_eq_true rfl, Nat.le_of_ble_eq_true rfl⟩, ?_⟩
  refine c_Na_claim (w := 0) hG hl hS0 (by omega) hr (fun h1 a1 a2 a3 => ?_) (fun h1 a1 a2 => by omega)
  have hN1 := hN.kept a2 nsr.1 nsr.2
  have hB1 := hB.kept a2 nsb.1 nsb.2
  have hT1 := hT0.kept a2 nsd.1 nsd.2
  have hD1 := hD.kept a2 (NS_o (by omega))
  have f1 := a2.mono sS
  have hr1 := hr.kept a2
  conv => whnf
  refine ⟨_, hN1.1, ?_⟩
  conv => whnf
  refine ⟨_, hB1.1, ?_⟩
  conv => whnf
  refine ⟨fun z => ?_, fun z => ?_⟩
  rotate_left
  · have z' : L < m := by
      have : ¬ m ≤ L := fun q => z (nI_le q (by omega))
      omega
    have hlt : V < W := by
      rcases Nat.lt_or_ge V W with c | c
      · exact c
      · have := nl_mono c
        omega
    conv => whnf
    exact ⟨hq h1 f1 ⟨gr, L, hN1, hz, by rw [hv, Nat.mod_eq_of_lt hlt]⟩ ⟨gs, 0, a3, Or.inl rfl, by rw [Nat.div_eq_of_lt hlt]; rfl⟩ hD1 ⟨gt, nt, hT1⟩, trivial⟩
  have mL : m ≤ L := (nI_leI (by omega) (by omega)).mp z
  have tl := hB.2.2.2.2 (m - 1)
  obtain ⟨f, hf⟩ : ∃ f, f = 1000000000 / (gb (m - 1) + 1) := ⟨_, rfl⟩
  obtain ⟨k1, k2, k3, k4⟩ := kn_top (t := gb (m - 1)) (f := f) (by omega) tl hf
  have nm1 : nI m - 1 = nI (m - 1) := by rw [show (1 : Int32) = nI 1 from rfl, pk_sub (by omega)]
  conv => whnf
  refine ⟨_, hB1.1, ?_⟩
  conv => whnf
  refine ⟨_, hB1.1, ?_⟩
  conv => whnf
  refine ⟨_, _, Or.inl hB1.2.1, by rw [nm1]; exact vp_in_nI (by omega) (by omega), ?_⟩
  rw [nm1, nI_clamp (by omega)]
  conv => whnf
  refine ⟨by rw [nI_1]; exact nI_ne0 (by omega) (by omega), ?_⟩
  rw [nI_1, show (1000000000 : Int32) = nI 1000000000 from rfl, pk_div (by omega) (by omega) (by omega), ← hf]
  conv => whnf
  refine ⟨_, hD1, ?_⟩
  conv => whnf
  refine ⟨⟨_, hT1.1⟩, ⟨rfl, Nat.le_of_ble_eq_true rfl, Nat.le_of_ble_eq_true rfl⟩, ?_⟩
  refine c_Na_copy hG hl hT1 hB1 (by omega) hr1 (fun h2 g2 b1 b2 b3 b4 => ?_) (fun h2 b1 b2 => by omega)
  have hN2 := hN1.kept b2 ndr.1 ndr.2
  have hS2 := a3.kept b2 nds.1 nds.2
  have hD2 := hD1.kept b2 (NS_o (by omega))
  have f2 := f1.tr0 (b2.mono sD)
  have hr2 := hr1.kept b2
  have eV2 : zv 1000000000 g2 m = W := by rw [zv_congr (g' := gb) b4, hvb]
  have hWp : zv 1000000000 gb (m - 1) < 1000000000 ^ (m - 1) := zv_lt (fun i _ => hB.2.2.2.2 i)
  have eWs : W = zv 1000000000 gb (m - 1) + gb (m - 1) * 1000000000 ^ (m - 1) := by
    rw [← hvb]
    conv => lhs; rw [show m = m - 1 + 1 by omega]
    rfl
  have eP : 1000000000 ^ m = 1000000000 ^ (m - 1) * 1000000000 := by
    conv => lhs; rw [show m = m - 1 + 1 by omega]
    rw [Nat.pow_succ]
  have hWf : W * f < 1000000000 ^ m := by
    have h1 : W < (gb (m - 1) + 1) * 1000000000 ^ (m - 1) := by rw [Nat.add_mul, Nat.one_mul]; omega
    have h2 : W * f < (gb (m - 1) + 1) * 1000000000 ^ (m - 1) * f := Nat.mul_lt_mul_of_pos_right h1 k2
    have h3 : (gb (m - 1) + 1) * 1000000000 ^ (m - 1) * f = (gb (m - 1) + 1) * f * 1000000000 ^ (m - 1) := Nat.mul_right_comm _ _ _
    have h4 : (gb (m - 1) + 1) * f * 1000000000 ^ (m - 1) ≤ 1000000000 * 1000000000 ^ (m - 1) := Nat.mul_le_mul_right _ k4
    omega
  conv => whnf
  refine ⟨_, hD2, ?_⟩
  conv => whnf
  refine ⟨⟨_, b3.1⟩, ⟨rfl, Nat.le_of_ble_eq_true rfl, Nat.le_of_ble_eq_true rfl⟩, ?_⟩
  refine c_Na_timesSmall2 hG hl b3 hr2 (by omega) k2 (fun h3 v n3 c1 c2 c3 c4 => ?_) (fun h3 c1 c2 => by rw [eV2] at c2; omega)
  rw [eV2] at c3
  have en3 : n3 = m := by
    rcases c4 with e | ⟨e1, e2⟩
    · exact e
    · exfalso
      rw [e1, zv_succ] at c3
      have : 1 * 1000000000 ^ m ≤ v m * 1000000000 ^ m := Nat.mul_le_mul_right _ (by omega)
      omega
  subst en3
  have hd1 : 500000000 ≤ v (n3 - 1) := by
    have hvp : zv 1000000000 v (n3 - 1) < 1000000000 ^ (n3 - 1) := zv_lt (fun i _ => c2.2.2.2.2 i)
    have evs : zv 1000000000 v n3 = zv 1000000000 v (n3 - 1) + v (n3 - 1) * 1000000000 ^ (n3 - 1) := by
      conv => lhs; rw [show n3 = n3 - 1 + 1 by omega]
      rfl
    have h5 : gb (n3 - 1) * f * 1000000000 ^ (n3 - 1) ≤ W * f := by
      rw [Nat.mul_right_comm]
      exact Nat.mul_le_mul_right _ (by omega)
    have h6 : gb (n3 - 1) * f * 1000000000 ^ (n3 - 1) < (v (n3 - 1) + 1) * 1000000000 ^ (n3 - 1) := by rw [Nat.add_mul, Nat.one_mul]; omega
    have := Nat.lt_of_mul_lt_mul_right h6
    omega
  have hN3 := hN2.kept c1 ndr.1 ndr.2
  have hS3 := hS2.kept c1 nds.1 nds.2
  have hD3 := hD2.kept c1 (NS_o (by omega))
  have f3 := f2.tr0 (c1.mono sD)
  have hr3 := hr2.kept c1
  conv => whnf
  refine ⟨_, hN3.1, ?_⟩
  conv => whnf
  refine ⟨⟨_, hN3.1⟩, ⟨rfl, Nat.le_of_ble_eq_true rfl, Nat.le_of_ble_eq_true rfl⟩, ?_⟩
  refine c_Na_timesSmall2 hG hl hN3 hr3 (by omega) k2 (fun h4 u n4 d1 d2 d3 d4 => ?_) (fun h4 d1 d2 d3 d4 => ?_)
  rotate_left
  · have := hth h4 (by omega) (by omega) (Fx.after f3 (d3.mono sR)) d4 ⟨gs, 0, hS3.kept d3.1 nrs.1 nrs.2⟩ (hD3.kept1 d3.1 (NS_o (by omega))) ⟨v, n3, c2.kept d3.1 nrd.1 nrd.2⟩
    rw [← f3.c0] at this
    exact this
  rw [hv] at d3
  have hS4 := hS3.kept d1 nrs.1 nrs.2
  have hD4 := hD3.kept d1 (NS_o (by omega))
  have hV4 := c2.kept d1 nrd.1 nrd.2
  have f4 := f3.tr0 (d1.mono sR)
  have hr4 := hr3.kept d1
  have hVL : V < 1000000000 ^ L := by rw [eL]; exact nl_pow
  -- from here on: the window is one limb longer
  have b106 : ∀ h5 u5, Fg B h h5 (DS B r s d) 0 → Rm h5 → Dvd B h5 d → Nt B h5 (d + 1) 226 v n3 → Nt B h5 s Rs gs 0 → Nt B h5 r R u5 (L + 1) → zv 1000000000 u5 (L + 1) = V * f →
      zd_W l B m_Dv_split 106 [some (.ref (zd_b0 B + d)), some (.ref (zd_b0 B + r)), some (.ref (zd_b0 B + b)), some (.ref (zd_b0 B + s)), some (.int (nI f)), some (.int (nI L)), none] [] h5 Q := by
    intro h5 u5 f5 hr5 hD5 hV5 hS5 hU5 hz5
    have R5 := hU5.2.2.1
    have ew : nI L - nI n3 + 1 = nI (L - n3 + 1) := by rw [pk_sub mL, nI_1]
    refine zd_go (ok_Dv_split hG hl) [134] 60 ?_
    conv => whnf
    refine ⟨_, hD5, ?_⟩
    conv => whnf
    refine ⟨_, hV5.1, ?_⟩
    conv => whnf
    refine ⟨⟨_, hS5.1⟩, ⟨rfl, Nat.le_of_ble_eq_true rfl, Nat.le_of_ble_eq_true rfl⟩, ?_⟩
    rw [ew]
    refine c_Na_claim hG hl hS5 (by omega) hr5 (fun h6 e1 e2 e3 => ?_) (fun h6 e1 e2 => by omega)
    have hU6 := hU5.kept e2 nsr.1 nsr.2
    have hV6 := hV5.kept e2 nsd.1 nsd.2
    have hD6 := hD5.kept e2 (NS_o (by omega))
    conv => whnf
    refine ⟨_, hD6, ?_⟩
    conv => whnf
    refine ⟨_, hV6.1, ?_⟩
    conv => whnf
    refine ⟨?_, trivial⟩
    have hD0 : 0 < zv 1000000000 v n3 := by
      rw [c3]
      exact Nat.mul_pos (Nat.pos_of_ne_zero hW) k2
    have hrem : zv 1000000000 (fun i => u5 (L - n3 + 1 + i)) n3 < zv 1000000000 v n3 := by
      have e7 := zv_div (b := 1000000000) (g := u5) (by decide) (m := L - n3 + 1) n3 (fun i _ => hU5.2.2.2.2 i)
      rw [show L - n3 + 1 + n3 = L + 1 by omega, hz5] at e7
      rw [← e7, c3, Nat.div_lt_iff_lt_mul (Nat.pow_pos (by decide))]
      have h8 : gb (n3 - 1) * 1000000000 ^ (n3 - 1) ≤ W := by omega
      have h9 : 1 * 1000000000 ^ (n3 - 1) ≤ gb (n3 - 1) * 1000000000 ^ (n3 - 1) := Nat.mul_le_mul_right _ (by omega)
      have h10 : 1000000000 ^ (n3 - 1) * 1000000000 ^ (L - n3 + 1) ≤ W * 1000000000 ^ (L - n3 + 1) := Nat.mul_le_mul_right _ (by omega)
      rw [← Nat.pow_add, show n3 - 1 + (L - n3 + 1) = L by omega] at h10
      rw [Nat.mul_right_comm]
      exact Nat.mul_lt_mul_of_pos_right (Nat.lt_of_lt_of_le hVL h10) k2
    have := w_Dv_split134 (h := h) (b := b) hG hl (R := R) (Rs := Rs) (L := L) (m := n3) (N := L - n3 + 1) (f := f) (u0 := u5) (v := v) (Q := Q) hrd hsd hrs hm hd1 hU5.2.2.2.2 (by omega) R5 (by omega) (by omega) (by omega) k2 (by omega) c2.2.2.2.2 (fun h7 g1 g2 g3 g4 g5 => hq h7 g1 ?_ ?_ g4 ⟨v, n3, g5⟩) (L - n3 + 1) h6 u5 gs (Nat.le_refl _) (f5.tr0 (e2.mono sS)) hD6 hV6 hU6 e3 (fun _ _ => rfl) (fun j j1 j2 => by omega) hrem (by
        rw [zh_n, Nat.zero_mul, Nat.zero_add]
        unfold zh
        rw [show L + 1 - (L - n3 + 1) = n3 by omega])
    · have e9 : nI L - nI n3 = nI (L - n3 + 1) - 1 := by rw [pk_sub mL, nI_pred]
      rw [← e9] at this
      exact this
    · rw [hz5, c3, Nat.mul_mod_mul_right, Nat.mul_div_cancel _ (by omega)] at g2
      exact g2
    · rw [hz5, c3, Nat.mul_div_mul_right _ _ (by omega)] at g3
      exact g3
  conv => whnf
  refine ⟨_, d2.1, ?_⟩
  conv => whnf
  rcases d4 with e | ⟨e1, e2⟩
  · subst e
    refine ⟨fun z => absurd rfl z, fun z => ?_⟩
    conv => whnf
    refine ⟨⟨_, d2.1⟩, ⟨rfl, Nat.le_of_ble_eq_true rfl, Nat.le_of_ble_eq_true rfl⟩, ?_⟩
    rw [nI_1]
    refine c_Na_claim hG hl d2 (by omega) hr4 (fun h5 e1 e2 e3 => ?_) (fun h5 e1 e2 => ?_)
    rotate_left
    · have := hth h5 (by omega) (by omega) (Fx.after f4 (e2.mono (fun _ z => z.elim))) ⟨u, n4, d2.kept e2.1 (fun z => z) (fun z => z)⟩ ⟨gs, 0, hS4.kept e2.1 (fun z => z) (fun z => z)⟩ (hD4.kept1 e2.1 (fun z => z)) ⟨v, n3, hV4.kept e2.1 (fun z => z) (fun z => z)⟩
      rw [← f4.c0] at this
      exact this
    conv => whnf
    refine ⟨_, e3.1, ?_⟩
    conv => whnf
    refine ⟨_, _, e3.2.1, vp_in_nI (by omega) (by omega), ?_⟩
    rw [nI_clamp (by omega), show (0 : Int32) = nI 0 from nI_0.symm]
    conv => whnf
    refine ⟨?_, trivial⟩
    have fs : Fg B h5 (zd_set h5 (zd_b0 B + r + 1) (.inr (.inl (0, R, upd (fun i => nI (u i)) n4 (nI 0))))) (NS B r) 0 := Fg.set (Or.inr rfl)
    have ff := e2.tr0 fs
    refine b106 _ (zu u n4 0) (f4.tr0 (ff.mono sR)) (hr4.kept ff) (hD4.kept ff (NS_o (by omega))) (hV4.kept ff nrd.1 nrd.2) (hS4.kept ff nrs.1 nrs.2) (e3.put (i := n4) (v := 0) (by omega)) ?_
    rw [zv_succ, zu_s, zv_zu_out (Nat.le_refl _), Nat.zero_mul, Nat.add_zero, d3]
  · subst e1
    refine ⟨fun z => ?_, fun z => absurd ((nI_eq (by have := d2.2.2.1; omega) (by omega)).mp z) (by omega)⟩
    conv => whnf
    exact ⟨b106 h4 u f4 hr4 hD4 hV4 hS4 d2 d3, trivial⟩
end DG
end
section
/-! Rooter: pure -/
def IsS (s X : Nat) : Prop := s * s ≤ X ∧ X < (s + 1) * (s + 1)
theorem IsS.ex (X : Nat) : ∃ s, IsS s X := by
  obtain ⟨k, h1, h2⟩ := pk_least (fun t => X < (t + 1) * (t + 1)) ⟨X, by rw [Nat.add_mul, Nat.mul_add]; omega⟩
  refine ⟨k, ?_, h1⟩
  rcases Nat.eq_zero_or_pos k with e | e
  · rw [e]; omega
  · have := h2 (k - 1) (by omega)
    rw [show k - 1 + 1 = k by omega] at this
    omega
theorem sq_lt {a b : Nat} (h : a * a < b * b) : a < b := by
  rcases Nat.lt_or_ge a b with c | c
  · exact c
  · have := Nat.mul_le_mul c c
    omega
theorem IsS.un {s t X : Nat} (a : IsS s X) (b : IsS t X) : s = t := by
  have h1 := sq_lt (Nat.lt_of_le_of_lt a.1 b.2)
  have h2 := sq_lt (Nat.lt_of_le_of_lt b.1 a.2)
  omega
theorem nw_stop {s X f : Nat} (h : IsS s X) (hs : s ≤ f) (hf : 0 < f) : f ≤ X / f ↔ f = s := by
  rw [Nat.le_div_iff_mul_le hf]
  constructor
  · intro q
    have := sq_lt (Nat.lt_of_le_of_lt q h.2)
    omega
  · intro q
    rw [q]
    exact h.1
theorem nw_step {s X f : Nat} (h : IsS s X) (hs : s < f) : s ≤ (f + X / f) / 2 ∧ (f + X / f) / 2 - s ≤ (f - s) / 2 ∧ (f + X / f) / 2 < f ∧ ((f - s) * (f - s) ≤ s → (f + X / f) / 2 - s ≤ 1) := by
  have hf : 0 < f := by omega
  have hq1 : X / f ≤ s := by
    have : X / f < s + 1 := (Nat.div_lt_iff_lt_mul hf).mpr (Nat.lt_of_lt_of_le h.2 (Nat.mul_le_mul_left _ hs))
    omega
  have hq2 : X < (X / f + 1) * f := by
    have e1 := Nat.div_add_mod X f
    have e2 := Nat.mod_lt X hf
    rw [Nat.add_mul, Nat.one_mul, Nat.mul_comm]
    omega
  have hq3 : X / f * f ≤ X := Nat.div_mul_le_self _ _
  have hx := h.1
  have hy : X ≤ s * s + 2 * s := by
    have := h.2
    rw [Nat.add_mul, Nat.mul_add] at this
    omega
  generalize X / f = q at *
  have l1 : s ≤ (f + q) / 2 := by
    rcases Nat.lt_or_ge (f + q) (2 * s) with c | c
    · exfalso
      obtain ⟨b, rfl⟩ : ∃ b, f = q + 1 + b := ⟨f - (q + 1), by omega⟩
      have hm := Nat.mul_le_mul (show 2 * (q + 1) + b ≤ 2 * s by omega) (show 2 * (q + 1) + b ≤ 2 * s by omega)
      generalize q + 1 = p at *
      have e1 : (2 * p + b) * (2 * p + b) = 4 * (p * p) + 4 * (p * b) + b * b := by
        rw [show 2 * p = p + p by omega]
        simp only [Nat.add_mul, Nat.mul_add, Nat.mul_comm b p]
        omega
      have e2 : 2 * s * (2 * s) = 4 * (s * s) := by
        rw [show 2 * s = s + s by omega]
        simp only [Nat.add_mul, Nat.mul_add]
        omega
      rw [Nat.mul_add] at hq2
      omega
    · omega
  refine ⟨l1, by omega, by omega, fun he => ?_⟩
  rcases Nat.lt_or_ge 1 ((f + q) / 2 - s) with c | c
  · exfalso
    obtain ⟨e, rfl⟩ : ∃ e, f = s + e := ⟨f - s, by omega⟩
    rw [show s + e - s = e by omega] at he
    have h1 : 2 * s + 4 ≤ s + e + q := by omega
    have h2 : (2 * s + 4) * (s + e) ≤ (s + e + q) * (s + e) := Nat.mul_le_mul_right _ h1
    rw [Nat.add_mul (s + e) q] at h2
    have e1 : (2 * s + 4) * (s + e) = 2 * (s * s) + 2 * (s * e) + 4 * s + 4 * e := by
      simp only [Nat.add_mul, Nat.mul_add, Nat.mul_assoc]
      omega
    have e2 : (s + e) * (s + e) = s * s + 2 * (s * e) + e * e := by
      simp only [Nat.add_mul, Nat.mul_add]
      rw [Nat.mul_comm e s]
      omega
    omega
  · exact c
/-- the cells of a list -/
def CL (B : zd_B) (ks : List Nat) : Nat → Prop := fun a => ∃ k, ks.contains k = true ∧ a = zd_b0 B + k
theorem CL.no {B : zd_B} {ks : List Nat} {j : Nat} (h : ks.contains j = false) : ¬ CL B ks (zd_b0 B + j) := fun ⟨k, h1, h2⟩ => by
  have e : k = j := by omega
  rw [e, h] at h1
  cases h1
theorem CL.no2 {B : zd_B} {ks : List Nat} {j : Nat} (h : (ks.contains j || ks.contains (j + 1)) = false) : ¬ CL B ks (zd_b0 B + j) ∧ ¬ CL B ks (zd_b0 B + j + 1) := by
  obtain ⟨h1, h2⟩ := Bool.or_eq_false_iff.mp h
  exact ⟨CL.no h1, by rw [Nat.add_assoc]; exact CL.no h2⟩
theorem NS.cl {B : zd_B} {ks : List Nat} {k : Nat} (h : (ks.contains k && ks.contains (k + 1)) = true) : ∀ q, NS B k q → CL B ks q := fun q z => by
  obtain ⟨h1, h2⟩ := Bool.and_eq_true_iff.mp h
  rcases z with z | z
  · exact ⟨k, h1, z⟩
  · exact ⟨k + 1, h2, z⟩
theorem CL.mono {B : zd_B} {ks ks' : List Nat} (h : ks.all (fun k => ks'.contains k) = true) : ∀ q, CL B ks q → CL B ks' q := fun q ⟨k, h1, h2⟩ => ⟨k, List.all_eq_true.mp h k (List.contains_iff_mem.mp h1), h2⟩
theorem DS.cl {B : zd_B} {ks : List Nat} {r s d : Nat} (h : ((ks.contains r && ks.contains (r + 1)) && ((ks.contains s && ks.contains (s + 1)) && (ks.contains (d + 1) && ks.contains (d + 1 + 1)))) = true) : ∀ q, DS B r s d q → CL B ks q := fun q z => by
  obtain ⟨h1, h2⟩ := Bool.and_eq_true_iff.mp h
  obtain ⟨h3, h4⟩ := Bool.and_eq_true_iff.mp h2
  rcases z with z | z | z
  · exact NS.cl h1 q z
  · exact NS.cl h3 q z
  · exact NS.cl h4 q z
theorem Nv.kc {B : zd_B} {h h' : zd_H} {d k R V : Nat} {ks : List Nat} (hN : Nv B h k R V) (f : Fg B h h' (CL B ks) d) (hk : (ks.contains k || ks.contains (k + 1)) = false) : Nv B h' k R V := hN.kept f (CL.no2 hk).1 (CL.no2 hk).2
theorem Ns.kc {B : zd_B} {h h' : zd_H} {d k R : Nat} {ks : List Nat} (hN : Ns B h k R) (f : Fg B h h' (CL B ks) d) (hk : (ks.contains k || ks.contains (k + 1)) = false) : Ns B h' k R := hN.kept f (CL.no2 hk).1 (CL.no2 hk).2
theorem Fg.obc {B : zd_B} {h h' : zd_H} {d k ci : Nat} {ks : List Nat} {fs : List Value} (f : Fg B h h' (CL B ks) d) (ho : zd_Ob B h (zd_b0 B + k) ci fs) (hk : ks.contains k = false) : zd_Ob B h' (zd_b0 B + k) ci fs := f.ob ho (CL.no hk)
end
section
/-! Rooter: descend -/
def Rtr (B : zd_B) (h : zd_H) : Prop := zd_Ob B h (zd_b0 B + 39) 5 [.ref (zd_b0 B + 36), .ref (zd_b0 B + 40), .ref (zd_b0 B + 42), .ref (zd_b0 B + 44)]
theorem cmpN_ge0 {a b : Nat} : (cmpN a b < 0) ↔ a < b := by
  unfold cmpN
  by_cases h : a < b
  · rw [if_pos h]; exact ⟨fun _ => h, fun _ => by decide⟩
  · rw [if_neg h]
    refine ⟨fun q => ?_, fun q => absurd q h⟩
    split at q <;> exact absurd q (by decide)
theorem cmpN_0 {a b : Nat} : cmpN a b = 0 ↔ a = b := by
  unfold cmpN
  by_cases h : a < b
  · rw [if_pos h]; exact ⟨fun q => absurd q (by decide), fun q => by omega⟩
  · rw [if_neg h]
    by_cases e : a = b
    · rw [if_pos e]; exact ⟨fun _ => e, fun _ => rfl⟩
    · rw [if_neg e]; exact ⟨fun q => absurd q (by decide), fun q => absurd q e⟩
theorem Rm.k0 {B : zd_B} {h h' : zd_H} {S : Nat → Prop} (r : Rm h) (f : Fg B h h' S 0) : Rm h' := r.kept f
abbrev RoL : List Nat := [37, 38, 42, 43, 44, 45, 51, 52]
section RA
variable {l : Launch} {B : zd_B} {h : zd_H} {Q : zd_O → zd_H → Prop}
theorem w_Ro_descend (hG : zd_G B) (hl : l.stackTraces = false) {X s : Nat} (hS : IsS s X) (hX : 0 < X) (hX2 : nl X ≤ 224)
    (hq : ∀ h', Fg B h h' (CL B RoL) 0 → Dvd B h' 36 → Ns B h' 37 226 → Ns B h' 42 226 → Ns B h' 44 226 → Nv B h' 51 226 s → Q (.inl (some (.int (nI (if s * s = X then 1 else 0))))) h') :
    ∀ (e j f : Nat) (h1 : zd_H) (w3 : Option Value), j + e = 1000 → 1 ≤ e → Fg B h h1 (CL B RoL) 0 → Rm h1 → Rtr B h1 → Dvd B h1 36 → Ns B h1 37 226 → Nv B h1 40 226 X → Ns B h1 42 226 → Ns B h1 44 226 → Nv B h1 51 226 f → s ≤ f → nl f ≤ 224 → (f - s < 2 ^ (e - 1) ∨ ((f - s) * (f - s) ≤ s ∧ 3 ≤ e)) →
      zd_W l B m_Ro_descend 2 [some (.ref (zd_b0 B + 39)), some (.ref (zd_b0 B + 51)), some (.int (nI j)), w3] [] h1 Q := by
  have s0 : 0 < s := by
    rcases Nat.eq_zero_or_pos s with e | e
    · have := hS.2
      rw [e] at this
      omega
    · exact e
  intro e
  induction e with
  | zero => intro j f h1 w3 hj he; omega
  | succ e ih =>
    intro j f h1 w3 hj he fr hr hO hD hT hH hA hR hF hsf hf2 hb
    obtain ⟨fsA, obA⟩ := hA.ob
    refine zd_go (ok_Ro_descend hG hl) [2] 60 ?_
    conv => whnf
    refine ⟨fun z => absurd z (nI_ge (b := 1000) (by omega) (by omega)), fun z => ?_⟩
    conv => whnf
    refine ⟨_, hO, ?_⟩
    conv => whnf
    refine ⟨_, hO, ?_⟩
    conv => whnf
    refine ⟨⟨_, obA⟩, ⟨rfl, Nat.le_of_ble_eq_true rfl, Nat.le_of_ble_eq_true rfl⟩, ?_⟩
    refine v_copy hG hl hA hH (by omega) hr (fun h2 a1 a2 a3 => ?_) (fun h2 a1 a2 => absurd hH.nl (by omega))
    have c2 := a2.mono (NS.cl (ks := RoL) (by decide))
    have hO2 : Rtr B h2 := a2.ob hO (NS_o (by omega))
    have hD2 := hD.kept a2 (NS_o (by omega))
    have hT2 := hT.kept a2 (NS_n (by omega)).1 (NS_n (by omega)).2
    have hH2 := hH.kept a2 (NS_n (by omega)).1 (NS_n (by omega)).2
    have hR2 := hR.kept a2 (NS_n (by omega)).1 (NS_n (by omega)).2
    have hF2 := hF.kept a2 (NS_n (by omega)).1 (NS_n (by omega)).2
    have f2 := fr.tr0 c2
    conv => whnf
    refine ⟨_, hO2, ?_⟩
    conv => whnf
    refine ⟨_, hO2, ?_⟩
    conv => whnf
    refine ⟨_, hO2, ?_⟩
    conv => whnf
    refine ⟨⟨_, hD2⟩, ⟨rfl, Nat.le_of_ble_eq_true rfl, Nat.le_of_ble_eq_true rfl⟩, ?_⟩
    refine v_split hG hl hD2 hT2 a3 hF2 hR2 (by omega) (by omega) (by omega) (by omega) (by omega) (by omega) (by omega) (by omega) (by omega) (hr.k0 a2) (fun h3 b1 b2 b3 b4 b5 => ?_) (fun h3 b1 b2 => by omega)
    have c3 := b1.mono (DS.cl (ks := RoL) (by decide))
    have d3 := b1.mono (DS.cl (ks := [42, 43, 44, 45, 37, 38]) (by decide))
    have hO3 : Rtr B h3 := d3.obc hO2 (by decide)
    have hH3 := hH2.kc d3 (by decide)
    have hF3 := hF2.kc d3 (by decide)
    have hr3 := (hr.k0 a2).k0 b1
    have f3 := f2.tr0 c3
    obtain ⟨fsR, obR⟩ := b3.ob
    conv => whnf
    refine ⟨_, hO3, ?_⟩
    conv => whnf
    refine ⟨⟨_, obR⟩, ⟨rfl, Nat.le_of_ble_eq_true rfl, Nat.le_of_ble_eq_true rfl⟩, ?_⟩
    refine v_order hG hl b3 hF3 ?_
    conv => whnf
    by_cases hlt : X / f < f
    · refine ⟨fun z => ?_, fun z => absurd (cmpN_ge0.mpr hlt) z⟩
      have hne : f ≠ s := fun q => by
        have := (nw_stop hS hsf (by omega)).mpr q
        omega
      obtain ⟨n1, n2, n3, n4⟩ := nw_step (f := f) hS (by omega)
      obtain ⟨fsF, obF⟩ := hF3.ob
      conv => whnf
      refine ⟨_, hO3, ?_⟩
      conv => whnf
      refine ⟨⟨_, obF⟩, ⟨rfl, Nat.le_of_ble_eq_true rfl, Nat.le_of_ble_eq_true rfl⟩, ?_⟩
      have hnl := nl_mono (Nat.le_of_lt hlt)
      refine v_raiseBy hG hl hF3 b3 (by omega) hr3 (fun h4 d1 d2 => ?_) (fun h4 d1 d2 => by rcases d1 with d1 | d1 <;> omega)
      obtain ⟨fsF4, obF4⟩ := d2.ob
      conv => whnf
      refine ⟨⟨_, obF4⟩, ⟨rfl, Nat.le_of_ble_eq_true rfl, Nat.le_of_ble_eq_true rfl⟩, ?_⟩
      refine v_overSmall (m := 2) hG hl d2 (by omega) (by omega) (fun h5 e1 e2 => ?_)
      conv => whnf
      refine ⟨?_, trivial⟩
      have g5 := d1.tr0 e1
      have c5 := g5.mono (NS.cl (ks := RoL) (by decide))
      have := ih (j + 1) ((f + X / f) / 2) h5 (some (.int (cmpN (X / f) f))) (by omega) (by
          rcases Nat.eq_zero_or_pos e with q | q
          · subst q
            rcases hb with hb | hb
            · have h0 : f - s < 1 := hb
              omega
            · omega
          · exact q) (f3.tr0 c5) (hr3.k0 g5) (g5.ob hO3 (NS_o (by omega))) (b4.kept g5 (NS_o (by omega))) (b5.kept g5 (NS_n (by omega)).1 (NS_n (by omega)).2) (hH3.kept g5 (NS_n (by omega)).1 (NS_n (by omega)).2) (b2.s.kept g5 (NS_n (by omega)).1 (NS_n (by omega)).2) (b3.s.kept g5 (NS_n (by omega)).1 (NS_n (by omega)).2) e2 n1 (Nat.le_trans (nl_mono (Nat.le_of_lt n3)) hf2) (Or.inl (by
          rcases hb with hb | hb
          · have e0 : 1 ≤ e := by
              rcases Nat.eq_zero_or_pos e with q | q
              · subst q
                have h0 : f - s < 1 := hb
                omega
              · exact q
            have h2 : (2 : Nat) ^ (e + 1 - 1) = 2 ^ (e - 1) * 2 := by rw [show e + 1 - 1 = (e - 1) + 1 by omega, Nat.pow_succ]
            rw [h2] at hb
            omega
          · have := n4 hb.1
            have h2 : (2 : Nat) ^ 1 ≤ 2 ^ (e - 1) := Nat.pow_le_pow_right (by decide) (by omega)
            omega))
      rw [← nI_1 j] at this
      exact this
    · have ef : f = s := (nw_stop hS hsf (by omega)).mp (by omega)
      subst ef
      refine ⟨fun z => absurd (cmpN_ge0.mp z) hlt, fun z => ?_⟩
      conv => whnf
      have hm := Nat.div_add_mod X f
      by_cases he2 : X / f = f
      · refine ⟨fun z => absurd (cmpN_0.mpr he2) z, fun z => ?_⟩
        obtain ⟨fsA3, obA3⟩ := b2.ob
        conv => whnf
        refine ⟨_, hO3, ?_⟩
        conv => whnf
        refine ⟨⟨_, obA3⟩, ⟨rfl, Nat.le_of_ble_eq_true rfl, Nat.le_of_ble_eq_true rfl⟩, ?_⟩
        refine v_isZero hG hl b2 ?_
        rw [he2] at hm
        by_cases h0 : X % f = 0
        · have hx : f * f = X := by omega
          have := hq h3 f3 b4 b5 b2.s b3.s hF3
          rw [if_pos hx] at this
          rw [if_pos h0]
          conv => whnf
          refine ⟨fun z => absurd z (by decide), fun z => ?_⟩
          conv => whnf
          refine ⟨rfl, ?_, trivial⟩
          exact this
        · have hx : f * f ≠ X := by omega
          have := hq h3 f3 b4 b5 b2.s b3.s hF3
          rw [if_neg hx, nI_0] at this
          rw [if_neg h0]
          conv => whnf
          refine ⟨fun z => ?_, fun z => absurd rfl z⟩
          conv => whnf
          refine ⟨rfl, ?_, trivial⟩
          exact this
      · refine ⟨fun z => ?_, fun z => absurd (cmpN_0.mp z) he2⟩
        have hx : f * f ≠ X := fun q => he2 (by rw [← q]; exact Nat.mul_div_cancel _ (by omega))
        have := hq h3 f3 b4 b5 b2.s b3.s hF3
        rw [if_neg hx, nI_0] at this
        conv => whnf
        refine ⟨rfl, ?_, trivial⟩
        exact this
theorem c_Ro_descend (hG : zd_G B) (hl : l.stackTraces = false) {X s f : Nat} (hS : IsS s X) (hX : 0 < X) (hX2 : nl X ≤ 224) (hr : Rm h) (hO : Rtr B h) (hD : Dvd B h 36) (hT : Ns B h 37 226) (hH : Nv B h 40 226 X) (hA : Ns B h 42 226) (hR : Ns B h 44 226) (hF : Nv B h 51 226 f) (hsf : s ≤ f) (hf2 : nl f ≤ 224) (hb : f - s < 2 ^ 999 ∨ (f - s) * (f - s) ≤ s)
    (hq : ∀ h', Fg B h h' (CL B RoL) 0 → Dvd B h' 36 → Ns B h' 37 226 → Ns B h' 42 226 → Ns B h' 44 226 → Nv B h' 51 226 s → Q (.inl (some (.int (nI (if s * s = X then 1 else 0))))) h') :
    zd_M l B m_Ro_descend [.ref (zd_b0 B + 39), .ref (zd_b0 B + 51)] h Q := by
  have := w_Ro_descend hG hl hS hX hX2 hq 1000 0 f h none (by omega) (by omega) Fg.rf hr hO hD hT hH hA hR hF hsf hf2 (hb.elim (fun q => Or.inl q) (fun q => Or.inr ⟨q, by omega⟩))
  rw [nI_0] at this
  refine zd_go (ok_Ro_descend hG hl) [2] 60 ?_
  conv => whnf
  exact ⟨this, trivial⟩
end RA
end
section
/-! Rooter: extract -/
theorem ex_pure {s t X P : Nat} (hP : 0 < P) (h1 : IsS s (X / (P * P))) (h2 : IsS t X) : t ≤ (s + 1) * P ∧ (s + 1) * P - t ≤ P := by
  have hPP : 0 < P * P := Nat.mul_pos hP hP
  have a1 : X < (s + 1) * P * ((s + 1) * P) := by
    have := h1.2
    rw [Nat.div_lt_iff_lt_mul hPP] at this
    rw [show (s + 1) * P * ((s + 1) * P) = (s + 1) * (s + 1) * (P * P) by simp only [Nat.mul_assoc, Nat.mul_comm, Nat.mul_left_comm]]
    exact this
  have a2 : s * P * (s * P) ≤ X := by
    have := (Nat.le_div_iff_mul_le hPP).mp h1.1
    rw [show s * P * (s * P) = s * s * (P * P) by simp only [Nat.mul_assoc, Nat.mul_comm, Nat.mul_left_comm]]
    exact this
  have b1 := sq_lt (Nat.lt_of_le_of_lt h2.1 a1)
  have b2 := sq_lt (Nat.lt_of_le_of_lt a2 h2.2)
  refine ⟨by omega, ?_⟩
  rw [Nat.add_mul, Nat.one_mul]
  omega
theorem dg_le {V a : Nat} (h : V < 10 ^ a) (ha : 1 ≤ a) : dg V ≤ a := by
  rcases Nat.eq_zero_or_pos V with e | e
  · rw [e, dg_0]; exact ha
  · have := pow_lt_cancel (Nat.lt_of_le_of_lt (dg_ge V e) h)
    have := dg_pos V
    omega
theorem nl_le {V a : Nat} (h : V ≤ 10 ^ (9 * a)) : nl V ≤ a + 1 := by
  unfold nl
  split
  · omega
  · have := dg_le (V := V) (a := 9 * a + 1) (Nat.lt_of_le_of_lt h (Nat.pow_lt_pow_right (by decide) (by omega))) (by omega)
    omega
theorem dg_nl {V : Nat} (h : V ≠ 0) : dg V ≤ 9 * nl V ∧ 9 * nl V ≤ dg V + 8 := by
  unfold nl
  rw [if_neg h]
  omega
abbrev RoE : List Nat := [37, 38, 40, 41, 42, 43, 44, 45, 51, 52]
section RB
variable {l : Launch} {B : zd_B} {h : zd_H} {Q : zd_O → zd_H → Prop}
theorem w_Ro_ex23 (hG : zd_G B) (hl : l.stackTraces = false) {X w : Nat} (hX : 0 < X) (hX2 : nl X ≤ 224) (hw : w = (nl X + 1) / 2)
    (hq : ∀ h' s, Fg B h h' (CL B RoE) 0 → Dvd B h' 36 → Ns B h' 37 226 → Ns B h' 40 226 → Ns B h' 42 226 → Ns B h' 44 226 → IsS s X → Nv B h' 51 226 s → Q (.inl (some (.int (nI (if s * s = X then 1 else 0))))) h') :
    ∀ (e k lev s ex : Nat) (h1 : zd_H) (w7 : Option Value), w - k ≤ e → k ≤ w → lev ≤ k → ex ≤ 1 → (k = w → ex = if s * s = X then 1 else 0) → IsS s (X / 10 ^ (18 * (w - k))) → Fg B h h1 (CL B RoE) 0 → Rm h1 → Rtr B h1 → Dvd B h1 36 → Ns B h1 37 226 → Nv B h1 47 226 X → Ns B h1 40 226 → Ns B h1 42 226 → Ns B h1 44 226 → Nv B h1 51 226 s →
      zd_W l B m_Ro_extract 23 [some (.ref (zd_b0 B + 39)), some (.ref (zd_b0 B + 47)), some (.ref (zd_b0 B + 51)), some (.int (nI w)), some (.int (nI ex)), some (.int (nI k)), some (.int (nI lev)), w7] [] h1 Q := by
  have hdn := dg_nl (V := X) (by omega)
  have hX3 : X < 10 ^ (18 * w) := Nat.lt_of_lt_of_le (dg_lt X) (Nat.pow_le_pow_right (by decide) (by omega))
  have hX4 : 10 ^ (18 * (w - 1)) ≤ X := Nat.le_trans (Nat.pow_le_pow_right (by decide) (by omega)) (dg_ge X hX)
  have stop : ∀ (s ex : Nat) (h1 : zd_H) (k lev : Int32) (w7 : Option Value), ex ≤ 1 → (ex = if s * s = X then 1 else 0) → IsS s X → Fg B h h1 (CL B RoE) 0 → Dvd B h1 36 → Ns B h1 37 226 → Ns B h1 40 226 → Ns B h1 42 226 → Ns B h1 44 226 → Nv B h1 51 226 s → zd_W l B m_Ro_extract 113 [some (.ref (zd_b0 B + 39)), some (.ref (zd_b0 B + 47)), some (.ref (zd_b0 B + 51)), some (.int (nI w)), some (.int (nI ex)), some (.int k), some (.int lev), w7] [] h1 Q := by
    intro s ex h1 k lev w7 e1 e2 e3 e4 e5 e6 e7 e8 e9 e10
    have := hq h1 s e4 e5 e6 e7 e8 e9 e3 e10
    rw [← e2] at this
    refine zd_go (ok_Ro_extract hG hl) [] 60 ?_
    conv => whnf
    refine ⟨?_, this, trivial⟩
    rcases (show ex = 0 ∨ ex = 1 by omega) with e | e <;> rw [e] <;> rfl
  intro e
  induction e with
  | zero =>
    intro k lev s ex h1 w7 he hk hlev hex hexk hs fr hr hO hD hT hX1 hH hA hR hF
    have : k = w := by omega
    subst this
    rw [Nat.sub_self, Nat.mul_zero, Nat.pow_zero, Nat.div_one] at hs
    refine zd_go (ok_Ro_extract hG hl) [113] 60 ?_
    conv => whnf
    refine ⟨fun z => absurd z (nI_ge (b := 226) (by omega) (by omega)), fun z => ?_⟩
    conv => whnf
    refine ⟨fun z => ?_, fun z => absurd (Int32.le_refl _) z⟩
    conv => whnf
    exact ⟨stop s ex h1 _ _ _ hex (hexk rfl) hs fr hD hT hH hA hR hF, trivial⟩
  | succ e ih =>
    intro k lev s ex h1 w7 he hk hlev hex hexk hs fr hr hO hD hT hX1 hH hA hR hF
    rcases (show k = w ∨ k < w by omega) with c | c
    · subst c
      rw [Nat.sub_self, Nat.mul_zero, Nat.pow_zero, Nat.div_one] at hs
      refine zd_go (ok_Ro_extract hG hl) [113] 60 ?_
      conv => whnf
      refine ⟨fun z => absurd z (nI_ge (b := 226) (by omega) (by omega)), fun z => ?_⟩
      conv => whnf
      refine ⟨fun z => ?_, fun z => absurd (Int32.le_refl _) z⟩
      conv => whnf
      exact ⟨stop s ex h1 _ _ _ hex (hexk rfl) hs fr hD hT hH hA hR hF, trivial⟩
    · obtain ⟨mx, hmx⟩ : ∃ mx, mx = (if k + 1 < 2 * k - 1 then 2 * k - 1 else k + 1) := ⟨_, rfl⟩
      obtain ⟨nx, hnx⟩ : ∃ nx, nx = (if mx < w then mx else w) := ⟨_, rfl⟩
      have hmx2 : k + 1 ≤ mx ∧ (mx = k + 1 ∨ (mx = 2 * k - 1 ∧ k + 1 < 2 * k - 1)) := by rw [hmx]; split <;> omega
      have hnx2 : k < nx ∧ nx ≤ w ∧ nx ≤ mx := by rw [hnx]; split <;> omega
      obtain ⟨dl, hdl⟩ : ∃ dl, nx = k + dl := ⟨nx - k, by omega⟩
      have em : (if nI k + 1 < 2 * nI k - 1 then 2 * nI k - 1 else nI k + 1) = nI mx := by
        have q1 : nI k + 1 = iI ((k : Int) + 1) := by rw [iI_nI, show (1 : Int32) = iI 1 from rfl, iI_add]
        have q2 : 2 * nI k - 1 = iI (2 * (k : Int) - 1) := by rw [iI_nI, show (1 : Int32) = iI 1 from rfl, show (2 : Int32) = iI 2 from rfl, iI_mul, iI_sub]
        rw [q1, q2]
        by_cases q : k + 1 < 2 * k - 1
        · rw [if_pos ((iI_lt ⟨by omega, by omega⟩ ⟨by omega, by omega⟩).mpr (by omega)), hmx, if_pos q, iI_nI]
          congr 1
          omega
        · rw [if_neg (fun z => q (by have := (iI_lt ⟨by omega, by omega⟩ ⟨by omega, by omega⟩).mp z; omega)), hmx, if_neg q, iI_nI]
          rfl
      have en : (if nI mx < nI w then nI mx else nI w) = nI nx := by
        rw [hnx]
        by_cases q : mx < w
        · rw [if_pos (nI_lt q (by omega)), if_pos q]
        · rw [if_neg (nI_nlt (by omega) (by omega)), if_neg q]
      obtain ⟨fsH, obH⟩ := hH.ob
      refine zd_go (ok_Ro_extract hG hl) [23] 60 ?_
      conv => whnf
      refine ⟨fun z => absurd z (nI_ge (b := 226) (by omega) (by omega)), fun z => ?_⟩
      conv => whnf
      refine ⟨fun z => absurd z (nI_ge (by omega) (by omega)), fun z => ?_⟩
      conv => whnf
      refine ⟨⟨rfl, Nat.le_of_ble_eq_true rfl, Nat.le_of_ble_eq_true rfl⟩, ?_⟩
      refine c_Ma_max hG hl ?_
      rw [em]
      conv => whnf
      refine ⟨⟨rfl, Nat.le_of_ble_eq_true rfl, Nat.le_of_ble_eq_true rfl⟩, ?_⟩
      refine c_Ma_min hG hl ?_
      rw [en]
      conv => whnf
      refine ⟨_, hO, ?_⟩
      conv => whnf
      refine ⟨⟨_, obH⟩, ⟨rfl, Nat.le_of_ble_eq_true rfl, Nat.le_of_ble_eq_true rfl⟩, ?_⟩
      refine v_copy hG hl hH hX1 (by omega) hr (fun h2 a1 a2 a3 => ?_) (fun h2 a1 a2 => absurd hX1.nl (by omega))
      have g2 := a2.mono (NS.cl (ks := [40, 41]) (by decide))
      have hO2 : Rtr B h2 := g2.obc hO (by decide)
      have hF2 := hF.kc g2 (by decide)
      have hr2 := hr.k0 g2
      obtain ⟨fsH2, obH2⟩ := a3.ob
      conv => whnf
      refine ⟨_, hO2, ?_⟩
      conv => whnf
      refine ⟨⟨_, obH2⟩, ⟨rfl, Nat.le_of_ble_eq_true rfl, Nat.le_of_ble_eq_true rfl⟩, ?_⟩
      have ep : (-18 : Int32) * (nI w - nI nx) = iI (-(18 * (w - nx) : Nat)) := by
        rw [pk_sub (by omega), iI_nI, show (-18 : Int32) = iI (-18) from rfl, iI_mul]
        congr 1
        try omega
      rw [ep]
      refine v_move hG hl a3 (by omega) hr2 (fun h3 lost b1 b2 b3 b4 b5 => ?_) (fun h3 b1 b2 => by omega)
      have eX : X * 10 ^ (-((18 * (w - nx) : Nat) : Int)).toNat / 10 ^ (-(-((18 * (w - nx) : Nat) : Int))).toNat = X / 10 ^ (18 * (w - nx)) := by
        rw [show (-((18 * (w - nx) : Nat) : Int)).toNat = 0 by omega, show (-(-((18 * (w - nx) : Nat) : Int))).toNat = 18 * (w - nx) by omega, Nat.pow_zero, Nat.mul_one]
      rw [eX] at b3
      obtain ⟨Xn, hXn⟩ : ∃ Xn, Xn = X / 10 ^ (18 * (w - nx)) := ⟨_, rfl⟩
      rw [← hXn] at b3
      have g3 := g2.tr0 (b2.mono (NS.cl (ks := [40, 41]) (by decide)))
      have hF3 := hF.kc g3 (by decide)
      have hr3 := hr.k0 g3
      -- the numbers
      have eXk : X / 10 ^ (18 * (w - k)) = Xn / (10 ^ (9 * dl) * 10 ^ (9 * dl)) := by
        rw [hXn, Nat.div_div_eq_div_mul, ← Nat.pow_add, ← Nat.pow_add]
        congr 2
        try omega
      rw [eXk] at hs
      obtain ⟨t, ht⟩ := IsS.ex Xn
      obtain ⟨p1, p2⟩ := ex_pure (Nat.pow_pos (by decide)) hs ht
      have hXn1 : Xn < 10 ^ (18 * nx) := by
        rw [hXn, Nat.div_lt_iff_lt_mul (Nat.pow_pos (by decide)), ← Nat.pow_add, show 18 * nx + 18 * (w - nx) = 18 * w by omega]
        exact hX3
      have hXn2 : 10 ^ (18 * (nx - 1)) ≤ Xn := by
        rw [hXn, Nat.le_div_iff_mul_le (Nat.pow_pos (by decide)), ← Nat.pow_add, show 18 * (nx - 1) + 18 * (w - nx) = 18 * (w - 1) by omega]
        exact hX4
      have hXn0 : 0 < Xn := Nat.lt_of_lt_of_le (Nat.pow_pos (by decide)) hXn2
      have hsk : s < 10 ^ (9 * k) := by
        refine sq_lt (Nat.lt_of_le_of_lt hs.1 ?_)
        rw [← eXk, Nat.div_lt_iff_lt_mul (Nat.pow_pos (by decide)), ← Nat.pow_add, ← Nat.pow_add, show 9 * k + 9 * k + 18 * (w - k) = 18 * w by omega]
        exact hX3
      have hf0 : (s + 1) * 10 ^ (9 * dl) ≤ 10 ^ (9 * nx) := by
        rw [hdl, Nat.mul_add, Nat.pow_add]
        exact Nat.mul_le_mul_right _ hsk
      have hnlf := nl_le hf0
      have hnls := nl_le (a := k) (V := s) (by omega)
      have hnls1 := nl_le (a := k) (V := s + 1) (by omega)
      have hdgs1 : dg (s + 1) ≤ 9 * k + 1 := dg_le (by
        have : (10 : Nat) ^ (9 * k) < 10 ^ (9 * k + 1) := Nat.pow_lt_pow_right (by decide) (by omega)
        omega) (by omega)
      have hbig : (s + 1) * 10 ^ (9 * dl) - t < 2 ^ 999 ∨ ((s + 1) * 10 ^ (9 * dl) - t) * ((s + 1) * 10 ^ (9 * dl) - t) ≤ t := by
        rcases (show dl = 1 ∨ dl + 1 ≤ k by omega) with q | q
        · left
          rw [q] at p2 ⊢
          have : (10 : Nat) ^ (9 * 1) < 2 ^ 999 := Nat.lt_of_lt_of_le (show (10 : Nat) ^ (9 * 1) < 2 ^ 30 by decide) (Nat.pow_le_pow_right (by decide) (by decide))
          omega
        · right
          have q1 := Nat.mul_le_mul p2 p2
          rw [← Nat.pow_add] at q1
          have q2 : 10 ^ (9 * (nx - 1)) < t + 1 := by
            refine sq_lt (Nat.lt_of_le_of_lt ?_ ht.2)
            rw [← Nat.pow_add, show 9 * (nx - 1) + 9 * (nx - 1) = 18 * (nx - 1) by omega]
            exact hXn2
          have q3 : (10 : Nat) ^ (9 * dl + 9 * dl) ≤ 10 ^ (9 * (nx - 1)) := Nat.pow_le_pow_right (by decide) (by omega)
          omega
      obtain ⟨fsF3, obF3⟩ := hF3.ob
      conv => whnf
      refine ⟨⟨_, obF3⟩, ⟨rfl, Nat.le_of_ble_eq_true rfl, Nat.le_of_ble_eq_true rfl⟩, ?_⟩
      refine v_increment hG hl hF3 hr3 (by omega) (fun h4 c1 c2 => ?_)
      have g4 := c1.mono (NS.cl (ks := [51, 52]) (by decide))
      have hr4 := hr3.k0 c1
      have hH4 := b3.kc g4 (by decide)
      obtain ⟨fsF4, obF4⟩ := c2.ob
      conv => whnf
      refine ⟨⟨_, obF4⟩, ⟨rfl, Nat.le_of_ble_eq_true rfl, Nat.le_of_ble_eq_true rfl⟩, ?_⟩
      have e9 : (9 : Int32) * (nI nx - nI k) = iI ((9 * dl : Nat) : Int) := by
        rw [pk_sub (by omega), iI_nI, show (9 : Int32) = iI 9 from rfl, iI_mul]
        congr 1
        try omega
      rw [e9]
      have hfit : (dg (s + 1) + ((9 * dl : Nat) : Int).toNat + 8) / 9 ≤ 226 := by omega
      refine v_move hG hl c2 (by omega) hr4 (fun h5 lost5 d1 d2 d3 d4 d5 => ?_) (fun h5 d1 d2 d3 => by omega)
      have eF : (s + 1) * 10 ^ ((9 * dl : Nat) : Int).toNat / 10 ^ (-((9 * dl : Nat) : Int)).toNat = (s + 1) * 10 ^ (9 * dl) := by
        rw [show ((9 * dl : Nat) : Int).toNat = 9 * dl by omega, show (-((9 * dl : Nat) : Int)).toNat = 0 by omega, Nat.pow_zero, Nat.div_one]
      rw [eF] at d3
      have g5 := (g3.mono (CL.mono (ks' := [40, 41, 51, 52]) (by decide))).tr0 ((c1.tr0 d2).mono (NS.cl (ks := [40, 41, 51, 52]) (by decide)))
      have hO5 : Rtr B h5 := g5.obc hO (by decide)
      have hD5 : Dvd B h5 36 := g5.obc hD (by decide)
      have hT5 := hT.kc g5 (by decide)
      have hX5 := hX1.kc g5 (by decide)
      have hA5 := hA.kc g5 (by decide)
      have hR5 := hR.kc g5 (by decide)
      have hH5 := hH4.kept d2 (NS_n (by omega)).1 (NS_n (by omega)).2
      have hr5 := hr.k0 g5
      have hnXn : nl Xn ≤ 224 := by
        refine Nat.le_trans (nl_mono ?_) hX2
        rw [hXn]
        exact Nat.div_le_self _ _
      conv => whnf
      refine ⟨⟨_, hO5⟩, ⟨rfl, Nat.le_of_ble_eq_true rfl, Nat.le_of_ble_eq_true rfl⟩, ?_⟩
      refine c_Ro_descend hG hl ht hXn0 hnXn hr5 hO5 hD5 hT5 hH5 hA5 hR5 d3 p1 (by omega) hbig (fun h6 e1 e2 e3 e4 e5 e6 => ?_)
      conv => whnf
      refine ⟨?_, trivial⟩
      have hO6 : Rtr B h6 := e1.obc hO5 (by decide)
      have := ih nx (lev + 1) t (if t * t = Xn then 1 else 0) h6 (some (.int (nI nx))) (by omega) (by omega) (by omega) (by split <;> omega) (fun q => by rw [hXn, q, Nat.sub_self, Nat.mul_zero, Nat.pow_zero, Nat.div_one]) (by rw [← hXn]; exact ht) ((fr.tr0 (g5.mono (CL.mono (by decide)))).tr0 (e1.mono (CL.mono (by decide)))) (hr5.k0 e1) hO6 e2 e3 (hX5.kc e1 (by decide)) (hH5.s.kc e1 (by decide)) e4 e5 e6
      rw [← nI_1 lev] at this
      exact this
theorem c_Ro_extract (hG : zd_G B) (hl : l.stackTraces = false) {X : Nat} (hX : 0 < X) (hX2 : nl X ≤ 224) (hr : Rm h) (hO : Rtr B h) (hD : Dvd B h 36) (hT : Ns B h 37 226) (hX1 : Nv B h 47 226 X) (hH : Ns B h 40 226) (hA : Ns B h 42 226) (hR : Ns B h 44 226) (hF : Ns B h 51 226)
    (hq : ∀ h' s, Fg B h h' (CL B RoE) 0 → Dvd B h' 36 → Ns B h' 37 226 → Ns B h' 40 226 → Ns B h' 42 226 → Ns B h' 44 226 → IsS s X → Nv B h' 51 226 s → Q (.inl (some (.int (nI (if s * s = X then 1 else 0))))) h') :
    zd_M l B m_Ro_extract [.ref (zd_b0 B + 39), .ref (zd_b0 B + 47), .ref (zd_b0 B + 51)] h Q := by
  obtain ⟨gx, nx, hN, hz, hv⟩ := hX1
  obtain ⟨gf, nf, hF0⟩ := hF
  have en := nl_eq hN.2.2.2.2 hz
  rw [hv] at en
  have hn0 : nl X ≠ 0 := fun q => by have := nl_eq0.mp q; omega
  have ew : (nI nx + 1) / 2 = nI ((nl X + 1) / 2) := by
    rw [nI_1, show (2 : Int32) = nI 2 from rfl, pk_div (by omega) (by omega) (by omega), en]
  refine zd_go (ok_Ro_extract hG hl) [23] 60 ?_
  conv => whnf
  refine ⟨_, hN.1, ?_⟩
  conv => whnf
  refine ⟨by decide, ?_⟩
  conv => whnf
  refine ⟨⟨_, hF0.1⟩, ⟨rfl, Nat.le_of_ble_eq_true rfl, Nat.le_of_ble_eq_true rfl⟩, ?_⟩
  refine c_Na_claim (w := 0) hG hl hF0 (by omega) hr (fun h1 a1 a2 a3 => ?_) (fun h1 a1 a2 => by omega)
  have g1 := a2.mono (NS.cl (ks := [51, 52]) (by decide))
  have hdn := dg_nl (V := X) (by omega)
  have := w_Ro_ex23 hG hl hX hX2 rfl hq ((nl X + 1) / 2) 0 0 0 0 h1 none (by omega) (by omega) (by omega) (by omega) (fun q => by omega) (by
      rw [Nat.div_eq_of_lt (Nat.lt_of_lt_of_le (dg_lt X) (Nat.pow_le_pow_right (by decide) (by omega)))]
      exact ⟨by decide, by decide⟩) (g1.mono (CL.mono (by decide))) (hr.k0 g1) (g1.obc hO (by decide)) (g1.obc hD (by decide)) (hT.kc g1 (by decide)) (Nv.kc ⟨gx, nx, hN, hz, hv⟩ g1 (by decide)) (hH.kc g1 (by decide)) (hA.kc g1 (by decide)) (hR.kc g1 (by decide)) ⟨gf, 0, a3, Or.inl rfl, rfl⟩
  rw [← ew, nI_0] at this
  conv => whnf
  exact ⟨this, trivial⟩
end RB
end
section
/-! Decimal and Rough -/
def bI (b : Bool) : Int32 := cond b 1 0
theorem bI_z {b : Bool} : bI b = 0 ↔ b = false := by cases b <;> simp [bI]
def Dc (B : zd_B) (h : zd_H) (k : Nat) (neg : Bool) (V : Nat) (s : Int) : Prop := zd_Ob B h (zd_b0 B + k) 1 [.ref (zd_b0 B + (k + 1)), .int (bI neg), .int (iI s)] ∧ Nv B h (k + 1) 112 V
def Ru (B : zd_B) (h : zd_H) (neg : Bool) (V : Nat) (s : Int) (lost : Bool) : Prop := zd_Ob B h (zd_b0 B + 46) 6 [.ref (zd_b0 B + 47), .int (bI neg), .int (iI s), .int (bI lost)] ∧ Nv B h 47 226 V
/-- Rough, whatever it holds -/
def RuS (B : zd_B) (h : zd_H) : Prop := ∃ a b c : Int32, zd_Ob B h (zd_b0 B + 46) 6 [.ref (zd_b0 B + 47), .int a, .int b, .int c] ∧ Ns B h 47 226
theorem Ru.s {B : zd_B} {h : zd_H} {neg lost : Bool} {V : Nat} {s : Int} (a : Ru B h neg V s lost) : RuS B h := ⟨_, _, _, a.1, a.2.s⟩
theorem Ru.keptE {B : zd_B} {h h' : zd_H} {neg lost : Bool} {V d : Nat} {s : Int} (a : Ru B h neg V s lost) (f : Fg B h h' E0 d) : Ru B h' neg V s lost := ⟨f.ob a.1 (fun z => z), a.2.keptE f⟩
theorem Ru.kc {B : zd_B} {h h' : zd_H} {neg lost : Bool} {V d : Nat} {s : Int} {ks : List Nat} (a : Ru B h neg V s lost) (f : Fg B h h' (CL B ks) d) (hk : (ks.contains 46 || (ks.contains 47 || ks.contains 48)) = false) : Ru B h' neg V s lost := by
  obtain ⟨h1, h2⟩ := Bool.or_eq_false_iff.mp hk
  exact ⟨f.obc a.1 h1, a.2.kc f h2⟩
theorem Dc.kc {B : zd_B} {h h' : zd_H} {neg : Bool} {k V d : Nat} {s : Int} {ks : List Nat} (a : Dc B h k neg V s) (f : Fg B h h' (CL B ks) d) (hk : (ks.contains k || (ks.contains (k + 1) || ks.contains (k + 1 + 1))) = false) : Dc B h' k neg V s := by
  obtain ⟨h1, h2⟩ := Bool.or_eq_false_iff.mp hk
  exact ⟨f.obc a.1 h1, a.2.kc f h2⟩
/-- cut, or lengthened, from the scale s to the scale w -/
def cutV (V : Nat) (s w : Int) : Nat := V * 10 ^ (w - s).toNat / 10 ^ (s - w).toNat
def cutL (V : Nat) (s w : Int) : Bool := decide (V % 10 ^ (s - w).toNat ≠ 0)
/-- outwards, or not -/
def outw (md : Nat) (neg : Bool) (guard : Nat) (beyond : Bool) (q : Nat) : Bool :=
  match md with
  | 0 => true
  | 2 => !neg
  | 3 => neg
  | 4 => decide (5 ≤ guard)
  | 5 => decide (5 < guard) || (decide (guard = 5) && beyond)
  | 6 => decide (5 < guard) || (decide (guard = 5) && (beyond || decide (q % 10 % 2 ≠ 0)))
  | _ => false
/-- q, and guard and beyond behind it, rounded -/
def rnd (md : Nat) (neg : Bool) (q guard : Nat) (beyond : Bool) : Option Nat := if guard = 0 ∧ beyond = false then some q else if md = 7 then none else some (q + (outw md neg guard beyond q).toNat)
section UA
variable {l : Launch} {B : zd_B} {h : zd_H} {Q : zd_O → zd_H → Prop}
theorem c_Dc_sign (hG : zd_G B) (hl : l.stackTraces = false) {k V : Nat} {neg : Bool} {s : Int} (hD : Dc B h k neg V s) (hq : Q (.inl (some (.int (iI (if V = 0 then 0 else if neg then -1 else 1))))) h) : zd_M l B m_Dc_sign [.ref (zd_b0 B + k)] h Q := by
  obtain ⟨fs, ob⟩ := hD.2.ob
  refine zd_go (ok_Dc_sign hG hl) [] 60 ?_
  conv => whnf
  refine ⟨_, hD.1, ?_⟩
  conv => whnf
  refine ⟨⟨_, ob⟩, ⟨rfl, Nat.le_of_ble_eq_true rfl, Nat.le_of_ble_eq_true rfl⟩, ?_⟩
  refine v_isZero hG hl hD.2 ?_
  by_cases e : V = 0
  · rw [if_pos e] at hq ⊢
    conv => whnf
    refine ⟨fun z => absurd z (by decide), fun z => ?_⟩
    conv => whnf
    refine ⟨rfl, ?_, trivial⟩
    exact hq
  · rw [if_neg e] at hq ⊢
    conv => whnf
    refine ⟨fun z => ?_, fun z => absurd rfl z⟩
    conv => whnf
    refine ⟨_, hD.1, ?_⟩
    conv => whnf
    cases neg
    · refine ⟨fun z => ?_, fun z => absurd rfl z⟩
      conv => whnf
      refine ⟨rfl, ?_, trivial⟩
      exact hq
    · refine ⟨fun z => absurd z (by decide), fun z => ?_⟩
      conv => whnf
      refine ⟨rfl, ?_, trivial⟩
      exact hq
theorem c_Ru_describe (hG : zd_G B) (hl : l.stackTraces = false) {neg : Bool} {s : Int} (hR : RuS B h)
    (hq : ∀ h', Fg B h h' (CL B [46]) 0 → zd_Ob B h' (zd_b0 B + 46) 6 [.ref (zd_b0 B + 47), .int (bI neg), .int (iI s), .int (bI false)] → Q (.inl none) h') : zd_M l B m_Ru_describe [.ref (zd_b0 B + 46), .int (bI neg), .int (iI s)] h Q := by
  obtain ⟨a, b, c, ho, hN⟩ := hR
  have s46 : CL B [46] (zd_b0 B + 46) := ⟨46, by decide, rfl⟩
  refine zd_go (ok_Ru_describe hG hl) [] 60 ?_
  conv => whnf
  refine ⟨_, ho, Nat.le_of_ble_eq_true rfl, by cases neg <;> exact ⟨rfl, rfl⟩, ?_⟩
  conv => whnf
  refine ⟨_, ⟨ho.1, zd_set_s⟩, Nat.le_of_ble_eq_true rfl, ⟨rfl, rfl⟩, ?_⟩
  conv => whnf
  refine ⟨_, ⟨ho.1, zd_set_s⟩, Nat.le_of_ble_eq_true rfl, ⟨rfl, rfl⟩, ?_⟩
  conv => whnf
  exact ⟨hq _ (((Fg.set s46).set2 s46).set2 s46) ⟨ho.1, zd_set_s⟩, trivial⟩
theorem c_Ru_take (hG : zd_G B) (hl : l.stackTraces = false) {k V : Nat} {neg : Bool} {s : Int} (hR : RuS B h) (hD : Dc B h k neg V s) (hk : k + 2 < 46) (hr : Rm h)
    (hq : ∀ h', Fg B h h' (CL B [46, 47, 48]) 0 → Ru B h' neg V s false → Q (.inl none) h') : zd_M l B m_Ru_take [.ref (zd_b0 B + 46), .ref (zd_b0 B + k)] h Q := by
  obtain ⟨a, b, c, ho, hN⟩ := hR
  obtain ⟨fs, ob⟩ := hN.ob
  refine zd_go (ok_Ru_take hG hl) [] 60 ?_
  conv => whnf
  refine ⟨_, ho, ?_⟩
  conv => whnf
  refine ⟨_, hD.1, ?_⟩
  conv => whnf
  refine ⟨⟨_, ob⟩, ⟨rfl, Nat.le_of_ble_eq_true rfl, Nat.le_of_ble_eq_true rfl⟩, ?_⟩
  refine v_copy hG hl hN hD.2 (by omega) hr (fun h1 a1 a2 a3 => ?_) (fun h1 a1 a2 => absurd hD.2.nl (by omega))
  have d1 := a2.ob hD.1 (NS_o (by omega))
  have o1 := a2.ob ho (NS_o (by omega))
  conv => whnf
  refine ⟨_, d1, ?_⟩
  conv => whnf
  refine ⟨_, d1, ?_⟩
  conv => whnf
  refine ⟨⟨_, o1⟩, ⟨rfl, Nat.le_of_ble_eq_true rfl, Nat.le_of_ble_eq_true rfl⟩, ?_⟩
  refine c_Ru_describe hG hl ⟨_, _, _, o1, a3.s⟩ (fun h2 b1 b2 => ?_)
  conv => whnf
  exact ⟨hq h2 ((a2.mono (NS.cl (by decide))).tr0 (b1.mono (CL.mono (by decide)))) ⟨b2, a3.kc b1 (by decide)⟩, trivial⟩
theorem c_Ru_cutTo (hG : zd_G B) (hl : l.stackTraces = false) {V : Nat} {neg lost : Bool} {s w : Int} (hR : Ru B h neg V s lost) (hs : iR s) (hw : iR w) (hp : -100000 < w - s ∧ w - s < 100000) (hr : Rm h)
    (hq : ∀ h', (V = 0 ∨ w ≤ s ∨ (dg V + (w - s).toNat + 8) / 9 ≤ 226) → Fg B h h' (CL B [46, 47, 48]) 0 → Ru B h' neg (cutV V s w) w (lost || cutL V s w) → Q (.inl none) h')
    (hth : ∀ h', V ≠ 0 → s < w → 226 < (dg V + (w - s).toNat + 8) / 9 → Fx B h h' E0 11 → Q (.inr (zd_b0 B + h.1, 11)) h') : zd_M l B m_Ru_cutTo [.ref (zd_b0 B + 46), .int (iI w)] h Q := by
  obtain ⟨fs, ob⟩ := hR.2.ob
  have s46 : CL B [46, 47, 48] (zd_b0 B + 46) := ⟨46, by decide, rfl⟩
  refine zd_go (ok_Ru_cutTo hG hl) [31] 60 ?_
  conv => whnf
  refine ⟨_, hR.1, ?_⟩
  conv => whnf
  refine ⟨_, hR.1, ?_⟩
  conv => whnf
  refine ⟨⟨_, ob⟩, ⟨rfl, Nat.le_of_ble_eq_true rfl, Nat.le_of_ble_eq_true rfl⟩, ?_⟩
  rw [iI_sub]
  refine v_move hG hl hR.2 hp hr (fun h1 ls a1 a2 a3 a4 a5 => ?_) (fun h1 a1 a2 a3 a4 => hth h1 a1 (by omega) a3 a4)
  have o1 := a2.ob hR.1 (NS_o (by omega))
  rw [show -(w - s) = s - w by omega] at a3 a5
  have fin : zd_W l B m_Ru_cutTo 31 [some (.ref (zd_b0 B + 46)), some (.int (iI w)), some (.int (nI ls))] [.int (bI (lost || cutL V s w)), .ref (zd_b0 B + 46)] h1 Q := by
    refine zd_go (ok_Ru_cutTo hG hl) [] 60 ?_
    conv => whnf
    refine ⟨_, o1, Nat.le_of_ble_eq_true rfl, by cases (lost || cutL V s w) <;> exact ⟨rfl, rfl⟩, ?_⟩
    conv => whnf
    refine ⟨_, ⟨o1.1, zd_set_s⟩, Nat.le_of_ble_eq_true rfl, ⟨rfl, rfl⟩, ?_⟩
    conv => whnf
    have ff : Fg B h1 (zd_set (zd_set h1 (zd_b0 B + 46) (.inl (6, [.ref (zd_b0 B + 47), .int (bI neg), .int (iI s), .int (bI (lost || cutL V s w))]))) (zd_b0 B + 46) (.inl (6, [.ref (zd_b0 B + 47), .int (bI neg), .int (iI w), .int (bI (lost || cutL V s w))]))) (CL B [46]) 0 := (Fg.set ⟨46, by decide, rfl⟩).set2 ⟨46, by decide, rfl⟩
    refine ⟨hq _ ?_ ((a2.mono (NS.cl (by decide))).tr0 (ff.mono (CL.mono (by decide)))) ⟨⟨o1.1, zd_set_s⟩, a3.kc ff (by decide)⟩, trivial⟩
    rcases a1 with q | q | q
    · exact Or.inl q
    · exact Or.inr (Or.inl (by omega))
    · exact Or.inr (Or.inr q)
  conv => whnf
  refine ⟨_, o1, ?_⟩
  conv => whnf
  cases lost
  · refine ⟨fun z => absurd rfl z, fun z => ?_⟩
    conv => whnf
    by_cases e : ls = 1
    · have el : cutL V s w = true := decide_eq_true (a5.mp e)
      rw [el] at fin
      subst e
      refine ⟨fun z => absurd z (by decide), fun z => ?_⟩
      conv => whnf
      exact ⟨fin, trivial⟩
    · have el : cutL V s w = false := decide_eq_false (fun q => e (a5.mpr q))
      have e0 : ls = 0 := by omega
      rw [el] at fin
      subst e0
      refine ⟨fun z => ?_, fun z => absurd nI_0 z⟩
      conv => whnf
      exact ⟨fin, trivial⟩
  · refine ⟨fun z => ?_, fun z => absurd z (by decide)⟩
    conv => whnf
    exact ⟨fin, trivial⟩
end UA
end
