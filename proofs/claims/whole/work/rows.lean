section
-- ===== PART A: goes FIRST, ahead of the names: the tables' words, and 'selects' of the private methods out of them =====
/-- a private method of a class that the tables say can be made, by its rows of tables_1 -/
def lw_okq (q : MethodName × Nat) : Prop := (q.1.cls ≠ "java/lang/invoke/MethodHandle" ∧ q.1.cls ≠ "java/lang/invoke/VarHandle") ∧ Cond.instantiable q.1.cls q.2 ∈ tables_1 ∧ Cond.privateMethod q.1 ∈ tables_1 ∧ Cond.instanceMethod q.1 ∈ tables_1
theorem lw_p0 : lw_okq (⟨"LightYearsAreOwed$Reader", "advance", "()V"⟩, 8) := ⟨⟨by decide +kernel, by decide +kernel⟩, List.mem_of_getElem? (i := 143) (by decide +kernel), List.mem_of_getElem? (i := 276) (by decide +kernel), List.mem_of_getElem? (i := 277) (by decide +kernel)⟩
theorem lw_p1 : lw_okq (⟨"LightYearsAreOwed$Reader", "byteAt", "(I)I"⟩, 8) := ⟨⟨by decide +kernel, by decide +kernel⟩, List.mem_of_getElem? (i := 143) (by decide +kernel), List.mem_of_getElem? (i := 280) (by decide +kernel), List.mem_of_getElem? (i := 281) (by decide +kernel)⟩
theorem lw_p2 : lw_okq (⟨"LightYearsAreOwed$Reader", "readWord", "()V"⟩, 8) := ⟨⟨by decide +kernel, by decide +kernel⟩, List.mem_of_getElem? (i := 143) (by decide +kernel), List.mem_of_getElem? (i := 287) (by decide +kernel), List.mem_of_getElem? (i := 288) (by decide +kernel)⟩
theorem lw_p3 : lw_okq (⟨"LightYearsAreOwed$Reader", "isWord", "(II)Z"⟩, 8) := ⟨⟨by decide +kernel, by decide +kernel⟩, List.mem_of_getElem? (i := 143) (by decide +kernel), List.mem_of_getElem? (i := 294) (by decide +kernel), List.mem_of_getElem? (i := 295) (by decide +kernel)⟩
theorem lw_p4 : lw_okq (⟨"LightYearsAreOwed$Reader", "readNumber", "()V"⟩, 8) := ⟨⟨by decide +kernel, by decide +kernel⟩, List.mem_of_getElem? (i := 143) (by decide +kernel), List.mem_of_getElem? (i := 301) (by decide +kernel), List.mem_of_getElem? (i := 302) (by decide +kernel)⟩
theorem lw_p5 : lw_okq (⟨"LightYearsAreOwed$Reader", "expect", "(I)V"⟩, 8) := ⟨⟨by decide +kernel, by decide +kernel⟩, List.mem_of_getElem? (i := 143) (by decide +kernel), List.mem_of_getElem? (i := 308) (by decide +kernel), List.mem_of_getElem? (i := 309) (by decide +kernel)⟩
theorem lw_p6 : lw_okq (⟨"LightYearsAreOwed$Reader", "fail", "()V"⟩, 8) := ⟨⟨by decide +kernel, by decide +kernel⟩, List.mem_of_getElem? (i := 143) (by decide +kernel), List.mem_of_getElem? (i := 312) (by decide +kernel), List.mem_of_getElem? (i := 313) (by decide +kernel)⟩
theorem lw_p7 : lw_okq (⟨"LightYearsAreOwed$Reader", "readEither", "(I)V"⟩, 8) := ⟨⟨by decide +kernel, by decide +kernel⟩, List.mem_of_getElem? (i := 143) (by decide +kernel), List.mem_of_getElem? (i := 316) (by decide +kernel), List.mem_of_getElem? (i := 317) (by decide +kernel)⟩
theorem lw_p8 : lw_okq (⟨"LightYearsAreOwed$Reader", "readBoth", "(I)V"⟩, 8) := ⟨⟨by decide +kernel, by decide +kernel⟩, List.mem_of_getElem? (i := 143) (by decide +kernel), List.mem_of_getElem? (i := 320) (by decide +kernel), List.mem_of_getElem? (i := 321) (by decide +kernel)⟩
theorem lw_p9 : lw_okq (⟨"LightYearsAreOwed$Reader", "readNot", "(I)V"⟩, 8) := ⟨⟨by decide +kernel, by decide +kernel⟩, List.mem_of_getElem? (i := 143) (by decide +kernel), List.mem_of_getElem? (i := 324) (by decide +kernel), List.mem_of_getElem? (i := 325) (by decide +kernel)⟩
theorem lw_p10 : lw_okq (⟨"LightYearsAreOwed$Reader", "opens", "(I)Z"⟩, 8) := ⟨⟨by decide +kernel, by decide +kernel⟩, List.mem_of_getElem? (i := 143) (by decide +kernel), List.mem_of_getElem? (i := 328) (by decide +kernel), List.mem_of_getElem? (i := 329) (by decide +kernel)⟩
theorem lw_p11 : lw_okq (⟨"LightYearsAreOwed$Reader", "readSum", "(I)V"⟩, 8) := ⟨⟨by decide +kernel, by decide +kernel⟩, List.mem_of_getElem? (i := 143) (by decide +kernel), List.mem_of_getElem? (i := 340) (by decide +kernel), List.mem_of_getElem? (i := 341) (by decide +kernel)⟩
theorem lw_p12 : lw_okq (⟨"LightYearsAreOwed$Reader", "readTerm", "(I)V"⟩, 8) := ⟨⟨by decide +kernel, by decide +kernel⟩, List.mem_of_getElem? (i := 143) (by decide +kernel), List.mem_of_getElem? (i := 344) (by decide +kernel), List.mem_of_getElem? (i := 345) (by decide +kernel)⟩
theorem lw_p13 : lw_okq (⟨"LightYearsAreOwed$Reader", "readOne", "(I)V"⟩, 8) := ⟨⟨by decide +kernel, by decide +kernel⟩, List.mem_of_getElem? (i := 143) (by decide +kernel), List.mem_of_getElem? (i := 348) (by decide +kernel), List.mem_of_getElem? (i := 349) (by decide +kernel)⟩
theorem lw_p14 : lw_okq (⟨"LightYearsAreOwed", "placesOf", "(I)[I"⟩, 9) := ⟨⟨by decide +kernel, by decide +kernel⟩, List.mem_of_getElem? (i := 17) (by decide +kernel), List.mem_of_getElem? (i := 402) (by decide +kernel), List.mem_of_getElem? (i := 403) (by decide +kernel)⟩
theorem lw_p15 : lw_okq (⟨"LightYearsAreOwed", "placeCount", "(I)I"⟩, 9) := ⟨⟨by decide +kernel, by decide +kernel⟩, List.mem_of_getElem? (i := 17) (by decide +kernel), List.mem_of_getElem? (i := 406) (by decide +kernel), List.mem_of_getElem? (i := 407) (by decide +kernel)⟩
def lw_privs_1 : List (MethodName × Nat) := [(⟨"LightYearsAreOwed$Reader", "advance", "()V"⟩, 8), (⟨"LightYearsAreOwed$Reader", "byteAt", "(I)I"⟩, 8), (⟨"LightYearsAreOwed$Reader", "readWord", "()V"⟩, 8), (⟨"LightYearsAreOwed$Reader", "isWord", "(II)Z"⟩, 8), (⟨"LightYearsAreOwed$Reader", "readNumber", "()V"⟩, 8), (⟨"LightYearsAreOwed$Reader", "expect", "(I)V"⟩, 8), (⟨"LightYearsAreOwed$Reader", "fail", "()V"⟩, 8), (⟨"LightYearsAreOwed$Reader", "readEither", "(I)V"⟩, 8), (⟨"LightYearsAreOwed$Reader", "readBoth", "(I)V"⟩, 8), (⟨"LightYearsAreOwed$Reader", "readNot", "(I)V"⟩, 8), (⟨"LightYearsAreOwed$Reader", "opens", "(I)Z"⟩, 8), (⟨"LightYearsAreOwed$Reader", "readSum", "(I)V"⟩, 8), (⟨"LightYearsAreOwed$Reader", "readTerm", "(I)V"⟩, 8), (⟨"LightYearsAreOwed$Reader", "readOne", "(I)V"⟩, 8), (⟨"LightYearsAreOwed", "placesOf", "(I)[I"⟩, 9), (⟨"LightYearsAreOwed", "placeCount", "(I)I"⟩, 9)]
theorem lw_r1 : ∀ q ∈ lw_privs_1, lw_okq q := List.forall_mem_cons.mpr ⟨lw_p0, List.forall_mem_cons.mpr ⟨lw_p1, List.forall_mem_cons.mpr ⟨lw_p2, List.forall_mem_cons.mpr ⟨lw_p3, List.forall_mem_cons.mpr ⟨lw_p4, List.forall_mem_cons.mpr ⟨lw_p5, List.forall_mem_cons.mpr ⟨lw_p6, List.forall_mem_cons.mpr ⟨lw_p7, List.forall_mem_cons.mpr ⟨lw_p8, List.forall_mem_cons.mpr ⟨lw_p9, List.forall_mem_cons.mpr ⟨lw_p10, List.forall_mem_cons.mpr ⟨lw_p11, List.forall_mem_cons.mpr ⟨lw_p12, List.forall_mem_cons.mpr ⟨lw_p13, List.forall_mem_cons.mpr ⟨lw_p14, List.forall_mem_cons.mpr ⟨lw_p15, fun _ h => absurd h List.not_mem_nil⟩⟩⟩⟩⟩⟩⟩⟩⟩⟩⟩⟩⟩⟩⟩⟩
theorem lw_p16 : lw_okq (⟨"LightYearsAreOwed", "isLight", "(I)Z"⟩, 9) := ⟨⟨by decide +kernel, by decide +kernel⟩, List.mem_of_getElem? (i := 17) (by decide +kernel), List.mem_of_getElem? (i := 428) (by decide +kernel), List.mem_of_getElem? (i := 429) (by decide +kernel)⟩
theorem lw_p17 : lw_okq (⟨"LightYearsAreOwed", "toldOfLooker", "(II)I"⟩, 9) := ⟨⟨by decide +kernel, by decide +kernel⟩, List.mem_of_getElem? (i := 17) (by decide +kernel), List.mem_of_getElem? (i := 436) (by decide +kernel), List.mem_of_getElem? (i := 437) (by decide +kernel)⟩
theorem lw_p18 : lw_okq (⟨"LightYearsAreOwed", "allOf", "(II)I"⟩, 9) := ⟨⟨by decide +kernel, by decide +kernel⟩, List.mem_of_getElem? (i := 17) (by decide +kernel), List.mem_of_getElem? (i := 440) (by decide +kernel), List.mem_of_getElem? (i := 441) (by decide +kernel)⟩
theorem lw_p19 : lw_okq (⟨"LightYearsAreOwed", "openBill", "(I)V"⟩, 9) := ⟨⟨by decide +kernel, by decide +kernel⟩, List.mem_of_getElem? (i := 17) (by decide +kernel), List.mem_of_getElem? (i := 444) (by decide +kernel), List.mem_of_getElem? (i := 445) (by decide +kernel)⟩
theorem lw_p20 : lw_okq (⟨"LightYearsAreOwed", "ruleOf", "(I)LLightYearsAreOwed$Rule;"⟩, 9) := ⟨⟨by decide +kernel, by decide +kernel⟩, List.mem_of_getElem? (i := 17) (by decide +kernel), List.mem_of_getElem? (i := 448) (by decide +kernel), List.mem_of_getElem? (i := 449) (by decide +kernel)⟩
theorem lw_p21 : lw_okq (⟨"LightYearsAreOwed$Bill", "giveNames", "(I)I"⟩, 9) := ⟨⟨by decide +kernel, by decide +kernel⟩, List.mem_of_getElem? (i := 175) (by decide +kernel), List.mem_of_getElem? (i := 467) (by decide +kernel), List.mem_of_getElem? (i := 468) (by decide +kernel)⟩
theorem lw_p22 : lw_okq (⟨"LightYearsAreOwed$Bill", "due", "(III)I"⟩, 9) := ⟨⟨by decide +kernel, by decide +kernel⟩, List.mem_of_getElem? (i := 175) (by decide +kernel), List.mem_of_getElem? (i := 488) (by decide +kernel), List.mem_of_getElem? (i := 489) (by decide +kernel)⟩
theorem lw_p23 : lw_okq (⟨"LightYearsAreOwed$Bill", "extra", "(III)I"⟩, 9) := ⟨⟨by decide +kernel, by decide +kernel⟩, List.mem_of_getElem? (i := 175) (by decide +kernel), List.mem_of_getElem? (i := 495) (by decide +kernel), List.mem_of_getElem? (i := 496) (by decide +kernel)⟩
theorem lw_p24 : lw_okq (⟨"LightYearsAreOwed$Bill", "off", "(II)I"⟩, 9) := ⟨⟨by decide +kernel, by decide +kernel⟩, List.mem_of_getElem? (i := 175) (by decide +kernel), List.mem_of_getElem? (i := 499) (by decide +kernel), List.mem_of_getElem? (i := 500) (by decide +kernel)⟩
theorem lw_p25 : lw_okq (⟨"LightYearsAreOwed", "allTogether", "(I)I"⟩, 9) := ⟨⟨by decide +kernel, by decide +kernel⟩, List.mem_of_getElem? (i := 17) (by decide +kernel), List.mem_of_getElem? (i := 537) (by decide +kernel), List.mem_of_getElem? (i := 538) (by decide +kernel)⟩
theorem lw_p26 : lw_okq (⟨"LightYearsAreOwed", "whoOwesMost", "()I"⟩, 9) := ⟨⟨by decide +kernel, by decide +kernel⟩, List.mem_of_getElem? (i := 17) (by decide +kernel), List.mem_of_getElem? (i := 541) (by decide +kernel), List.mem_of_getElem? (i := 542) (by decide +kernel)⟩
theorem lw_p27 : lw_okq (⟨"LightYearsAreOwed$Purse", "keep", "(IIII)V"⟩, 3) := ⟨⟨by decide +kernel, by decide +kernel⟩, List.mem_of_getElem? (i := 85) (by decide +kernel), List.mem_of_getElem? (i := 561) (by decide +kernel), List.mem_of_getElem? (i := 562) (by decide +kernel)⟩
theorem lw_p28 : lw_okq (⟨"LightYearsAreOwed", "whoOwe", "(I)I"⟩, 9) := ⟨⟨by decide +kernel, by decide +kernel⟩, List.mem_of_getElem? (i := 17) (by decide +kernel), List.mem_of_getElem? (i := 590) (by decide +kernel), List.mem_of_getElem? (i := 591) (by decide +kernel)⟩
theorem lw_p29 : lw_okq (⟨"LightYearsAreOwed", "firstAt", "(II)I"⟩, 9) := ⟨⟨by decide +kernel, by decide +kernel⟩, List.mem_of_getElem? (i := 17) (by decide +kernel), List.mem_of_getElem? (i := 599) (by decide +kernel), List.mem_of_getElem? (i := 600) (by decide +kernel)⟩
theorem lw_p30 : lw_okq (⟨"LightYearsAreOwed", "textsThatFit", "(LLightYearsAreOwed$Row;)I"⟩, 9) := ⟨⟨by decide +kernel, by decide +kernel⟩, List.mem_of_getElem? (i := 17) (by decide +kernel), List.mem_of_getElem? (i := 618) (by decide +kernel), List.mem_of_getElem? (i := 619) (by decide +kernel)⟩
theorem lw_p31 : lw_okq (⟨"LightYearsAreOwed", "cloudsThatFit", "(LLightYearsAreOwed$Row;)I"⟩, 9) := ⟨⟨by decide +kernel, by decide +kernel⟩, List.mem_of_getElem? (i := 17) (by decide +kernel), List.mem_of_getElem? (i := 622) (by decide +kernel), List.mem_of_getElem? (i := 623) (by decide +kernel)⟩
def lw_privs_2 : List (MethodName × Nat) := [(⟨"LightYearsAreOwed", "isLight", "(I)Z"⟩, 9), (⟨"LightYearsAreOwed", "toldOfLooker", "(II)I"⟩, 9), (⟨"LightYearsAreOwed", "allOf", "(II)I"⟩, 9), (⟨"LightYearsAreOwed", "openBill", "(I)V"⟩, 9), (⟨"LightYearsAreOwed", "ruleOf", "(I)LLightYearsAreOwed$Rule;"⟩, 9), (⟨"LightYearsAreOwed$Bill", "giveNames", "(I)I"⟩, 9), (⟨"LightYearsAreOwed$Bill", "due", "(III)I"⟩, 9), (⟨"LightYearsAreOwed$Bill", "extra", "(III)I"⟩, 9), (⟨"LightYearsAreOwed$Bill", "off", "(II)I"⟩, 9), (⟨"LightYearsAreOwed", "allTogether", "(I)I"⟩, 9), (⟨"LightYearsAreOwed", "whoOwesMost", "()I"⟩, 9), (⟨"LightYearsAreOwed$Purse", "keep", "(IIII)V"⟩, 3), (⟨"LightYearsAreOwed", "whoOwe", "(I)I"⟩, 9), (⟨"LightYearsAreOwed", "firstAt", "(II)I"⟩, 9), (⟨"LightYearsAreOwed", "textsThatFit", "(LLightYearsAreOwed$Row;)I"⟩, 9), (⟨"LightYearsAreOwed", "cloudsThatFit", "(LLightYearsAreOwed$Row;)I"⟩, 9)]
theorem lw_r2 : ∀ q ∈ lw_privs_2, lw_okq q := List.forall_mem_cons.mpr ⟨lw_p16, List.forall_mem_cons.mpr ⟨lw_p17, List.forall_mem_cons.mpr ⟨lw_p18, List.forall_mem_cons.mpr ⟨lw_p19, List.forall_mem_cons.mpr ⟨lw_p20, List.forall_mem_cons.mpr ⟨lw_p21, List.forall_mem_cons.mpr ⟨lw_p22, List.forall_mem_cons.mpr ⟨lw_p23, List.forall_mem_cons.mpr ⟨lw_p24, List.forall_mem_cons.mpr ⟨lw_p25, List.forall_mem_cons.mpr ⟨lw_p26, List.forall_mem_cons.mpr ⟨lw_p27, List.forall_mem_cons.mpr ⟨lw_p28, List.forall_mem_cons.mpr ⟨lw_p29, List.forall_mem_cons.mpr ⟨lw_p30, List.forall_mem_cons.mpr ⟨lw_p31, fun _ h => absurd h List.not_mem_nil⟩⟩⟩⟩⟩⟩⟩⟩⟩⟩⟩⟩⟩⟩⟩⟩
theorem lw_p32 : lw_okq (⟨"LightYearsAreOwed", "traitsThatFit", "(LLightYearsAreOwed$Row;II)I"⟩, 9) := ⟨⟨by decide +kernel, by decide +kernel⟩, List.mem_of_getElem? (i := 17) (by decide +kernel), List.mem_of_getElem? (i := 626) (by decide +kernel), List.mem_of_getElem? (i := 627) (by decide +kernel)⟩
theorem lw_p33 : lw_okq (⟨"LightYearsAreOwedModel", "spell", "(IIIIIIIII)V"⟩, 50) := ⟨⟨by decide +kernel, by decide +kernel⟩, List.mem_of_getElem? (i := 712) (by decide +kernel), List.mem_of_getElem? (i := 718) (by decide +kernel), List.mem_of_getElem? (i := 719) (by decide +kernel)⟩
theorem lw_p34 : lw_okq (⟨"LightYearsAreOwedModel", "isOf", "(II)Z"⟩, 50) := ⟨⟨by decide +kernel, by decide +kernel⟩, List.mem_of_getElem? (i := 712) (by decide +kernel), List.mem_of_getElem? (i := 881) (by decide +kernel), List.mem_of_getElem? (i := 882) (by decide +kernel)⟩
theorem lw_p35 : lw_okq (⟨"LightYearsAreOwedModel", "isLight", "(I)Z"⟩, 50) := ⟨⟨by decide +kernel, by decide +kernel⟩, List.mem_of_getElem? (i := 712) (by decide +kernel), List.mem_of_getElem? (i := 885) (by decide +kernel), List.mem_of_getElem? (i := 886) (by decide +kernel)⟩
theorem lw_p36 : lw_okq (⟨"LightYearsAreOwedModel", "allOf", "(I)I"⟩, 50) := ⟨⟨by decide +kernel, by decide +kernel⟩, List.mem_of_getElem? (i := 712) (by decide +kernel), List.mem_of_getElem? (i := 902) (by decide +kernel), List.mem_of_getElem? (i := 903) (by decide +kernel)⟩
theorem lw_p37 : lw_okq (⟨"LightYearsAreOwedModel", "plainOf", "(I)I"⟩, 50) := ⟨⟨by decide +kernel, by decide +kernel⟩, List.mem_of_getElem? (i := 712) (by decide +kernel), List.mem_of_getElem? (i := 906) (by decide +kernel), List.mem_of_getElem? (i := 907) (by decide +kernel)⟩
theorem lw_p38 : lw_okq (⟨"LightYearsAreOwedModel", "owesFor", "(II)I"⟩, 50) := ⟨⟨by decide +kernel, by decide +kernel⟩, List.mem_of_getElem? (i := 712) (by decide +kernel), List.mem_of_getElem? (i := 910) (by decide +kernel), List.mem_of_getElem? (i := 911) (by decide +kernel)⟩
theorem lw_p39 : lw_okq (⟨"LightYearsAreOwedModel", "nightsOf", "(II)I"⟩, 50) := ⟨⟨by decide +kernel, by decide +kernel⟩, List.mem_of_getElem? (i := 712) (by decide +kernel), List.mem_of_getElem? (i := 914) (by decide +kernel), List.mem_of_getElem? (i := 915) (by decide +kernel)⟩
theorem lw_p40 : lw_okq (⟨"LightYearsAreOwedModel", "extraOf", "(II)I"⟩, 50) := ⟨⟨by decide +kernel, by decide +kernel⟩, List.mem_of_getElem? (i := 712) (by decide +kernel), List.mem_of_getElem? (i := 921) (by decide +kernel), List.mem_of_getElem? (i := 922) (by decide +kernel)⟩
theorem lw_p41 : lw_okq (⟨"LightYearsAreOwedModel", "asks", "(IIII)I"⟩, 50) := ⟨⟨by decide +kernel, by decide +kernel⟩, List.mem_of_getElem? (i := 712) (by decide +kernel), List.mem_of_getElem? (i := 925) (by decide +kernel), List.mem_of_getElem? (i := 926) (by decide +kernel)⟩
theorem lw_p42 : lw_okq (⟨"LightYearsAreOwedModel", "lightMany", "(I)I"⟩, 50) := ⟨⟨by decide +kernel, by decide +kernel⟩, List.mem_of_getElem? (i := 712) (by decide +kernel), List.mem_of_getElem? (i := 929) (by decide +kernel), List.mem_of_getElem? (i := 930) (by decide +kernel)⟩
theorem lw_p43 : lw_okq (⟨"LightYearsAreOwedModel", "read", "(II)I"⟩, 50) := ⟨⟨by decide +kernel, by decide +kernel⟩, List.mem_of_getElem? (i := 712) (by decide +kernel), List.mem_of_getElem? (i := 933) (by decide +kernel), List.mem_of_getElem? (i := 934) (by decide +kernel)⟩
theorem lw_p44 : lw_okq (⟨"LightYearsAreOwedModel", "next", "()V"⟩, 50) := ⟨⟨by decide +kernel, by decide +kernel⟩, List.mem_of_getElem? (i := 712) (by decide +kernel), List.mem_of_getElem? (i := 937) (by decide +kernel), List.mem_of_getElem? (i := 938) (by decide +kernel)⟩
theorem lw_p45 : lw_okq (⟨"LightYearsAreOwedModel", "byteAt", "(I)I"⟩, 50) := ⟨⟨by decide +kernel, by decide +kernel⟩, List.mem_of_getElem? (i := 712) (by decide +kernel), List.mem_of_getElem? (i := 941) (by decide +kernel), List.mem_of_getElem? (i := 942) (by decide +kernel)⟩
theorem lw_p46 : lw_okq (⟨"LightYearsAreOwedModel", "isWord", "(IIIIIIII)Z"⟩, 50) := ⟨⟨by decide +kernel, by decide +kernel⟩, List.mem_of_getElem? (i := 712) (by decide +kernel), List.mem_of_getElem? (i := 950) (by decide +kernel), List.mem_of_getElem? (i := 951) (by decide +kernel)⟩
theorem lw_p47 : lw_okq (⟨"LightYearsAreOwedModel", "isLetter", "(II)Z"⟩, 50) := ⟨⟨by decide +kernel, by decide +kernel⟩, List.mem_of_getElem? (i := 712) (by decide +kernel), List.mem_of_getElem? (i := 954) (by decide +kernel), List.mem_of_getElem? (i := 955) (by decide +kernel)⟩
def lw_privs_3 : List (MethodName × Nat) := [(⟨"LightYearsAreOwed", "traitsThatFit", "(LLightYearsAreOwed$Row;II)I"⟩, 9), (⟨"LightYearsAreOwedModel", "spell", "(IIIIIIIII)V"⟩, 50), (⟨"LightYearsAreOwedModel", "isOf", "(II)Z"⟩, 50), (⟨"LightYearsAreOwedModel", "isLight", "(I)Z"⟩, 50), (⟨"LightYearsAreOwedModel", "allOf", "(I)I"⟩, 50), (⟨"LightYearsAreOwedModel", "plainOf", "(I)I"⟩, 50), (⟨"LightYearsAreOwedModel", "owesFor", "(II)I"⟩, 50), (⟨"LightYearsAreOwedModel", "nightsOf", "(II)I"⟩, 50), (⟨"LightYearsAreOwedModel", "extraOf", "(II)I"⟩, 50), (⟨"LightYearsAreOwedModel", "asks", "(IIII)I"⟩, 50), (⟨"LightYearsAreOwedModel", "lightMany", "(I)I"⟩, 50), (⟨"LightYearsAreOwedModel", "read", "(II)I"⟩, 50), (⟨"LightYearsAreOwedModel", "next", "()V"⟩, 50), (⟨"LightYearsAreOwedModel", "byteAt", "(I)I"⟩, 50), (⟨"LightYearsAreOwedModel", "isWord", "(IIIIIIII)Z"⟩, 50), (⟨"LightYearsAreOwedModel", "isLetter", "(II)Z"⟩, 50)]
theorem lw_r3 : ∀ q ∈ lw_privs_3, lw_okq q := List.forall_mem_cons.mpr ⟨lw_p32, List.forall_mem_cons.mpr ⟨lw_p33, List.forall_mem_cons.mpr ⟨lw_p34, List.forall_mem_cons.mpr ⟨lw_p35, List.forall_mem_cons.mpr ⟨lw_p36, List.forall_mem_cons.mpr ⟨lw_p37, List.forall_mem_cons.mpr ⟨lw_p38, List.forall_mem_cons.mpr ⟨lw_p39, List.forall_mem_cons.mpr ⟨lw_p40, List.forall_mem_cons.mpr ⟨lw_p41, List.forall_mem_cons.mpr ⟨lw_p42, List.forall_mem_cons.mpr ⟨lw_p43, List.forall_mem_cons.mpr ⟨lw_p44, List.forall_mem_cons.mpr ⟨lw_p45, List.forall_mem_cons.mpr ⟨lw_p46, List.forall_mem_cons.mpr ⟨lw_p47, fun _ h => absurd h List.not_mem_nil⟩⟩⟩⟩⟩⟩⟩⟩⟩⟩⟩⟩⟩⟩⟩⟩
theorem lw_p48 : lw_okq (⟨"LightYearsAreOwedModel", "part", "(Z)I"⟩, 50) := ⟨⟨by decide +kernel, by decide +kernel⟩, List.mem_of_getElem? (i := 712) (by decide +kernel), List.mem_of_getElem? (i := 958) (by decide +kernel), List.mem_of_getElem? (i := 959) (by decide +kernel)⟩
theorem lw_p49 : lw_okq (⟨"LightYearsAreOwedModel", "fail", "()V"⟩, 50) := ⟨⟨by decide +kernel, by decide +kernel⟩, List.mem_of_getElem? (i := 712) (by decide +kernel), List.mem_of_getElem? (i := 962) (by decide +kernel), List.mem_of_getElem? (i := 963) (by decide +kernel)⟩
theorem lw_p50 : lw_okq (⟨"LightYearsAreOwedModel", "either0", "()I"⟩, 50) := ⟨⟨by decide +kernel, by decide +kernel⟩, List.mem_of_getElem? (i := 712) (by decide +kernel), List.mem_of_getElem? (i := 966) (by decide +kernel), List.mem_of_getElem? (i := 967) (by decide +kernel)⟩
theorem lw_p51 : lw_okq (⟨"LightYearsAreOwedModel", "both0", "()I"⟩, 50) := ⟨⟨by decide +kernel, by decide +kernel⟩, List.mem_of_getElem? (i := 712) (by decide +kernel), List.mem_of_getElem? (i := 970) (by decide +kernel), List.mem_of_getElem? (i := 971) (by decide +kernel)⟩
theorem lw_p52 : lw_okq (⟨"LightYearsAreOwedModel", "not0", "()I"⟩, 50) := ⟨⟨by decide +kernel, by decide +kernel⟩, List.mem_of_getElem? (i := 712) (by decide +kernel), List.mem_of_getElem? (i := 974) (by decide +kernel), List.mem_of_getElem? (i := 975) (by decide +kernel)⟩
theorem lw_p53 : lw_okq (⟨"LightYearsAreOwedModel", "opens", "()Z"⟩, 50) := ⟨⟨by decide +kernel, by decide +kernel⟩, List.mem_of_getElem? (i := 712) (by decide +kernel), List.mem_of_getElem? (i := 978) (by decide +kernel), List.mem_of_getElem? (i := 979) (by decide +kernel)⟩
theorem lw_p54 : lw_okq (⟨"LightYearsAreOwedModel", "not1", "()I"⟩, 50) := ⟨⟨by decide +kernel, by decide +kernel⟩, List.mem_of_getElem? (i := 712) (by decide +kernel), List.mem_of_getElem? (i := 982) (by decide +kernel), List.mem_of_getElem? (i := 983) (by decide +kernel)⟩
theorem lw_p55 : lw_okq (⟨"LightYearsAreOwedModel", "not2", "()I"⟩, 50) := ⟨⟨by decide +kernel, by decide +kernel⟩, List.mem_of_getElem? (i := 712) (by decide +kernel), List.mem_of_getElem? (i := 986) (by decide +kernel), List.mem_of_getElem? (i := 987) (by decide +kernel)⟩
theorem lw_p56 : lw_okq (⟨"LightYearsAreOwedModel", "not3", "()I"⟩, 50) := ⟨⟨by decide +kernel, by decide +kernel⟩, List.mem_of_getElem? (i := 712) (by decide +kernel), List.mem_of_getElem? (i := 990) (by decide +kernel), List.mem_of_getElem? (i := 991) (by decide +kernel)⟩
theorem lw_p57 : lw_okq (⟨"LightYearsAreOwedModel", "not4", "()I"⟩, 50) := ⟨⟨by decide +kernel, by decide +kernel⟩, List.mem_of_getElem? (i := 712) (by decide +kernel), List.mem_of_getElem? (i := 994) (by decide +kernel), List.mem_of_getElem? (i := 995) (by decide +kernel)⟩
theorem lw_p58 : lw_okq (⟨"LightYearsAreOwedModel", "not5", "()I"⟩, 50) := ⟨⟨by decide +kernel, by decide +kernel⟩, List.mem_of_getElem? (i := 712) (by decide +kernel), List.mem_of_getElem? (i := 998) (by decide +kernel), List.mem_of_getElem? (i := 999) (by decide +kernel)⟩
theorem lw_p59 : lw_okq (⟨"LightYearsAreOwedModel", "added5", "()I"⟩, 50) := ⟨⟨by decide +kernel, by decide +kernel⟩, List.mem_of_getElem? (i := 712) (by decide +kernel), List.mem_of_getElem? (i := 1002) (by decide +kernel), List.mem_of_getElem? (i := 1003) (by decide +kernel)⟩
theorem lw_p60 : lw_okq (⟨"LightYearsAreOwedModel", "term5", "()I"⟩, 50) := ⟨⟨by decide +kernel, by decide +kernel⟩, List.mem_of_getElem? (i := 712) (by decide +kernel), List.mem_of_getElem? (i := 1006) (by decide +kernel), List.mem_of_getElem? (i := 1007) (by decide +kernel)⟩
theorem lw_p61 : lw_okq (⟨"LightYearsAreOwedModel", "atom5", "()I"⟩, 50) := ⟨⟨by decide +kernel, by decide +kernel⟩, List.mem_of_getElem? (i := 712) (by decide +kernel), List.mem_of_getElem? (i := 1010) (by decide +kernel), List.mem_of_getElem? (i := 1011) (by decide +kernel)⟩
theorem lw_p62 : lw_okq (⟨"LightYearsAreOwedModel", "isSign", "(I)Z"⟩, 50) := ⟨⟨by decide +kernel, by decide +kernel⟩, List.mem_of_getElem? (i := 712) (by decide +kernel), List.mem_of_getElem? (i := 1014) (by decide +kernel), List.mem_of_getElem? (i := 1015) (by decide +kernel)⟩
theorem lw_p63 : lw_okq (⟨"LightYearsAreOwedModel", "name", "()I"⟩, 50) := ⟨⟨by decide +kernel, by decide +kernel⟩, List.mem_of_getElem? (i := 712) (by decide +kernel), List.mem_of_getElem? (i := 1018) (by decide +kernel), List.mem_of_getElem? (i := 1019) (by decide +kernel)⟩
def lw_privs_4 : List (MethodName × Nat) := [(⟨"LightYearsAreOwedModel", "part", "(Z)I"⟩, 50), (⟨"LightYearsAreOwedModel", "fail", "()V"⟩, 50), (⟨"LightYearsAreOwedModel", "either0", "()I"⟩, 50), (⟨"LightYearsAreOwedModel", "both0", "()I"⟩, 50), (⟨"LightYearsAreOwedModel", "not0", "()I"⟩, 50), (⟨"LightYearsAreOwedModel", "opens", "()Z"⟩, 50), (⟨"LightYearsAreOwedModel", "not1", "()I"⟩, 50), (⟨"LightYearsAreOwedModel", "not2", "()I"⟩, 50), (⟨"LightYearsAreOwedModel", "not3", "()I"⟩, 50), (⟨"LightYearsAreOwedModel", "not4", "()I"⟩, 50), (⟨"LightYearsAreOwedModel", "not5", "()I"⟩, 50), (⟨"LightYearsAreOwedModel", "added5", "()I"⟩, 50), (⟨"LightYearsAreOwedModel", "term5", "()I"⟩, 50), (⟨"LightYearsAreOwedModel", "atom5", "()I"⟩, 50), (⟨"LightYearsAreOwedModel", "isSign", "(I)Z"⟩, 50), (⟨"LightYearsAreOwedModel", "name", "()I"⟩, 50)]
theorem lw_r4 : ∀ q ∈ lw_privs_4, lw_okq q := List.forall_mem_cons.mpr ⟨lw_p48, List.forall_mem_cons.mpr ⟨lw_p49, List.forall_mem_cons.mpr ⟨lw_p50, List.forall_mem_cons.mpr ⟨lw_p51, List.forall_mem_cons.mpr ⟨lw_p52, List.forall_mem_cons.mpr ⟨lw_p53, List.forall_mem_cons.mpr ⟨lw_p54, List.forall_mem_cons.mpr ⟨lw_p55, List.forall_mem_cons.mpr ⟨lw_p56, List.forall_mem_cons.mpr ⟨lw_p57, List.forall_mem_cons.mpr ⟨lw_p58, List.forall_mem_cons.mpr ⟨lw_p59, List.forall_mem_cons.mpr ⟨lw_p60, List.forall_mem_cons.mpr ⟨lw_p61, List.forall_mem_cons.mpr ⟨lw_p62, List.forall_mem_cons.mpr ⟨lw_p63, fun _ h => absurd h List.not_mem_nil⟩⟩⟩⟩⟩⟩⟩⟩⟩⟩⟩⟩⟩⟩⟩⟩
theorem lw_p64 : lw_okq (⟨"LightYearsAreOwedModel", "added4", "()I"⟩, 50) := ⟨⟨by decide +kernel, by decide +kernel⟩, List.mem_of_getElem? (i := 712) (by decide +kernel), List.mem_of_getElem? (i := 1024) (by decide +kernel), List.mem_of_getElem? (i := 1025) (by decide +kernel)⟩
theorem lw_p65 : lw_okq (⟨"LightYearsAreOwedModel", "term4", "()I"⟩, 50) := ⟨⟨by decide +kernel, by decide +kernel⟩, List.mem_of_getElem? (i := 712) (by decide +kernel), List.mem_of_getElem? (i := 1028) (by decide +kernel), List.mem_of_getElem? (i := 1029) (by decide +kernel)⟩
theorem lw_p66 : lw_okq (⟨"LightYearsAreOwedModel", "atom4", "()I"⟩, 50) := ⟨⟨by decide +kernel, by decide +kernel⟩, List.mem_of_getElem? (i := 712) (by decide +kernel), List.mem_of_getElem? (i := 1032) (by decide +kernel), List.mem_of_getElem? (i := 1033) (by decide +kernel)⟩
theorem lw_p67 : lw_okq (⟨"LightYearsAreOwedModel", "either5", "()I"⟩, 50) := ⟨⟨by decide +kernel, by decide +kernel⟩, List.mem_of_getElem? (i := 712) (by decide +kernel), List.mem_of_getElem? (i := 1036) (by decide +kernel), List.mem_of_getElem? (i := 1037) (by decide +kernel)⟩
theorem lw_p68 : lw_okq (⟨"LightYearsAreOwedModel", "both5", "()I"⟩, 50) := ⟨⟨by decide +kernel, by decide +kernel⟩, List.mem_of_getElem? (i := 712) (by decide +kernel), List.mem_of_getElem? (i := 1040) (by decide +kernel), List.mem_of_getElem? (i := 1041) (by decide +kernel)⟩
theorem lw_p69 : lw_okq (⟨"LightYearsAreOwedModel", "added3", "()I"⟩, 50) := ⟨⟨by decide +kernel, by decide +kernel⟩, List.mem_of_getElem? (i := 712) (by decide +kernel), List.mem_of_getElem? (i := 1044) (by decide +kernel), List.mem_of_getElem? (i := 1045) (by decide +kernel)⟩
theorem lw_p70 : lw_okq (⟨"LightYearsAreOwedModel", "term3", "()I"⟩, 50) := ⟨⟨by decide +kernel, by decide +kernel⟩, List.mem_of_getElem? (i := 712) (by decide +kernel), List.mem_of_getElem? (i := 1048) (by decide +kernel), List.mem_of_getElem? (i := 1049) (by decide +kernel)⟩
theorem lw_p71 : lw_okq (⟨"LightYearsAreOwedModel", "atom3", "()I"⟩, 50) := ⟨⟨by decide +kernel, by decide +kernel⟩, List.mem_of_getElem? (i := 712) (by decide +kernel), List.mem_of_getElem? (i := 1052) (by decide +kernel), List.mem_of_getElem? (i := 1053) (by decide +kernel)⟩
theorem lw_p72 : lw_okq (⟨"LightYearsAreOwedModel", "either4", "()I"⟩, 50) := ⟨⟨by decide +kernel, by decide +kernel⟩, List.mem_of_getElem? (i := 712) (by decide +kernel), List.mem_of_getElem? (i := 1056) (by decide +kernel), List.mem_of_getElem? (i := 1057) (by decide +kernel)⟩
theorem lw_p73 : lw_okq (⟨"LightYearsAreOwedModel", "both4", "()I"⟩, 50) := ⟨⟨by decide +kernel, by decide +kernel⟩, List.mem_of_getElem? (i := 712) (by decide +kernel), List.mem_of_getElem? (i := 1060) (by decide +kernel), List.mem_of_getElem? (i := 1061) (by decide +kernel)⟩
theorem lw_p74 : lw_okq (⟨"LightYearsAreOwedModel", "added2", "()I"⟩, 50) := ⟨⟨by decide +kernel, by decide +kernel⟩, List.mem_of_getElem? (i := 712) (by decide +kernel), List.mem_of_getElem? (i := 1064) (by decide +kernel), List.mem_of_getElem? (i := 1065) (by decide +kernel)⟩
theorem lw_p75 : lw_okq (⟨"LightYearsAreOwedModel", "term2", "()I"⟩, 50) := ⟨⟨by decide +kernel, by decide +kernel⟩, List.mem_of_getElem? (i := 712) (by decide +kernel), List.mem_of_getElem? (i := 1068) (by decide +kernel), List.mem_of_getElem? (i := 1069) (by decide +kernel)⟩
theorem lw_p76 : lw_okq (⟨"LightYearsAreOwedModel", "atom2", "()I"⟩, 50) := ⟨⟨by decide +kernel, by decide +kernel⟩, List.mem_of_getElem? (i := 712) (by decide +kernel), List.mem_of_getElem? (i := 1072) (by decide +kernel), List.mem_of_getElem? (i := 1073) (by decide +kernel)⟩
theorem lw_p77 : lw_okq (⟨"LightYearsAreOwedModel", "either3", "()I"⟩, 50) := ⟨⟨by decide +kernel, by decide +kernel⟩, List.mem_of_getElem? (i := 712) (by decide +kernel), List.mem_of_getElem? (i := 1076) (by decide +kernel), List.mem_of_getElem? (i := 1077) (by decide +kernel)⟩
theorem lw_p78 : lw_okq (⟨"LightYearsAreOwedModel", "both3", "()I"⟩, 50) := ⟨⟨by decide +kernel, by decide +kernel⟩, List.mem_of_getElem? (i := 712) (by decide +kernel), List.mem_of_getElem? (i := 1080) (by decide +kernel), List.mem_of_getElem? (i := 1081) (by decide +kernel)⟩
theorem lw_p79 : lw_okq (⟨"LightYearsAreOwedModel", "added1", "()I"⟩, 50) := ⟨⟨by decide +kernel, by decide +kernel⟩, List.mem_of_getElem? (i := 712) (by decide +kernel), List.mem_of_getElem? (i := 1084) (by decide +kernel), List.mem_of_getElem? (i := 1085) (by decide +kernel)⟩
def lw_privs_5 : List (MethodName × Nat) := [(⟨"LightYearsAreOwedModel", "added4", "()I"⟩, 50), (⟨"LightYearsAreOwedModel", "term4", "()I"⟩, 50), (⟨"LightYearsAreOwedModel", "atom4", "()I"⟩, 50), (⟨"LightYearsAreOwedModel", "either5", "()I"⟩, 50), (⟨"LightYearsAreOwedModel", "both5", "()I"⟩, 50), (⟨"LightYearsAreOwedModel", "added3", "()I"⟩, 50), (⟨"LightYearsAreOwedModel", "term3", "()I"⟩, 50), (⟨"LightYearsAreOwedModel", "atom3", "()I"⟩, 50), (⟨"LightYearsAreOwedModel", "either4", "()I"⟩, 50), (⟨"LightYearsAreOwedModel", "both4", "()I"⟩, 50), (⟨"LightYearsAreOwedModel", "added2", "()I"⟩, 50), (⟨"LightYearsAreOwedModel", "term2", "()I"⟩, 50), (⟨"LightYearsAreOwedModel", "atom2", "()I"⟩, 50), (⟨"LightYearsAreOwedModel", "either3", "()I"⟩, 50), (⟨"LightYearsAreOwedModel", "both3", "()I"⟩, 50), (⟨"LightYearsAreOwedModel", "added1", "()I"⟩, 50)]
theorem lw_r5 : ∀ q ∈ lw_privs_5, lw_okq q := List.forall_mem_cons.mpr ⟨lw_p64, List.forall_mem_cons.mpr ⟨lw_p65, List.forall_mem_cons.mpr ⟨lw_p66, List.forall_mem_cons.mpr ⟨lw_p67, List.forall_mem_cons.mpr ⟨lw_p68, List.forall_mem_cons.mpr ⟨lw_p69, List.forall_mem_cons.mpr ⟨lw_p70, List.forall_mem_cons.mpr ⟨lw_p71, List.forall_mem_cons.mpr ⟨lw_p72, List.forall_mem_cons.mpr ⟨lw_p73, List.forall_mem_cons.mpr ⟨lw_p74, List.forall_mem_cons.mpr ⟨lw_p75, List.forall_mem_cons.mpr ⟨lw_p76, List.forall_mem_cons.mpr ⟨lw_p77, List.forall_mem_cons.mpr ⟨lw_p78, List.forall_mem_cons.mpr ⟨lw_p79, fun _ h => absurd h List.not_mem_nil⟩⟩⟩⟩⟩⟩⟩⟩⟩⟩⟩⟩⟩⟩⟩⟩
theorem lw_p80 : lw_okq (⟨"LightYearsAreOwedModel", "term1", "()I"⟩, 50) := ⟨⟨by decide +kernel, by decide +kernel⟩, List.mem_of_getElem? (i := 712) (by decide +kernel), List.mem_of_getElem? (i := 1088) (by decide +kernel), List.mem_of_getElem? (i := 1089) (by decide +kernel)⟩
theorem lw_p81 : lw_okq (⟨"LightYearsAreOwedModel", "atom1", "()I"⟩, 50) := ⟨⟨by decide +kernel, by decide +kernel⟩, List.mem_of_getElem? (i := 712) (by decide +kernel), List.mem_of_getElem? (i := 1092) (by decide +kernel), List.mem_of_getElem? (i := 1093) (by decide +kernel)⟩
theorem lw_p82 : lw_okq (⟨"LightYearsAreOwedModel", "either2", "()I"⟩, 50) := ⟨⟨by decide +kernel, by decide +kernel⟩, List.mem_of_getElem? (i := 712) (by decide +kernel), List.mem_of_getElem? (i := 1096) (by decide +kernel), List.mem_of_getElem? (i := 1097) (by decide +kernel)⟩
theorem lw_p83 : lw_okq (⟨"LightYearsAreOwedModel", "both2", "()I"⟩, 50) := ⟨⟨by decide +kernel, by decide +kernel⟩, List.mem_of_getElem? (i := 712) (by decide +kernel), List.mem_of_getElem? (i := 1100) (by decide +kernel), List.mem_of_getElem? (i := 1101) (by decide +kernel)⟩
theorem lw_p84 : lw_okq (⟨"LightYearsAreOwedModel", "added0", "()I"⟩, 50) := ⟨⟨by decide +kernel, by decide +kernel⟩, List.mem_of_getElem? (i := 712) (by decide +kernel), List.mem_of_getElem? (i := 1104) (by decide +kernel), List.mem_of_getElem? (i := 1105) (by decide +kernel)⟩
theorem lw_p85 : lw_okq (⟨"LightYearsAreOwedModel", "term0", "()I"⟩, 50) := ⟨⟨by decide +kernel, by decide +kernel⟩, List.mem_of_getElem? (i := 712) (by decide +kernel), List.mem_of_getElem? (i := 1108) (by decide +kernel), List.mem_of_getElem? (i := 1109) (by decide +kernel)⟩
theorem lw_p86 : lw_okq (⟨"LightYearsAreOwedModel", "atom0", "()I"⟩, 50) := ⟨⟨by decide +kernel, by decide +kernel⟩, List.mem_of_getElem? (i := 712) (by decide +kernel), List.mem_of_getElem? (i := 1112) (by decide +kernel), List.mem_of_getElem? (i := 1113) (by decide +kernel)⟩
theorem lw_p87 : lw_okq (⟨"LightYearsAreOwedModel", "either1", "()I"⟩, 50) := ⟨⟨by decide +kernel, by decide +kernel⟩, List.mem_of_getElem? (i := 712) (by decide +kernel), List.mem_of_getElem? (i := 1116) (by decide +kernel), List.mem_of_getElem? (i := 1117) (by decide +kernel)⟩
theorem lw_p88 : lw_okq (⟨"LightYearsAreOwedModel", "both1", "()I"⟩, 50) := ⟨⟨by decide +kernel, by decide +kernel⟩, List.mem_of_getElem? (i := 712) (by decide +kernel), List.mem_of_getElem? (i := 1120) (by decide +kernel), List.mem_of_getElem? (i := 1121) (by decide +kernel)⟩
theorem lw_p89 : lw_okq (⟨"LightYearsAreOwedModel", "offOf", "(II)I"⟩, 50) := ⟨⟨by decide +kernel, by decide +kernel⟩, List.mem_of_getElem? (i := 712) (by decide +kernel), List.mem_of_getElem? (i := 1127) (by decide +kernel), List.mem_of_getElem? (i := 1128) (by decide +kernel)⟩
theorem lw_p90 : lw_okq (⟨"LightYearsAreOwedModel", "dueOf", "(III)I"⟩, 50) := ⟨⟨by decide +kernel, by decide +kernel⟩, List.mem_of_getElem? (i := 712) (by decide +kernel), List.mem_of_getElem? (i := 1131) (by decide +kernel), List.mem_of_getElem? (i := 1132) (by decide +kernel)⟩
theorem lw_p91 : lw_okq (⟨"LightYearsAreOwedModel", "lays", "(III)V"⟩, 50) := ⟨⟨by decide +kernel, by decide +kernel⟩, List.mem_of_getElem? (i := 712) (by decide +kernel), List.mem_of_getElem? (i := 1136) (by decide +kernel), List.mem_of_getElem? (i := 1137) (by decide +kernel)⟩
theorem lw_p92 : lw_okq (⟨"LightYearsAreOwedModel", "allSum", "()I"⟩, 50) := ⟨⟨by decide +kernel, by decide +kernel⟩, List.mem_of_getElem? (i := 712) (by decide +kernel), List.mem_of_getElem? (i := 1174) (by decide +kernel), List.mem_of_getElem? (i := 1175) (by decide +kernel)⟩
theorem lw_p93 : lw_okq (⟨"LightYearsAreOwedModel", "sums", "()V"⟩, 50) := ⟨⟨by decide +kernel, by decide +kernel⟩, List.mem_of_getElem? (i := 712) (by decide +kernel), List.mem_of_getElem? (i := 1182) (by decide +kernel), List.mem_of_getElem? (i := 1183) (by decide +kernel)⟩
theorem lw_p94 : lw_okq (⟨"LightYearsAreOwedModel", "fewestFor", "(I)I"⟩, 50) := ⟨⟨by decide +kernel, by decide +kernel⟩, List.mem_of_getElem? (i := 712) (by decide +kernel), List.mem_of_getElem? (i := 1187) (by decide +kernel), List.mem_of_getElem? (i := 1188) (by decide +kernel)⟩
theorem lw_p95 : lw_okq (⟨"LightYearsAreOwedModel", "firstOther", "(II)I"⟩, 50) := ⟨⟨by decide +kernel, by decide +kernel⟩, List.mem_of_getElem? (i := 712) (by decide +kernel), List.mem_of_getElem? (i := 1224) (by decide +kernel), List.mem_of_getElem? (i := 1225) (by decide +kernel)⟩
def lw_privs_6 : List (MethodName × Nat) := [(⟨"LightYearsAreOwedModel", "term1", "()I"⟩, 50), (⟨"LightYearsAreOwedModel", "atom1", "()I"⟩, 50), (⟨"LightYearsAreOwedModel", "either2", "()I"⟩, 50), (⟨"LightYearsAreOwedModel", "both2", "()I"⟩, 50), (⟨"LightYearsAreOwedModel", "added0", "()I"⟩, 50), (⟨"LightYearsAreOwedModel", "term0", "()I"⟩, 50), (⟨"LightYearsAreOwedModel", "atom0", "()I"⟩, 50), (⟨"LightYearsAreOwedModel", "either1", "()I"⟩, 50), (⟨"LightYearsAreOwedModel", "both1", "()I"⟩, 50), (⟨"LightYearsAreOwedModel", "offOf", "(II)I"⟩, 50), (⟨"LightYearsAreOwedModel", "dueOf", "(III)I"⟩, 50), (⟨"LightYearsAreOwedModel", "lays", "(III)V"⟩, 50), (⟨"LightYearsAreOwedModel", "allSum", "()I"⟩, 50), (⟨"LightYearsAreOwedModel", "sums", "()V"⟩, 50), (⟨"LightYearsAreOwedModel", "fewestFor", "(I)I"⟩, 50), (⟨"LightYearsAreOwedModel", "firstOther", "(II)I"⟩, 50)]
theorem lw_r6 : ∀ q ∈ lw_privs_6, lw_okq q := List.forall_mem_cons.mpr ⟨lw_p80, List.forall_mem_cons.mpr ⟨lw_p81, List.forall_mem_cons.mpr ⟨lw_p82, List.forall_mem_cons.mpr ⟨lw_p83, List.forall_mem_cons.mpr ⟨lw_p84, List.forall_mem_cons.mpr ⟨lw_p85, List.forall_mem_cons.mpr ⟨lw_p86, List.forall_mem_cons.mpr ⟨lw_p87, List.forall_mem_cons.mpr ⟨lw_p88, List.forall_mem_cons.mpr ⟨lw_p89, List.forall_mem_cons.mpr ⟨lw_p90, List.forall_mem_cons.mpr ⟨lw_p91, List.forall_mem_cons.mpr ⟨lw_p92, List.forall_mem_cons.mpr ⟨lw_p93, List.forall_mem_cons.mpr ⟨lw_p94, List.forall_mem_cons.mpr ⟨lw_p95, fun _ h => absurd h List.not_mem_nil⟩⟩⟩⟩⟩⟩⟩⟩⟩⟩⟩⟩⟩⟩⟩⟩
theorem lw_p96 : lw_okq (⟨"LightYearsAreOwedModel", "cloudsBy", "(II)I"⟩, 50) := ⟨⟨by decide +kernel, by decide +kernel⟩, List.mem_of_getElem? (i := 712) (by decide +kernel), List.mem_of_getElem? (i := 1228) (by decide +kernel), List.mem_of_getElem? (i := 1229) (by decide +kernel)⟩
theorem lw_p97 : lw_okq (⟨"LightYearsAreOwedModel", "allBy", "(I)I"⟩, 50) := ⟨⟨by decide +kernel, by decide +kernel⟩, List.mem_of_getElem? (i := 712) (by decide +kernel), List.mem_of_getElem? (i := 1245) (by decide +kernel), List.mem_of_getElem? (i := 1246) (by decide +kernel)⟩
def lw_privs_7 : List (MethodName × Nat) := [(⟨"LightYearsAreOwedModel", "cloudsBy", "(II)I"⟩, 50), (⟨"LightYearsAreOwedModel", "allBy", "(I)I"⟩, 50)]
theorem lw_r7 : ∀ q ∈ lw_privs_7, lw_okq q := List.forall_mem_cons.mpr ⟨lw_p96, List.forall_mem_cons.mpr ⟨lw_p97, fun _ h => absurd h List.not_mem_nil⟩⟩
def lw_privs : List (MethodName × Nat) := lw_privs_1 ++ (lw_privs_2 ++ (lw_privs_3 ++ (lw_privs_4 ++ (lw_privs_5 ++ (lw_privs_6 ++ (lw_privs_7))))))
def lw_tbl : List Cond := k2_sels lw_privs ++ tables_1
theorem lw_privs_ok : ∀ q ∈ lw_privs, lw_okq q := by
  show ∀ q ∈ lw_privs_1 ++ (lw_privs_2 ++ (lw_privs_3 ++ (lw_privs_4 ++ (lw_privs_5 ++ (lw_privs_6 ++ (lw_privs_7)))))), lw_okq q
  exact List.forall_mem_append.mpr ⟨lw_r1, List.forall_mem_append.mpr ⟨lw_r2, List.forall_mem_append.mpr ⟨lw_r3, List.forall_mem_append.mpr ⟨lw_r4, List.forall_mem_append.mpr ⟨lw_r5, List.forall_mem_append.mpr ⟨lw_r6, lw_r7⟩⟩⟩⟩⟩⟩
end
section
/-! ===== BEGIN words of one list among another's, by their places ===== -/
theorem goodIn_r {big : List Cond} (ws : List Cond) (ps : List Nat) (hp : ws = ps.filterMap (fun i => big[i]?)) (h : ws.all goodWord = true) : GoodIn big ws := by
  intro w hw
  have h1 := List.all_eq_true.mp h w hw
  rw [hp] at hw
  obtain ⟨i, -, hi⟩ := List.mem_filterMap.mp hw
  have hm : w ∈ big := by first | exact List.mem_of_getElem? hi | exact List.getElem?_mem hi
  exact ⟨hm, good_of_word h1⟩
theorem goodIn_app {big a b : List Cond} (ha : GoodIn big a) (hb : GoodIn big b) : GoodIn big (a ++ b) := fun w h => (List.mem_append.mp h).elim (ha w) (hb w)
theorem goodIn_ca {big a b : List Cond} {c : Cond} (ha : GoodIn big (c :: a)) (hb : GoodIn big b) : GoodIn big (c :: (a ++ b)) := fun w h => (List.mem_cons.mp h).elim (fun e => ha w (List.mem_cons.mpr (Or.inl e))) (fun h => (List.mem_append.mp h).elim (fun h => ha w (List.mem_cons.mpr (Or.inr h))) (hb w))
theorem goodIn_sub {big ws : List Cond} (hm : ∀ w ∈ ws, w ∈ big) (h : ws.all goodWord = true) : GoodIn big ws := fun w hw => ⟨hm w hw, good_of_word (List.all_eq_true.mp h w hw)⟩
/-! ===== END ===== -/

/-! ===== BEGIN printed: names, fields, word lists, decode rows ===== -/
def RX0 : String := "LightYearsAreOwed$Bill"
def TX0 : u_T := fun k => match k with
  | 0 => ("LightYearsAreOwed$Bill", "clouds", "I", false)
  | 1 => ("LightYearsAreOwed$Bill", "rule", "LLightYearsAreOwed$Rule;", false)
  | 2 => ("LightYearsAreOwed$Bill", "kinds", "[I", true)
  | 3 => ("LightYearsAreOwed$Bill", "numbers", "[I", true)
  | 4 => ("LightYearsAreOwed$Bill", "years", "[I", true)
  | 5 => ("LightYearsAreOwed$Bill", "seen", "[I", true)
  | 6 => ("LightYearsAreOwed$Bill", "lightCount", "I", false)
  | 7 => ("LightYearsAreOwed$Bill", "names", "[I", true)
  | _ => ("LightYearsAreOwed$Bill", "stack", "[I", true)
def tyX0 : Nat → FieldType := fun k => match k with
  | 0 => .int
  | 1 => .object "LightYearsAreOwed$Rule"
  | 2 => .array .int
  | 3 => .array .int
  | 4 => .array .int
  | 5 => .array .int
  | 6 => .int
  | 7 => .array .int
  | _ => .array .int
abbrev wsX00 : List Cond := u_ws RX0 TX0 9
theorem nmX0 : ∀ a, a < 9 → ∀ b, b < 9 → a ≠ b → (TX0 a).2.1 ≠ (TX0 b).2.1 := by decide +kernel
theorem tyX0_ok : ∀ k, k < 9 → parseFieldDescriptor (TX0 k).2.2.1 = some (tyX0 k) := by decide +kernel
abbrev cX0_init : ByteArray := prog_2_method_1_code
def yX0_init : MethodName := ⟨RX0, "<init>", "(LLightYearsAreOwed$Rule;)V"⟩
abbrev cX0_open : ByteArray := prog_2_method_2_code
def yX0_open : MethodName := ⟨RX0, "open", "(LLightYearsAreOwed$Sky;ILLightYearsAreOwed$Rule;)V"⟩
abbrev cX0_keepNights : ByteArray := prog_2_method_3_code
def yX0_keepNights : MethodName := ⟨RX0, "keepNights", "(I)V"⟩
abbrev cX0_lightsSeen : ByteArray := prog_2_method_4_code
def yX0_lightsSeen : MethodName := ⟨RX0, "lightsSeen", "()I"⟩
abbrev cX0_nightsOf : ByteArray := prog_2_method_5_code
def yX0_nightsOf : MethodName := ⟨RX0, "nightsOf", "(I)I"⟩
abbrev cX0_sum : ByteArray := prog_2_method_6_code
def yX0_sum : MethodName := ⟨RX0, "sum", "()I"⟩
abbrev cX0_firstOtherwise : ByteArray := prog_2_method_7_code
def yX0_firstOtherwise : MethodName := ⟨RX0, "firstOtherwise", "(LLightYearsAreOwed$Row;I)I"⟩
abbrev cX0_owed : ByteArray := prog_2_method_8_code
def yX0_owed : MethodName := ⟨RX0, "owed", "(I)I"⟩
abbrev cX0_dueFor : ByteArray := prog_2_method_9_code
def yX0_dueFor : MethodName := ⟨RX0, "dueFor", "(II)I"⟩
abbrev cX0_giveNames : ByteArray := prog_2_method_10_code
def yX0_giveNames : MethodName := ⟨RX0, "giveNames", "(I)I"⟩
abbrev cX0_due : ByteArray := prog_2_method_11_code
def yX0_due : MethodName := ⟨RX0, "due", "(III)I"⟩
abbrev cX0_off : ByteArray := prog_2_method_12_code
def yX0_off : MethodName := ⟨RX0, "off", "(II)I"⟩
abbrev cX0_extra : ByteArray := prog_2_method_13_code
def yX0_extra : MethodName := ⟨RX0, "extra", "(III)I"⟩
abbrev cX0_bounded : ByteArray := prog_2_method_14_code
def yX0_bounded : MethodName := ⟨RX0, "bounded", "(II)I"⟩
def RX1 : String := "LightYearsAreOwed$Purse"
def TX1 : u_T := fun k => match k with
  | 0 => ("LightYearsAreOwed$Purse", "fewest", "I", false)
  | 1 => ("LightYearsAreOwed$Purse", "shortBy", "I", false)
  | _ => ("LightYearsAreOwed$Purse", "way", "[I", true)
def tyX1 : Nat → FieldType := fun k => match k with
  | 0 => .int
  | 1 => .int
  | _ => .array .int
abbrev wsX10 : List Cond := u_ws RX1 TX1 3
theorem nmX1 : ∀ a, a < 3 → ∀ b, b < 3 → a ≠ b → (TX1 a).2.1 ≠ (TX1 b).2.1 := by decide +kernel
theorem tyX1_ok : ∀ k, k < 3 → parseFieldDescriptor (TX1 k).2.2.1 = some (tyX1 k) := by decide +kernel
abbrev cX1_init : ByteArray := prog_3_method_1_code
def yX1_init : MethodName := ⟨RX1, "<init>", "()V"⟩
abbrev cX1_seek : ByteArray := prog_3_method_2_code
def yX1_seek : MethodName := ⟨RX1, "seek", "(I[I[I)V"⟩
abbrev cX1_keep : ByteArray := prog_3_method_3_code
def yX1_keep : MethodName := ⟨RX1, "keep", "(IIII)V"⟩
abbrev cX1_most : ByteArray := prog_3_method_4_code
def yX1_most : MethodName := ⟨RX1, "most", "(II[I[I)I"⟩
def RX2 : String := "LightYearsAreOwed$Reader"
def TX2 : u_T := fun k => match k with
  | 0 => ("LightYearsAreOwed$Reader", "size", "I", false)
  | 1 => ("LightYearsAreOwed$Reader", "tape", "[I", true)
  | 2 => ("LightYearsAreOwed$Reader", "rule", "LLightYearsAreOwed$Rule;", false)
  | 3 => ("LightYearsAreOwed$Reader", "fault", "I", false)
  | 4 => ("LightYearsAreOwed$Reader", "place", "I", false)
  | 5 => ("LightYearsAreOwed$Reader", "next", "I", false)
  | 6 => ("LightYearsAreOwed$Reader", "token", "I", false)
  | _ => ("LightYearsAreOwed$Reader", "value", "I", false)
def tyX2 : Nat → FieldType := fun k => match k with
  | 0 => .int
  | 1 => .array .int
  | 2 => .object "LightYearsAreOwed$Rule"
  | 3 => .int
  | 4 => .int
  | 5 => .int
  | 6 => .int
  | _ => .int
abbrev wsX20 : List Cond := u_ws RX2 TX2 8
theorem nmX2 : ∀ a, a < 8 → ∀ b, b < 8 → a ≠ b → (TX2 a).2.1 ≠ (TX2 b).2.1 := by decide +kernel
theorem tyX2_ok : ∀ k, k < 8 → parseFieldDescriptor (TX2 k).2.2.1 = some (tyX2 k) := by decide +kernel
abbrev cX2_init : ByteArray := prog_4_method_1_code
def yX2_init : MethodName := ⟨RX2, "<init>", "(LLightYearsAreOwed$Rule;)V"⟩
abbrev cX2_append : ByteArray := prog_4_method_2_code
def yX2_append : MethodName := ⟨RX2, "append", "(I)V"⟩
abbrev cX2_empty : ByteArray := prog_4_method_3_code
def yX2_empty : MethodName := ⟨RX2, "empty", "()V"⟩
abbrev cX2_read : ByteArray := prog_4_method_4_code
def yX2_read : MethodName := ⟨RX2, "read", "(LLightYearsAreOwed$Rule;)I"⟩
abbrev cX2_readEither : ByteArray := prog_4_method_5_code
def yX2_readEither : MethodName := ⟨RX2, "readEither", "(I)V"⟩
abbrev cX2_readBoth : ByteArray := prog_4_method_6_code
def yX2_readBoth : MethodName := ⟨RX2, "readBoth", "(I)V"⟩
abbrev cX2_readNot : ByteArray := prog_4_method_7_code
def yX2_readNot : MethodName := ⟨RX2, "readNot", "(I)V"⟩
abbrev cX2_readSum : ByteArray := prog_4_method_8_code
def yX2_readSum : MethodName := ⟨RX2, "readSum", "(I)V"⟩
abbrev cX2_readTerm : ByteArray := prog_4_method_9_code
def yX2_readTerm : MethodName := ⟨RX2, "readTerm", "(I)V"⟩
abbrev cX2_readOne : ByteArray := prog_4_method_10_code
def yX2_readOne : MethodName := ⟨RX2, "readOne", "(I)V"⟩
abbrev cX2_opens : ByteArray := prog_4_method_11_code
def yX2_opens : MethodName := ⟨RX2, "opens", "(I)Z"⟩
abbrev cX2_expect : ByteArray := prog_4_method_12_code
def yX2_expect : MethodName := ⟨RX2, "expect", "(I)V"⟩
abbrev cX2_fail : ByteArray := prog_4_method_13_code
def yX2_fail : MethodName := ⟨RX2, "fail", "()V"⟩
abbrev cX2_advance : ByteArray := prog_4_method_14_code
def yX2_advance : MethodName := ⟨RX2, "advance", "()V"⟩
abbrev cX2_readNumber : ByteArray := prog_4_method_15_code
def yX2_readNumber : MethodName := ⟨RX2, "readNumber", "()V"⟩
abbrev cX2_readWord : ByteArray := prog_4_method_16_code
def yX2_readWord : MethodName := ⟨RX2, "readWord", "()V"⟩
abbrev cX2_isWord : ByteArray := prog_4_method_17_code
def yX2_isWord : MethodName := ⟨RX2, "isWord", "(II)Z"⟩
abbrev cX2_byteAt : ByteArray := prog_4_method_18_code
def yX2_byteAt : MethodName := ⟨RX2, "byteAt", "(I)I"⟩
abbrev cX2_isLetter : ByteArray := prog_4_method_19_code
def yX2_isLetter : MethodName := ⟨RX2, "isLetter", "(I)Z"⟩
abbrev cX2_isDigit : ByteArray := prog_4_method_20_code
def yX2_isDigit : MethodName := ⟨RX2, "isDigit", "(I)Z"⟩
abbrev cX2_isSign : ByteArray := prog_4_method_21_code
def yX2_isSign : MethodName := ⟨RX2, "isSign", "(I)Z"⟩
def RX3 : String := "LightYearsAreOwed$Row"
def TX3 : u_T := fun k => match k with
  | 0 => ("LightYearsAreOwed$Row", "sort", "I", false)
  | 1 => ("LightYearsAreOwed$Row", "size", "I", false)
  | _ => ("LightYearsAreOwed$Row", "items", "[I", true)
def tyX3 : Nat → FieldType := fun k => match k with
  | 0 => .int
  | 1 => .int
  | _ => .array .int
abbrev wsX30 : List Cond := u_ws RX3 TX3 3
theorem nmX3 : ∀ a, a < 3 → ∀ b, b < 3 → a ≠ b → (TX3 a).2.1 ≠ (TX3 b).2.1 := by decide +kernel
theorem tyX3_ok : ∀ k, k < 3 → parseFieldDescriptor (TX3 k).2.2.1 = some (tyX3 k) := by decide +kernel
abbrev cX3_init : ByteArray := prog_5_method_1_code
def yX3_init : MethodName := ⟨RX3, "<init>", "()V"⟩
abbrev cX3_become : ByteArray := prog_5_method_2_code
def yX3_become : MethodName := ⟨RX3, "become", "(II)V"⟩
abbrev cX3_has : ByteArray := prog_5_method_3_code
def yX3_has : MethodName := ⟨RX3, "has", "(II)Z"⟩
abbrev cX3_item : ByteArray := prog_5_method_4_code
def yX3_item : MethodName := ⟨RX3, "item", "(I)I"⟩
abbrev cX3_put : ByteArray := prog_5_method_5_code
def yX3_put : MethodName := ⟨RX3, "put", "(II)V"⟩
def RX4 : String := "LightYearsAreOwed$Rule"
def TX4 : u_T := fun k => match k with
  | 0 => ("LightYearsAreOwed$Rule", "namesNight", "Z", false)
  | 1 => ("LightYearsAreOwed$Rule", "code", "[I", true)
  | 2 => ("LightYearsAreOwed$Rule", "ends", "[I", true)
  | _ => ("LightYearsAreOwed$Rule", "size", "I", false)
def tyX4 : Nat → FieldType := fun k => match k with
  | 0 => .boolean
  | 1 => .array .int
  | 2 => .array .int
  | _ => .int
abbrev wsX40 : List Cond := u_ws RX4 TX4 4
theorem nmX4 : ∀ a, a < 4 → ∀ b, b < 4 → a ≠ b → (TX4 a).2.1 ≠ (TX4 b).2.1 := by decide +kernel
theorem tyX4_ok : ∀ k, k < 4 → parseFieldDescriptor (TX4 k).2.2.1 = some (tyX4 k) := by decide +kernel
abbrev cX4_init : ByteArray := prog_6_method_1_code
def yX4_init : MethodName := ⟨RX4, "<init>", "()V"⟩
abbrev cX4_empty : ByteArray := prog_6_method_2_code
def yX4_empty : MethodName := ⟨RX4, "empty", "()V"⟩
abbrev cX4_add : ByteArray := prog_6_method_3_code
def yX4_add : MethodName := ⟨RX4, "add", "(I)V"⟩
abbrev cX4_addName : ByteArray := prog_6_method_4_code
def yX4_addName : MethodName := ⟨RX4, "addName", "(I)V"⟩
abbrev cX4_addSign : ByteArray := prog_6_method_5_code
def yX4_addSign : MethodName := ⟨RX4, "addSign", "(I)V"⟩
abbrev cX4_endPart : ByteArray := prog_6_method_6_code
def yX4_endPart : MethodName := ⟨RX4, "endPart", "(I)V"⟩
abbrev cX4_tell : ByteArray := prog_6_method_7_code
def yX4_tell : MethodName := ⟨RX4, "tell", "(I[I[I)I"⟩
abbrev cX4_joined : ByteArray := prog_6_method_8_code
def yX4_joined : MethodName := ⟨RX4, "joined", "(III)I"⟩
def RX5 : String := "LightYearsAreOwed$Sky"
def TX5 : u_T := fun k => match k with
  | 0 => ("LightYearsAreOwed$Sky", "clouds", "I", false)
  | 1 => ("LightYearsAreOwed$Sky", "rule", "I", false)
  | 2 => ("LightYearsAreOwed$Sky", "lightCount", "I", false)
  | 3 => ("LightYearsAreOwed$Sky", "kinds", "[I", true)
  | 4 => ("LightYearsAreOwed$Sky", "numbers", "[I", true)
  | 5 => ("LightYearsAreOwed$Sky", "years", "[I", true)
  | 6 => ("LightYearsAreOwed$Sky", "seen", "[I", true)
  | 7 => ("LightYearsAreOwed$Sky", "miles", "[I", true)
  | 8 => ("LightYearsAreOwed$Sky", "paid", "[I", true)
  | 9 => ("LightYearsAreOwed$Sky", "bright", "[I", true)
  | _ => ("LightYearsAreOwed$Sky", "many", "[I", true)
def tyX5 : Nat → FieldType := fun k => match k with
  | 0 => .int
  | 1 => .int
  | 2 => .int
  | 3 => .array .int
  | 4 => .array .int
  | 5 => .array .int
  | 6 => .array .int
  | 7 => .array .int
  | 8 => .array .int
  | 9 => .array .int
  | _ => .array .int
abbrev wsX50 : List Cond := u_ws RX5 TX5 11
theorem nmX5 : ∀ a, a < 11 → ∀ b, b < 11 → a ≠ b → (TX5 a).2.1 ≠ (TX5 b).2.1 := by decide +kernel
theorem tyX5_ok : ∀ k, k < 11 → parseFieldDescriptor (TX5 k).2.2.1 = some (tyX5 k) := by decide +kernel
abbrev cX5_init : ByteArray := prog_7_method_1_code
def yX5_init : MethodName := ⟨RX5, "<init>", "()V"⟩
abbrev cX5_become : ByteArray := prog_7_method_2_code
def yX5_become : MethodName := ⟨RX5, "become", "(LLightYearsAreOwed$Sky;)V"⟩
abbrev cX5_addLight : ByteArray := prog_7_method_3_code
def yX5_addLight : MethodName := ⟨RX5, "addLight", "(III)I"⟩
abbrev cX5_pieceCount : ByteArray := prog_7_method_4_code
def yX5_pieceCount : MethodName := ⟨RX5, "pieceCount", "()I"⟩
abbrev cX5_worth : ByteArray := prog_7_method_5_code
def yX5_worth : MethodName := ⟨RX5, "worth", "()I"⟩
def RX6 : String := "LightYearsAreOwed"
def TX6 : u_T := fun k => match k with
  | 0 => ("LightYearsAreOwed", "sky", "LLightYearsAreOwed$Sky;", true)
  | 1 => ("LightYearsAreOwed", "kept", "LLightYearsAreOwed$Sky;", true)
  | 2 => ("LightYearsAreOwed", "hasImage", "Z", false)
  | 3 => ("LightYearsAreOwed", "rules", "[LLightYearsAreOwed$Rule;", true)
  | 4 => ("LightYearsAreOwed", "ruleCount", "I", false)
  | 5 => ("LightYearsAreOwed", "reader", "LLightYearsAreOwed$Reader;", true)
  | 6 => ("LightYearsAreOwed", "bill", "LLightYearsAreOwed$Bill;", true)
  | 7 => ("LightYearsAreOwed", "purse", "LLightYearsAreOwed$Purse;", true)
  | _ => ("LightYearsAreOwed", "rows", "[LLightYearsAreOwed$Row;", true)
def tyX6 : Nat → FieldType := fun k => match k with
  | 0 => .object "LightYearsAreOwed$Sky"
  | 1 => .object "LightYearsAreOwed$Sky"
  | 2 => .boolean
  | 3 => .array (.object "LightYearsAreOwed$Rule")
  | 4 => .int
  | 5 => .object "LightYearsAreOwed$Reader"
  | 6 => .object "LightYearsAreOwed$Bill"
  | 7 => .object "LightYearsAreOwed$Purse"
  | _ => .array (.object "LightYearsAreOwed$Row")
abbrev wsX60 : List Cond := u_ws RX6 TX6 9
theorem nmX6 : ∀ a, a < 9 → ∀ b, b < 9 → a ≠ b → (TX6 a).2.1 ≠ (TX6 b).2.1 := by decide +kernel
theorem tyX6_ok : ∀ k, k < 9 → parseFieldDescriptor (TX6 k).2.2.1 = some (tyX6 k) := by decide +kernel
abbrev cX6_init : ByteArray := prog_1_method_1_code
def yX6_init : MethodName := ⟨RX6, "<init>", "()V"⟩
abbrev cX6_set : ByteArray := prog_1_method_2_code
def yX6_set : MethodName := ⟨RX6, "set", "(III)I"⟩
abbrev cX6_light : ByteArray := prog_1_method_3_code
def yX6_light : MethodName := ⟨RX6, "light", "(III)I"⟩
abbrev cX6_look : ByteArray := prog_1_method_4_code
def yX6_look : MethodName := ⟨RX6, "look", "(III)I"⟩
abbrev cX6_told : ByteArray := prog_1_method_5_code
def yX6_told : MethodName := ⟨RX6, "told", "(II)I"⟩
abbrev cX6_toldOfLooker : ByteArray := prog_1_method_6_code
def yX6_toldOfLooker : MethodName := ⟨RX6, "toldOfLooker", "(II)I"⟩
abbrev cX6_placesOf : ByteArray := prog_1_method_7_code
def yX6_placesOf : MethodName := ⟨RX6, "placesOf", "(I)[I"⟩
abbrev cX6_placeCount : ByteArray := prog_1_method_8_code
def yX6_placeCount : MethodName := ⟨RX6, "placeCount", "(I)I"⟩
abbrev cX6_feed : ByteArray := prog_1_method_9_code
def yX6_feed : MethodName := ⟨RX6, "feed", "(I)I"⟩
abbrev cX6_text : ByteArray := prog_1_method_10_code
def yX6_text : MethodName := ⟨RX6, "text", "()I"⟩
abbrev cX6_force : ByteArray := prog_1_method_11_code
def yX6_force : MethodName := ⟨RX6, "force", "(I)I"⟩
abbrev cX6_owes : ByteArray := prog_1_method_12_code
def yX6_owes : MethodName := ⟨RX6, "owes", "(III)I"⟩
abbrev cX6_all : ByteArray := prog_1_method_13_code
def yX6_all : MethodName := ⟨RX6, "all", "(I)I"⟩
abbrev cX6_pieces : ByteArray := prog_1_method_14_code
def yX6_pieces : MethodName := ⟨RX6, "pieces", "(II)I"⟩
abbrev cX6_pay : ByteArray := prog_1_method_15_code
def yX6_pay : MethodName := ⟨RX6, "pay", "(I)I"⟩
abbrev cX6_whoOwesMost : ByteArray := prog_1_method_16_code
def yX6_whoOwesMost : MethodName := ⟨RX6, "whoOwesMost", "()I"⟩
abbrev cX6_cheapest : ByteArray := prog_1_method_17_code
def yX6_cheapest : MethodName := ⟨RX6, "cheapest", "(III)I"⟩
abbrev cX6_leave : ByteArray := prog_1_method_18_code
def yX6_leave : MethodName := ⟨RX6, "leave", "(II)I"⟩
abbrev cX6_farm : ByteArray := prog_1_method_19_code
def yX6_farm : MethodName := ⟨RX6, "farm", "(II)I"⟩
abbrev cX6_walk : ByteArray := prog_1_method_20_code
def yX6_walk : MethodName := ⟨RX6, "walk", "(III)I"⟩
abbrev cX6_whoOwe : ByteArray := prog_1_method_21_code
def yX6_whoOwe : MethodName := ⟨RX6, "whoOwe", "(I)I"⟩
abbrev cX6_firstAt : ByteArray := prog_1_method_22_code
def yX6_firstAt : MethodName := ⟨RX6, "firstAt", "(II)I"⟩
abbrev cX6_tells : ByteArray := prog_1_method_23_code
def yX6_tells : MethodName := ⟨RX6, "tells", "(III)I"⟩
abbrev cX6_textsThatFit : ByteArray := prog_1_method_24_code
def yX6_textsThatFit : MethodName := ⟨RX6, "textsThatFit", "(LLightYearsAreOwed$Row;)I"⟩
abbrev cX6_cloudsThatFit : ByteArray := prog_1_method_25_code
def yX6_cloudsThatFit : MethodName := ⟨RX6, "cloudsThatFit", "(LLightYearsAreOwed$Row;)I"⟩
abbrev cX6_traitsThatFit : ByteArray := prog_1_method_26_code
def yX6_traitsThatFit : MethodName := ⟨RX6, "traitsThatFit", "(LLightYearsAreOwed$Row;II)I"⟩
abbrev cX6_film : ByteArray := prog_1_method_27_code
def yX6_film : MethodName := ⟨RX6, "film", "(II)I"⟩
abbrev cX6_drawn : ByteArray := prog_1_method_28_code
def yX6_drawn : MethodName := ⟨RX6, "drawn", "(I)I"⟩
abbrev cX6_chance : ByteArray := prog_1_method_29_code
def yX6_chance : MethodName := ⟨RX6, "chance", "(IIII)J"⟩
abbrev cX6_cloudsBy : ByteArray := prog_1_method_30_code
def yX6_cloudsBy : MethodName := ⟨RX6, "cloudsBy", "(I)I"⟩
abbrev cX6_commonMeasure : ByteArray := prog_1_method_31_code
def yX6_commonMeasure : MethodName := ⟨RX6, "commonMeasure", "(II)I"⟩
abbrev cX6_image : ByteArray := prog_1_method_32_code
def yX6_image : MethodName := ⟨RX6, "image", "()I"⟩
abbrev cX6_back : ByteArray := prog_1_method_33_code
def yX6_back : MethodName := ⟨RX6, "back", "()I"⟩
abbrev cX6_count : ByteArray := prog_1_method_34_code
def yX6_count : MethodName := ⟨RX6, "count", "(I)I"⟩
abbrev cX6_sheet : ByteArray := prog_1_method_35_code
def yX6_sheet : MethodName := ⟨RX6, "sheet", "(III)I"⟩
abbrev cX6_cell : ByteArray := prog_1_method_36_code
def yX6_cell : MethodName := ⟨RX6, "cell", "(III)I"⟩
abbrev cX6_copy : ByteArray := prog_1_method_37_code
def yX6_copy : MethodName := ⟨RX6, "copy", "(IIIII)I"⟩
abbrev cX6_lights : ByteArray := prog_1_method_38_code
def yX6_lights : MethodName := ⟨RX6, "lights", "(IIII)I"⟩
abbrev cX6_taken : ByteArray := prog_1_method_39_code
def yX6_taken : MethodName := ⟨RX6, "taken", "(II)I"⟩
abbrev cX6_between : ByteArray := prog_1_method_40_code
def yX6_between : MethodName := ⟨RX6, "between", "(III)Z"⟩
abbrev cX6_isLooker : ByteArray := prog_1_method_41_code
def yX6_isLooker : MethodName := ⟨RX6, "isLooker", "(I)Z"⟩
abbrev cX6_isSheet : ByteArray := prog_1_method_42_code
def yX6_isSheet : MethodName := ⟨RX6, "isSheet", "(I)Z"⟩
abbrev cX6_isLight : ByteArray := prog_1_method_43_code
def yX6_isLight : MethodName := ⟨RX6, "isLight", "(I)Z"⟩
abbrev cX6_ruleOf : ByteArray := prog_1_method_44_code
def yX6_ruleOf : MethodName := ⟨RX6, "ruleOf", "(I)LLightYearsAreOwed$Rule;"⟩
abbrev cX6_openBill : ByteArray := prog_1_method_45_code
def yX6_openBill : MethodName := ⟨RX6, "openBill", "(I)V"⟩
abbrev cX6_allOf : ByteArray := prog_1_method_46_code
def yX6_allOf : MethodName := ⟨RX6, "allOf", "(II)I"⟩
abbrev cX6_allTogether : ByteArray := prog_1_method_47_code
def yX6_allTogether : MethodName := ⟨RX6, "allTogether", "(I)I"⟩
def RX7 : String := "LightYearsAreOwedModel"
def TX7 : u_T := fun k => match k with
  | 0 => ("LightYearsAreOwedModel", "thrown", "I", false)
  | 1 => ("LightYearsAreOwedModel", "texts", "[I", true)
  | 2 => ("LightYearsAreOwedModel", "textSize", "[I", true)
  | 3 => ("LightYearsAreOwedModel", "textCount", "I", false)
  | 4 => ("LightYearsAreOwedModel", "rule", "I", false)
  | 5 => ("LightYearsAreOwedModel", "tape", "[I", true)
  | 6 => ("LightYearsAreOwedModel", "taped", "I", false)
  | 7 => ("LightYearsAreOwedModel", "clouds", "I", false)
  | 8 => ("LightYearsAreOwedModel", "kinds", "[I", true)
  | 9 => ("LightYearsAreOwedModel", "numbers", "[I", true)
  | 10 => ("LightYearsAreOwedModel", "ages", "[I", true)
  | 11 => ("LightYearsAreOwedModel", "many", "I", false)
  | 12 => ("LightYearsAreOwedModel", "looked", "[I", true)
  | 13 => ("LightYearsAreOwedModel", "miles", "[I", true)
  | 14 => ("LightYearsAreOwedModel", "paid", "[I", true)
  | 15 => ("LightYearsAreOwedModel", "bright", "[I", true)
  | 16 => ("LightYearsAreOwedModel", "stock", "[I", true)
  | 17 => ("LightYearsAreOwedModel", "ofYears", "I", false)
  | 18 => ("LightYearsAreOwedModel", "ofNights", "I", false)
  | 19 => ("LightYearsAreOwedModel", "ofNumber", "I", false)
  | 20 => ("LightYearsAreOwedModel", "ofNight", "I", false)
  | 21 => ("LightYearsAreOwedModel", "ofCloudy", "I", false)
  | 22 => ("LightYearsAreOwedModel", "ofLights", "I", false)
  | 23 => ("LightYearsAreOwedModel", "from", "I", false)
  | 24 => ("LightYearsAreOwedModel", "size", "I", false)
  | 25 => ("LightYearsAreOwedModel", "here", "I", false)
  | 26 => ("LightYearsAreOwedModel", "token", "I", false)
  | 27 => ("LightYearsAreOwedModel", "tokenAt", "I", false)
  | 28 => ("LightYearsAreOwedModel", "tokenWorth", "J", false)
  | 29 => ("LightYearsAreOwedModel", "open", "I", false)
  | 30 => ("LightYearsAreOwedModel", "bad", "Z", false)
  | 31 => ("LightYearsAreOwedModel", "fault", "I", false)
  | 32 => ("LightYearsAreOwedModel", "fewest", "[I", true)
  | 33 => ("LightYearsAreOwedModel", "found1", "I", false)
  | 34 => ("LightYearsAreOwedModel", "value1", "I", false)
  | 35 => ("LightYearsAreOwedModel", "lookedWas", "[I", true)
  | 36 => ("LightYearsAreOwedModel", "numbersKept", "[I", true)
  | 37 => ("LightYearsAreOwedModel", "agesKept", "[I", true)
  | 38 => ("LightYearsAreOwedModel", "lookedKept", "[I", true)
  | 39 => ("LightYearsAreOwedModel", "milesKept", "[I", true)
  | 40 => ("LightYearsAreOwedModel", "paidKept", "[I", true)
  | 41 => ("LightYearsAreOwedModel", "brightKept", "[I", true)
  | 42 => ("LightYearsAreOwedModel", "stockKept", "[I", true)
  | 43 => ("LightYearsAreOwedModel", "manyKept", "I", false)
  | 44 => ("LightYearsAreOwedModel", "cloudsKept", "I", false)
  | 45 => ("LightYearsAreOwedModel", "ruleKept", "I", false)
  | 46 => ("LightYearsAreOwedModel", "isThere", "[Z", true)
  | 47 => ("LightYearsAreOwedModel", "sorts", "[I", true)
  | 48 => ("LightYearsAreOwedModel", "sheetSize", "[I", true)
  | _ => ("LightYearsAreOwedModel", "items", "[I", true)
def tyX7 : Nat → FieldType := fun k => match k with
  | 0 => .int
  | 1 => .array .int
  | 2 => .array .int
  | 3 => .int
  | 4 => .int
  | 5 => .array .int
  | 6 => .int
  | 7 => .int
  | 8 => .array .int
  | 9 => .array .int
  | 10 => .array .int
  | 11 => .int
  | 12 => .array .int
  | 13 => .array .int
  | 14 => .array .int
  | 15 => .array .int
  | 16 => .array .int
  | 17 => .int
  | 18 => .int
  | 19 => .int
  | 20 => .int
  | 21 => .int
  | 22 => .int
  | 23 => .int
  | 24 => .int
  | 25 => .int
  | 26 => .int
  | 27 => .int
  | 28 => .long
  | 29 => .int
  | 30 => .boolean
  | 31 => .int
  | 32 => .array .int
  | 33 => .int
  | 34 => .int
  | 35 => .array .int
  | 36 => .array .int
  | 37 => .array .int
  | 38 => .array .int
  | 39 => .array .int
  | 40 => .array .int
  | 41 => .array .int
  | 42 => .array .int
  | 43 => .int
  | 44 => .int
  | 45 => .int
  | 46 => .array .boolean
  | 47 => .array .int
  | 48 => .array .int
  | _ => .array .int
abbrev wsX70 : List Cond := u_ws RX7 TX7 50
theorem nmX7 : ∀ a, a < 50 → ∀ b, b < 50 → a ≠ b → (TX7 a).2.1 ≠ (TX7 b).2.1 := by decide +kernel
theorem tyX7_ok : ∀ k, k < 50 → parseFieldDescriptor (TX7 k).2.2.1 = some (tyX7 k) := by decide +kernel
abbrev cX7_in : ByteArray := prog_9_method_2_code
def yX7_in : MethodName := ⟨RX7, "in", "(JJJ)Z"⟩
abbrev cX7_within : ByteArray := prog_9_method_3_code
def yX7_within : MethodName := ⟨RX7, "within", "(III)I"⟩
abbrev cX7_apart : ByteArray := prog_9_method_4_code
def yX7_apart : MethodName := ⟨RX7, "apart", "(II)I"⟩
abbrev cX7_init : ByteArray := prog_9_method_5_code
def yX7_init : MethodName := ⟨RX7, "<init>", "()V"⟩
abbrev cX7_spell : ByteArray := prog_9_method_6_code
def yX7_spell : MethodName := ⟨RX7, "spell", "(IIIIIIIII)V"⟩
abbrev cX7_isLight : ByteArray := prog_9_method_7_code
def yX7_isLight : MethodName := ⟨RX7, "isLight", "(I)Z"⟩
abbrev cX7_isLooker : ByteArray := prog_9_method_8_code
def yX7_isLooker : MethodName := ⟨RX7, "isLooker", "(I)Z"⟩
abbrev cX7_isOf : ByteArray := prog_9_method_9_code
def yX7_isOf : MethodName := ⟨RX7, "isOf", "(II)Z"⟩
abbrev cX7_mostOf : ByteArray := prog_9_method_10_code
def yX7_mostOf : MethodName := ⟨RX7, "mostOf", "(I)I"⟩
abbrev cX7_set : ByteArray := prog_9_method_11_code
def yX7_set : MethodName := ⟨RX7, "set", "(III)I"⟩
abbrev cX7_lays : ByteArray := prog_9_method_12_code
def yX7_lays : MethodName := ⟨RX7, "lays", "(III)V"⟩
abbrev cX7_light : ByteArray := prog_9_method_13_code
def yX7_light : MethodName := ⟨RX7, "light", "(III)I"⟩
abbrev cX7_look : ByteArray := prog_9_method_14_code
def yX7_look : MethodName := ⟨RX7, "look", "(III)I"⟩
abbrev cX7_told : ByteArray := prog_9_method_15_code
def yX7_told : MethodName := ⟨RX7, "told", "(II)I"⟩
abbrev cX7_feed : ByteArray := prog_9_method_16_code
def yX7_feed : MethodName := ⟨RX7, "feed", "(I)I"⟩
abbrev cX7_byteAt : ByteArray := prog_9_method_17_code
def yX7_byteAt : MethodName := ⟨RX7, "byteAt", "(I)I"⟩
abbrev cX7_next : ByteArray := prog_9_method_18_code
def yX7_next : MethodName := ⟨RX7, "next", "()V"⟩
abbrev cX7_fail : ByteArray := prog_9_method_19_code
def yX7_fail : MethodName := ⟨RX7, "fail", "()V"⟩
abbrev cX7_isLetter : ByteArray := prog_9_method_20_code
def yX7_isLetter : MethodName := ⟨RX7, "isLetter", "(II)Z"⟩
abbrev cX7_isWord : ByteArray := prog_9_method_21_code
def yX7_isWord : MethodName := ⟨RX7, "isWord", "(IIIIIIII)Z"⟩
abbrev cX7_isSign : ByteArray := prog_9_method_22_code
def yX7_isSign : MethodName := ⟨RX7, "isSign", "(I)Z"⟩
abbrev cX7_opens : ByteArray := prog_9_method_23_code
def yX7_opens : MethodName := ⟨RX7, "opens", "()Z"⟩
abbrev cX7_name : ByteArray := prog_9_method_24_code
def yX7_name : MethodName := ⟨RX7, "name", "()I"⟩
abbrev cX7_atom5 : ByteArray := prog_9_method_25_code
def yX7_atom5 : MethodName := ⟨RX7, "atom5", "()I"⟩
abbrev cX7_term5 : ByteArray := prog_9_method_26_code
def yX7_term5 : MethodName := ⟨RX7, "term5", "()I"⟩
abbrev cX7_added5 : ByteArray := prog_9_method_27_code
def yX7_added5 : MethodName := ⟨RX7, "added5", "()I"⟩
abbrev cX7_not5 : ByteArray := prog_9_method_28_code
def yX7_not5 : MethodName := ⟨RX7, "not5", "()I"⟩
abbrev cX7_both5 : ByteArray := prog_9_method_29_code
def yX7_both5 : MethodName := ⟨RX7, "both5", "()I"⟩
abbrev cX7_either5 : ByteArray := prog_9_method_30_code
def yX7_either5 : MethodName := ⟨RX7, "either5", "()I"⟩
abbrev cX7_atom4 : ByteArray := prog_9_method_31_code
def yX7_atom4 : MethodName := ⟨RX7, "atom4", "()I"⟩
abbrev cX7_term4 : ByteArray := prog_9_method_32_code
def yX7_term4 : MethodName := ⟨RX7, "term4", "()I"⟩
abbrev cX7_added4 : ByteArray := prog_9_method_33_code
def yX7_added4 : MethodName := ⟨RX7, "added4", "()I"⟩
abbrev cX7_not4 : ByteArray := prog_9_method_34_code
def yX7_not4 : MethodName := ⟨RX7, "not4", "()I"⟩
abbrev cX7_both4 : ByteArray := prog_9_method_35_code
def yX7_both4 : MethodName := ⟨RX7, "both4", "()I"⟩
abbrev cX7_either4 : ByteArray := prog_9_method_36_code
def yX7_either4 : MethodName := ⟨RX7, "either4", "()I"⟩
abbrev cX7_atom3 : ByteArray := prog_9_method_37_code
def yX7_atom3 : MethodName := ⟨RX7, "atom3", "()I"⟩
abbrev cX7_term3 : ByteArray := prog_9_method_38_code
def yX7_term3 : MethodName := ⟨RX7, "term3", "()I"⟩
abbrev cX7_added3 : ByteArray := prog_9_method_39_code
def yX7_added3 : MethodName := ⟨RX7, "added3", "()I"⟩
abbrev cX7_not3 : ByteArray := prog_9_method_40_code
def yX7_not3 : MethodName := ⟨RX7, "not3", "()I"⟩
abbrev cX7_both3 : ByteArray := prog_9_method_41_code
def yX7_both3 : MethodName := ⟨RX7, "both3", "()I"⟩
abbrev cX7_either3 : ByteArray := prog_9_method_42_code
def yX7_either3 : MethodName := ⟨RX7, "either3", "()I"⟩
abbrev cX7_atom2 : ByteArray := prog_9_method_43_code
def yX7_atom2 : MethodName := ⟨RX7, "atom2", "()I"⟩
abbrev cX7_term2 : ByteArray := prog_9_method_44_code
def yX7_term2 : MethodName := ⟨RX7, "term2", "()I"⟩
abbrev cX7_added2 : ByteArray := prog_9_method_45_code
def yX7_added2 : MethodName := ⟨RX7, "added2", "()I"⟩
abbrev cX7_not2 : ByteArray := prog_9_method_46_code
def yX7_not2 : MethodName := ⟨RX7, "not2", "()I"⟩
abbrev cX7_both2 : ByteArray := prog_9_method_47_code
def yX7_both2 : MethodName := ⟨RX7, "both2", "()I"⟩
abbrev cX7_either2 : ByteArray := prog_9_method_48_code
def yX7_either2 : MethodName := ⟨RX7, "either2", "()I"⟩
abbrev cX7_atom1 : ByteArray := prog_9_method_49_code
def yX7_atom1 : MethodName := ⟨RX7, "atom1", "()I"⟩
abbrev cX7_term1 : ByteArray := prog_9_method_50_code
def yX7_term1 : MethodName := ⟨RX7, "term1", "()I"⟩
abbrev cX7_added1 : ByteArray := prog_9_method_51_code
def yX7_added1 : MethodName := ⟨RX7, "added1", "()I"⟩
abbrev cX7_not1 : ByteArray := prog_9_method_52_code
def yX7_not1 : MethodName := ⟨RX7, "not1", "()I"⟩
abbrev cX7_both1 : ByteArray := prog_9_method_53_code
def yX7_both1 : MethodName := ⟨RX7, "both1", "()I"⟩
abbrev cX7_either1 : ByteArray := prog_9_method_54_code
def yX7_either1 : MethodName := ⟨RX7, "either1", "()I"⟩
abbrev cX7_atom0 : ByteArray := prog_9_method_55_code
def yX7_atom0 : MethodName := ⟨RX7, "atom0", "()I"⟩
abbrev cX7_term0 : ByteArray := prog_9_method_56_code
def yX7_term0 : MethodName := ⟨RX7, "term0", "()I"⟩
abbrev cX7_added0 : ByteArray := prog_9_method_57_code
def yX7_added0 : MethodName := ⟨RX7, "added0", "()I"⟩
abbrev cX7_not0 : ByteArray := prog_9_method_58_code
def yX7_not0 : MethodName := ⟨RX7, "not0", "()I"⟩
abbrev cX7_both0 : ByteArray := prog_9_method_59_code
def yX7_both0 : MethodName := ⟨RX7, "both0", "()I"⟩
abbrev cX7_either0 : ByteArray := prog_9_method_60_code
def yX7_either0 : MethodName := ⟨RX7, "either0", "()I"⟩
abbrev cX7_part : ByteArray := prog_9_method_61_code
def yX7_part : MethodName := ⟨RX7, "part", "(Z)I"⟩
abbrev cX7_read : ByteArray := prog_9_method_62_code
def yX7_read : MethodName := ⟨RX7, "read", "(II)I"⟩
abbrev cX7_text : ByteArray := prog_9_method_63_code
def yX7_text : MethodName := ⟨RX7, "text", "()I"⟩
abbrev cX7_force : ByteArray := prog_9_method_64_code
def yX7_force : MethodName := ⟨RX7, "force", "(I)I"⟩
abbrev cX7_bitsOf : ByteArray := prog_9_method_65_code
def yX7_bitsOf : MethodName := ⟨RX7, "bitsOf", "(I)I"⟩
abbrev cX7_nightsOf : ByteArray := prog_9_method_66_code
def yX7_nightsOf : MethodName := ⟨RX7, "nightsOf", "(II)I"⟩
abbrev cX7_lightMany : ByteArray := prog_9_method_67_code
def yX7_lightMany : MethodName := ⟨RX7, "lightMany", "(I)I"⟩
abbrev cX7_asks : ByteArray := prog_9_method_68_code
def yX7_asks : MethodName := ⟨RX7, "asks", "(IIII)I"⟩
abbrev cX7_dueOf : ByteArray := prog_9_method_69_code
def yX7_dueOf : MethodName := ⟨RX7, "dueOf", "(III)I"⟩
abbrev cX7_offOf : ByteArray := prog_9_method_70_code
def yX7_offOf : MethodName := ⟨RX7, "offOf", "(II)I"⟩
abbrev cX7_extraOf : ByteArray := prog_9_method_71_code
def yX7_extraOf : MethodName := ⟨RX7, "extraOf", "(II)I"⟩
abbrev cX7_owesFor : ByteArray := prog_9_method_72_code
def yX7_owesFor : MethodName := ⟨RX7, "owesFor", "(II)I"⟩
abbrev cX7_owes : ByteArray := prog_9_method_73_code
def yX7_owes : MethodName := ⟨RX7, "owes", "(III)I"⟩
abbrev cX7_plainOf : ByteArray := prog_9_method_74_code
def yX7_plainOf : MethodName := ⟨RX7, "plainOf", "(I)I"⟩
abbrev cX7_allOf : ByteArray := prog_9_method_75_code
def yX7_allOf : MethodName := ⟨RX7, "allOf", "(I)I"⟩
abbrev cX7_allSum : ByteArray := prog_9_method_76_code
def yX7_allSum : MethodName := ⟨RX7, "allSum", "()I"⟩
abbrev cX7_all : ByteArray := prog_9_method_77_code
def yX7_all : MethodName := ⟨RX7, "all", "(I)I"⟩
abbrev cX7_sums : ByteArray := prog_9_method_78_code
def yX7_sums : MethodName := ⟨RX7, "sums", "()V"⟩
abbrev cX7_fewestFor : ByteArray := prog_9_method_79_code
def yX7_fewestFor : MethodName := ⟨RX7, "fewestFor", "(I)I"⟩
abbrev cX7_pieces : ByteArray := prog_9_method_80_code
def yX7_pieces : MethodName := ⟨RX7, "pieces", "(II)I"⟩
abbrev cX7_pay : ByteArray := prog_9_method_81_code
def yX7_pay : MethodName := ⟨RX7, "pay", "(I)I"⟩
abbrev cX7_cheapest : ByteArray := prog_9_method_82_code
def yX7_cheapest : MethodName := ⟨RX7, "cheapest", "(III)I"⟩
abbrev cX7_leave : ByteArray := prog_9_method_83_code
def yX7_leave : MethodName := ⟨RX7, "leave", "(II)I"⟩
abbrev cX7_farm : ByteArray := prog_9_method_84_code
def yX7_farm : MethodName := ⟨RX7, "farm", "(II)I"⟩
abbrev cX7_walk : ByteArray := prog_9_method_85_code
def yX7_walk : MethodName := ⟨RX7, "walk", "(III)I"⟩
abbrev cX7_firstOther : ByteArray := prog_9_method_86_code
def yX7_firstOther : MethodName := ⟨RX7, "firstOther", "(II)I"⟩
abbrev cX7_cloudsBy : ByteArray := prog_9_method_87_code
def yX7_cloudsBy : MethodName := ⟨RX7, "cloudsBy", "(II)I"⟩
abbrev cX7_tells : ByteArray := prog_9_method_88_code
def yX7_tells : MethodName := ⟨RX7, "tells", "(III)I"⟩
abbrev cX7_film : ByteArray := prog_9_method_89_code
def yX7_film : MethodName := ⟨RX7, "film", "(II)I"⟩
abbrev cX7_allBy : ByteArray := prog_9_method_90_code
def yX7_allBy : MethodName := ⟨RX7, "allBy", "(I)I"⟩
abbrev cX7_drawn : ByteArray := prog_9_method_91_code
def yX7_drawn : MethodName := ⟨RX7, "drawn", "(I)I"⟩
abbrev cX7_chance : ByteArray := prog_9_method_92_code
def yX7_chance : MethodName := ⟨RX7, "chance", "(IIII)J"⟩
abbrev cX7_image : ByteArray := prog_9_method_93_code
def yX7_image : MethodName := ⟨RX7, "image", "()I"⟩
abbrev cX7_back : ByteArray := prog_9_method_94_code
def yX7_back : MethodName := ⟨RX7, "back", "()I"⟩
abbrev cX7_count : ByteArray := prog_9_method_95_code
def yX7_count : MethodName := ⟨RX7, "count", "(I)I"⟩
abbrev cX7_isSheet : ByteArray := prog_9_method_96_code
def yX7_isSheet : MethodName := ⟨RX7, "isSheet", "(I)Z"⟩
abbrev cX7_sheet : ByteArray := prog_9_method_97_code
def yX7_sheet : MethodName := ⟨RX7, "sheet", "(III)I"⟩
abbrev cX7_cell : ByteArray := prog_9_method_98_code
def yX7_cell : MethodName := ⟨RX7, "cell", "(III)I"⟩
abbrev cX7_copy : ByteArray := prog_9_method_99_code
def yX7_copy : MethodName := ⟨RX7, "copy", "(IIIII)I"⟩
abbrev cX7_lights : ByteArray := prog_9_method_100_code
def yX7_lights : MethodName := ⟨RX7, "lights", "(IIII)I"⟩
abbrev cX7_over : ByteArray := prog_9_method_101_code
def yX7_over : MethodName := ⟨RX7, "over", "(I)I"⟩
abbrev cX7_taken : ByteArray := prog_9_method_102_code
def yX7_taken : MethodName := ⟨RX7, "taken", "(II)I"⟩
def RJ6 : String := "java/lang/Integer"
def TJ6 : u_T := fun k => match k with
  | _ => ("", "", "", false)
def tyJ6 : Nat → FieldType := fun k => match k with
  | _ => .int
abbrev wsJ60 : List Cond := u_ws RJ6 TJ6 0
theorem nmJ6 : ∀ a, a < 0 → ∀ b, b < 0 → a ≠ b → (TJ6 a).2.1 ≠ (TJ6 b).2.1 := by decide +kernel
theorem tyJ6_ok : ∀ k, k < 0 → parseFieldDescriptor (TJ6 k).2.2.1 = some (tyJ6 k) := by decide +kernel
abbrev cJ6_bitCount_0f7a4 : ByteArray := prog_10_method_49_code
def yJ6_bitCount_0f7a4 : MethodName := ⟨RJ6, "bitCount", "(I)I"⟩
def RJ9 : String := "java/lang/Math"
def TJ9 : u_T := fun k => match k with
  | _ => ("", "", "", false)
def tyJ9 : Nat → FieldType := fun k => match k with
  | _ => .int
abbrev wsJ90 : List Cond := u_ws RJ9 TJ9 0
theorem nmJ9 : ∀ a, a < 0 → ∀ b, b < 0 → a ≠ b → (TJ9 a).2.1 ≠ (TJ9 b).2.1 := by decide +kernel
theorem tyJ9_ok : ∀ k, k < 0 → parseFieldDescriptor (TJ9 k).2.2.1 = some (tyJ9 k) := by decide +kernel
abbrev cJ9_abs_0f7a4 : ByteArray := prog_11_method_59_code
def yJ9_abs_0f7a4 : MethodName := ⟨RJ9, "abs", "(I)I"⟩
abbrev cJ9_max_7cf53 : ByteArray := prog_11_method_65_code
def yJ9_max_7cf53 : MethodName := ⟨RJ9, "max", "(II)I"⟩
abbrev cJ9_min_7cf53 : ByteArray := prog_11_method_69_code
def yJ9_min_7cf53 : MethodName := ⟨RJ9, "min", "(II)I"⟩
def RJ0 : String := "java/lang/String"
def TJ0 : u_T := fun k => match k with
  | _ => ("", "", "", false)
def tyJ0 : Nat → FieldType := fun k => match k with
  | _ => .int
abbrev wsJ00 : List Cond := u_ws RJ0 TJ0 0
theorem nmJ0 : ∀ a, a < 0 → ∀ b, b < 0 → a ≠ b → (TJ0 a).2.1 ≠ (TJ0 b).2.1 := by decide +kernel
theorem tyJ0_ok : ∀ k, k < 0 → parseFieldDescriptor (TJ0 k).2.2.1 = some (tyJ0 k) := by decide +kernel
abbrev cJ0_length_8abf5 : ByteArray := prog_12_method_54_code
def yJ0_length_8abf5 : MethodName := ⟨RJ0, "length", "()I"⟩
abbrev cJ0_charAt_5068e : ByteArray := prog_12_method_56_code
def yJ0_charAt_5068e : MethodName := ⟨RJ0, "charAt", "(I)C"⟩
abbrev cJ0_coder_7d493 : ByteArray := prog_12_method_152_code
def yJ0_coder_7d493 : MethodName := ⟨RJ0, "coder", "()B"⟩
abbrev cJ0_isLatin1_aae02 : ByteArray := prog_12_method_154_code
def yJ0_isLatin1_aae02 : MethodName := ⟨RJ0, "isLatin1", "()Z"⟩
abbrev cJ0_checkIndex_df160 : ByteArray := prog_12_method_155_code
def yJ0_checkIndex_df160 : MethodName := ⟨RJ0, "checkIndex", "(II)V"⟩
def RJ1 : String := "java/lang/StringLatin1"
def TJ1 : u_T := fun k => match k with
  | _ => ("", "", "", false)
def tyJ1 : Nat → FieldType := fun k => match k with
  | _ => .int
abbrev wsJ10 : List Cond := u_ws RJ1 TJ1 0
theorem nmJ1 : ∀ a, a < 0 → ∀ b, b < 0 → a ≠ b → (TJ1 a).2.1 ≠ (TJ1 b).2.1 := by decide +kernel
theorem tyJ1_ok : ∀ k, k < 0 → parseFieldDescriptor (TJ1 k).2.2.1 = some (tyJ1 k) := by decide +kernel
abbrev cJ1_charAt_3b067 : ByteArray := prog_13_method_2_code
def yJ1_charAt_3b067 : MethodName := ⟨RJ1, "charAt", "([BI)C"⟩
def RJ2 : String := "java/lang/StringUTF16"
def TJ2 : u_T := fun k => match k with
  | _ => ("", "", "", false)
def tyJ2 : Nat → FieldType := fun k => match k with
  | _ => .int
abbrev wsJ20 : List Cond := u_ws RJ2 TJ2 0
theorem nmJ2 : ∀ a, a < 0 → ∀ b, b < 0 → a ≠ b → (TJ2 a).2.1 ≠ (TJ2 b).2.1 := by decide +kernel
theorem tyJ2_ok : ∀ k, k < 0 → parseFieldDescriptor (TJ2 k).2.2.1 = some (tyJ2 k) := by decide +kernel
abbrev cJ2_getChar_3b067 : ByteArray := prog_14_method_5_code
def yJ2_getChar_3b067 : MethodName := ⟨RJ2, "getChar", "([BI)C"⟩
abbrev cJ2_length_9d52b : ByteArray := prog_14_method_6_code
def yJ2_length_9d52b : MethodName := ⟨RJ2, "length", "([B)I"⟩
abbrev cJ2_charAt_3b067 : ByteArray := prog_14_method_83_code
def yJ2_charAt_3b067 : MethodName := ⟨RJ2, "charAt", "([BI)C"⟩
abbrev cJ2_checkIndex_2214a : ByteArray := prog_14_method_91_code
def yJ2_checkIndex_2214a : MethodName := ⟨RJ2, "checkIndex", "(I[B)V"⟩
def RJ10 : String := "java/lang/System"
def TJ10 : u_T := fun k => match k with
  | _ => ("", "", "", false)
def tyJ10 : Nat → FieldType := fun k => match k with
  | _ => .int
abbrev wsJ100 : List Cond := u_ws RJ10 TJ10 0
theorem nmJ10 : ∀ a, a < 0 → ∀ b, b < 0 → a ≠ b → (TJ10 a).2.1 ≠ (TJ10 b).2.1 := by decide +kernel
theorem tyJ10_ok : ∀ k, k < 0 → parseFieldDescriptor (TJ10 k).2.2.1 = some (tyJ10 k) := by decide +kernel
def RJ3 : String := "jdk/internal/util/Preconditions"
def TJ3 : u_T := fun k => match k with
  | _ => ("", "", "", false)
def tyJ3 : Nat → FieldType := fun k => match k with
  | _ => .int
abbrev wsJ30 : List Cond := u_ws RJ3 TJ3 0
theorem nmJ3 : ∀ a, a < 0 → ∀ b, b < 0 → a ≠ b → (TJ3 a).2.1 ≠ (TJ3 b).2.1 := by decide +kernel
theorem tyJ3_ok : ∀ k, k < 0 → parseFieldDescriptor (TJ3 k).2.2.1 = some (tyJ3 k) := by decide +kernel
abbrev cJ3_checkIndex_8e157 : ByteArray := prog_16_method_11_code
def yJ3_checkIndex_8e157 : MethodName := ⟨RJ3, "checkIndex", "(IILjava/util/function/BiFunction;)I"⟩
def RL : String := "LightYearsAreOwedLaw"
abbrev cL_law : ByteArray := code
def yL_law : MethodName := ⟨RL, "law", "([I)Z"⟩
def wsL_law_r1 : List Cond := [Cond.classLink RL 7 RX6, Cond.instantiable RX6 9, Cond.initialized RX6, Cond.classLink RL 10 RX7, Cond.instantiable RX7 50, Cond.initialized RX7, Cond.methodLink RL 9 yX6_init, Cond.instanceMethod yX6_init, Cond.code yX6_init cX6_init 2 none, Cond.methodLink RX6 1 objectInit, Cond.instanceMethod objectInit, Cond.code objectInit ⟨#[0xb1]⟩ 1 none, Cond.classLink RX6 7 RX5, Cond.instantiable RX5 11, Cond.initialized RX5, Cond.fieldLink RX6 10 "LightYearsAreOwed" "sky" "LLightYearsAreOwed$Sky;", Cond.fieldLink RX6 16 "LightYearsAreOwed" "kept" "LLightYearsAreOwed$Sky;", Cond.classLink RX6 19 RX4, Cond.fieldLink RX6 21 "LightYearsAreOwed" "rules" "[LLightYearsAreOwed$Rule;", Cond.classLink RX6 25 RX1, Cond.instantiable RX1 3, Cond.initialized RX1, Cond.fieldLink RX6 28 "LightYearsAreOwed" "purse" "LLightYearsAreOwed$Purse;", Cond.classLink RX6 32 RX3]
def wsL_law_r2 : List Cond := [Cond.fieldLink RX6 34 "LightYearsAreOwed" "rows" "[LLightYearsAreOwed$Row;", Cond.instantiable RX4 4, Cond.initialized RX4, Cond.instantiable RX3 3, Cond.initialized RX3, Cond.fieldLink RX6 40 "LightYearsAreOwed$Sky" "bright" "[I", Cond.classLink RX6 44 RX2, Cond.instantiable RX2 8, Cond.initialized RX2, Cond.fieldLink RX6 49 "LightYearsAreOwed" "reader" "LLightYearsAreOwed$Reader;", Cond.classLink RX6 53 RX0, Cond.instantiable RX0 9, Cond.initialized RX0, Cond.fieldLink RX6 56 "LightYearsAreOwed" "bill" "LLightYearsAreOwed$Bill;", Cond.fieldLink RX6 83 "LightYearsAreOwed" "ruleCount" "I", Cond.instanceMethod yX5_init, Cond.code yX5_init cX5_init 1 none, Cond.methodLink RX5 3 objectInit, Cond.arrayClass .int, Cond.fieldLink RX5 9 "LightYearsAreOwed$Sky" "kinds" "[I", Cond.fieldLink RX5 15 "LightYearsAreOwed$Sky" "numbers" "[I", Cond.fieldLink RX5 18 "LightYearsAreOwed$Sky" "years" "[I", Cond.fieldLink RX5 21 "LightYearsAreOwed$Sky" "seen" "[I", Cond.fieldLink RX5 24 "LightYearsAreOwed$Sky" "miles" "[I"]
def wsL_law_r3 : List Cond := [Cond.fieldLink RX5 27 "LightYearsAreOwed$Sky" "paid" "[I", Cond.fieldLink RX5 30 "LightYearsAreOwed$Sky" "bright" "[I", Cond.fieldLink RX5 33 "LightYearsAreOwed$Sky" "many" "[I", Cond.instanceMethod yX1_init, Cond.code yX1_init cX1_init 1 none, Cond.methodLink RX1 3 objectInit, Cond.fieldLink RX1 9 "LightYearsAreOwed$Purse" "way" "[I", Cond.instanceMethod yX4_init, Cond.code yX4_init cX4_init 1 none, Cond.methodLink RX4 3 objectInit, Cond.fieldLink RX4 9 "LightYearsAreOwed$Rule" "code" "[I", Cond.fieldLink RX4 15 "LightYearsAreOwed$Rule" "ends" "[I", Cond.instanceMethod yX3_init, Cond.code yX3_init cX3_init 1 none, Cond.methodLink RX3 3 objectInit, Cond.fieldLink RX3 9 "LightYearsAreOwed$Row" "sort" "I", Cond.fieldLink RX3 15 "LightYearsAreOwed$Row" "items" "[I", Cond.methodLink RX6 46 yX2_init, Cond.instanceMethod yX2_init, Cond.code yX2_init cX2_init 2 none, Cond.methodLink RX2 3 objectInit, Cond.fieldLink RX2 9 "LightYearsAreOwed$Reader" "tape" "[I", Cond.fieldLink RX2 15 "LightYearsAreOwed$Reader" "rule" "LLightYearsAreOwed$Rule;", Cond.methodLink RX6 55 yX0_init]
def wsL_law_r4 : List Cond := [Cond.instanceMethod yX0_init, Cond.code yX0_init cX0_init 2 none, Cond.methodLink RX0 3 objectInit, Cond.fieldLink RX0 9 "LightYearsAreOwed$Bill" "kinds" "[I", Cond.fieldLink RX0 15 "LightYearsAreOwed$Bill" "numbers" "[I", Cond.fieldLink RX0 18 "LightYearsAreOwed$Bill" "years" "[I", Cond.fieldLink RX0 21 "LightYearsAreOwed$Bill" "seen" "[I", Cond.fieldLink RX0 24 "LightYearsAreOwed$Bill" "names" "[I", Cond.fieldLink RX0 27 "LightYearsAreOwed$Bill" "stack" "[I", Cond.fieldLink RX0 30 "LightYearsAreOwed$Bill" "rule" "LLightYearsAreOwed$Rule;", Cond.methodLink RX6 62 yJ0_length_8abf5, Cond.instanceMethod yJ0_length_8abf5, Cond.selects RJ0 yJ0_length_8abf5 yJ0_length_8abf5, Cond.initialized RJ0, Cond.code yJ0_length_8abf5 cJ0_length_8abf5 1 (some .int), Cond.fieldLink RJ0 9 "java/lang/String" "value" "[B", Cond.methodLink RJ0 335 yJ0_coder_7d493, Cond.instanceMethod yJ0_coder_7d493, Cond.selects RJ0 yJ0_coder_7d493 yJ0_coder_7d493, Cond.code yJ0_coder_7d493 cJ0_coder_7d493 1 (some .byte), Cond.fieldLink RJ0 38 "java/lang/String" "COMPACT_STRINGS" "Z", Cond.fieldLink RJ0 15 "java/lang/String" "coder" "B", Cond.methodLink RX6 68 yJ0_charAt_5068e, Cond.instanceMethod yJ0_charAt_5068e]
def wsL_law_r5 : List Cond := [Cond.selects RJ0 yJ0_charAt_5068e yJ0_charAt_5068e, Cond.code yJ0_charAt_5068e cJ0_charAt_5068e 2 (some .char), Cond.methodLink RJ0 492 yJ0_isLatin1_aae02, Cond.instanceMethod yJ0_isLatin1_aae02, Cond.selects RJ0 yJ0_isLatin1_aae02 yJ0_isLatin1_aae02, Cond.code yJ0_isLatin1_aae02 cJ0_isLatin1_aae02 1 (some .boolean), Cond.methodLink RJ0 495 yJ1_charAt_3b067, Cond.static yJ1_charAt_3b067, Cond.initialized RJ1, Cond.code yJ1_charAt_3b067 cJ1_charAt_3b067 2 (some .char), Cond.methodLink RJ1 9 yJ0_checkIndex_df160, Cond.static yJ0_checkIndex_df160, Cond.code yJ0_checkIndex_df160 cJ0_checkIndex_df160 2 none, Cond.fieldLink RJ0 1053 "jdk/internal/util/Preconditions" "SIOOBE_FORMATTER" "Ljava/util/function/BiFunction;", Cond.methodLink RJ0 1059 yJ3_checkIndex_8e157, Cond.static yJ3_checkIndex_8e157, Cond.initialized RJ3, Cond.code yJ3_checkIndex_8e157 cJ3_checkIndex_8e157 3 (some .int), Cond.methodLink RJ0 498 yJ2_charAt_3b067, Cond.static yJ2_charAt_3b067, Cond.initialized RJ2, Cond.code yJ2_charAt_3b067 cJ2_charAt_3b067 2 (some .char), Cond.methodLink RJ2 67 yJ2_checkIndex_2214a, Cond.static yJ2_checkIndex_2214a]
def wsL_law_r6 : List Cond := [Cond.code yJ2_checkIndex_2214a cJ2_checkIndex_2214a 2 none, Cond.methodLink RJ2 48 yJ2_length_9d52b, Cond.static yJ2_length_9d52b, Cond.code yJ2_length_9d52b cJ2_length_9d52b 1 (some .int), Cond.methodLink RJ2 414 yJ0_checkIndex_df160, Cond.methodLink RJ2 71 yJ2_getChar_3b067, Cond.static yJ2_getChar_3b067, Cond.code yJ2_getChar_3b067 cJ2_getChar_3b067 2 (some .char), Cond.fieldLink RJ2 44 "java/lang/StringUTF16" "$assertionsDisabled" "Z", Cond.fieldLink RJ2 59 "java/lang/StringUTF16" "HI_BYTE_SHIFT" "I", Cond.fieldLink RJ2 63 "java/lang/StringUTF16" "LO_BYTE_SHIFT" "I", Cond.methodLink RX6 72 yX2_append, Cond.instanceMethod yX2_append, Cond.selects RX2 yX2_append yX2_append, Cond.code yX2_append cX2_append 2 none, Cond.fieldLink RX2 19 "LightYearsAreOwed$Reader" "size" "I", Cond.methodLink RX6 76 yX2_read, Cond.instanceMethod yX2_read, Cond.selects RX2 yX2_read yX2_read, Cond.code yX2_read cX2_read 3 (some .int), Cond.fieldLink RX2 28 "LightYearsAreOwed$Reader" "fault" "I", Cond.fieldLink RX2 31 "LightYearsAreOwed$Reader" "next" "I", Cond.fieldLink RX2 47 "LightYearsAreOwed$Reader" "token" "I", Cond.methodLink RX2 23 yX4_empty]
def wsL_law_r7 : List Cond := [Cond.instanceMethod yX4_empty, Cond.selects RX4 yX4_empty yX4_empty, Cond.code yX4_empty cX4_empty 1 none, Cond.fieldLink RX4 18 "LightYearsAreOwed$Rule" "size" "I", Cond.fieldLink RX4 22 "LightYearsAreOwed$Rule" "namesNight" "Z", Cond.methodLink RX2 34 yX2_advance, Cond.instanceMethod yX2_advance, Cond.selects RX2 yX2_advance yX2_advance, Cond.code yX2_advance cX2_advance 2 none, Cond.fieldLink RX2 84 "LightYearsAreOwed$Reader" "place" "I", Cond.methodLink RX2 87 yX2_byteAt, Cond.instanceMethod yX2_byteAt, Cond.selects RX2 yX2_byteAt yX2_byteAt, Cond.code yX2_byteAt cX2_byteAt 2 (some .int), Cond.methodLink RX2 91 yX2_isLetter, Cond.static yX2_isLetter, Cond.code yX2_isLetter cX2_isLetter 1 (some .boolean), Cond.methodLink RX2 94 yX2_readWord, Cond.instanceMethod yX2_readWord, Cond.selects RX2 yX2_readWord yX2_readWord, Cond.code yX2_readWord cX2_readWord 3 none, Cond.fieldLink RX2 75 "LightYearsAreOwed$Reader" "value" "I", Cond.methodLink RX2 108 yJ0_length_8abf5, Cond.methodLink RX2 114 yJ0_charAt_5068e]
def wsL_law_r8 : List Cond := [Cond.methodLink RX2 118 yX2_isWord, Cond.instanceMethod yX2_isWord, Cond.selects RX2 yX2_isWord yX2_isWord, Cond.code yX2_isWord cX2_isWord 4 (some .boolean), Cond.methodLink RX2 97 yX2_isDigit, Cond.static yX2_isDigit, Cond.code yX2_isDigit cX2_isDigit 1 (some .boolean), Cond.methodLink RX2 100 yX2_readNumber, Cond.instanceMethod yX2_readNumber, Cond.selects RX2 yX2_readNumber yX2_readNumber, Cond.code yX2_readNumber cX2_readNumber 1 none, Cond.methodLink RX2 103 yX2_isSign, Cond.static yX2_isSign, Cond.code yX2_isSign cX2_isSign 1 (some .boolean), Cond.methodLink RX2 37 yX2_expect, Cond.instanceMethod yX2_expect, Cond.selects RX2 yX2_expect yX2_expect, Cond.code yX2_expect cX2_expect 2 none, Cond.methodLink RX2 50 yX2_fail, Cond.instanceMethod yX2_fail, Cond.selects RX2 yX2_fail yX2_fail, Cond.code yX2_fail cX2_fail 1 none, Cond.methodLink RX2 41 yX2_readEither, Cond.instanceMethod yX2_readEither]
def wsL_law_r9 : List Cond := [Cond.selects RX2 yX2_readEither yX2_readEither, Cond.code yX2_readEither cX2_readEither 3 none, Cond.methodLink RX2 53 yX2_readBoth, Cond.instanceMethod yX2_readBoth, Cond.selects RX2 yX2_readBoth yX2_readBoth, Cond.methodLink RX2 56 yX4_addSign, Cond.instanceMethod yX4_addSign, Cond.selects RX4 yX4_addSign yX4_addSign, Cond.code yX4_addSign cX4_addSign 2 none, Cond.methodLink RX4 26 yX4_add, Cond.instanceMethod yX4_add, Cond.selects RX4 yX4_add yX4_add, Cond.code yX4_add cX4_add 2 none, Cond.code yX2_readBoth cX2_readBoth 3 none, Cond.methodLink RX2 59 yX2_readNot, Cond.instanceMethod yX2_readNot, Cond.selects RX2 yX2_readNot yX2_readNot, Cond.code yX2_readNot cX2_readNot 3 none, Cond.methodLink RX2 62 yX2_opens, Cond.instanceMethod yX2_opens, Cond.selects RX2 yX2_opens yX2_opens, Cond.code yX2_opens cX2_opens 2 (some .boolean), Cond.methodLink RX2 66 yX2_readSum, Cond.instanceMethod yX2_readSum]
def wsL_law_r10 : List Cond := [Cond.selects RX2 yX2_readSum yX2_readSum, Cond.code yX2_readOne cX2_readOne 2 none, Cond.methodLink RX2 78 yX4_add, Cond.methodLink RX2 81 yX4_addName, Cond.instanceMethod yX4_addName, Cond.selects RX4 yX4_addName yX4_addName, Cond.code yX4_addName cX4_addName 2 none, Cond.methodLink RX2 72 yX2_readOne, Cond.instanceMethod yX2_readOne, Cond.selects RX2 yX2_readOne yX2_readOne, Cond.code yX2_readSum cX2_readSum 4 none, Cond.methodLink RX2 69 yX2_readTerm, Cond.instanceMethod yX2_readTerm, Cond.selects RX2 yX2_readTerm yX2_readTerm, Cond.code yX2_readTerm cX2_readTerm 3 none, Cond.methodLink RX2 44 yX4_endPart, Cond.instanceMethod yX4_endPart, Cond.selects RX4 yX4_endPart yX4_endPart, Cond.code yX4_endPart cX4_endPart 2 none, Cond.methodLink RX6 80 yX2_empty, Cond.instanceMethod yX2_empty, Cond.selects RX2 yX2_empty yX2_empty, Cond.code yX2_empty cX2_empty 1 none, Cond.methodLink RL 12 yX7_init]
def wsL_law_r11 : List Cond := [Cond.instanceMethod yX7_init, Cond.code yX7_init cX7_init 1 none, Cond.methodLink RX7 7 objectInit, Cond.fieldLink RX7 13 "LightYearsAreOwedModel" "texts" "[I", Cond.fieldLink RX7 17 "LightYearsAreOwedModel" "textSize" "[I", Cond.fieldLink RX7 20 "LightYearsAreOwedModel" "tape" "[I", Cond.fieldLink RX7 23 "LightYearsAreOwedModel" "kinds" "[I", Cond.fieldLink RX7 26 "LightYearsAreOwedModel" "numbers" "[I", Cond.fieldLink RX7 29 "LightYearsAreOwedModel" "ages" "[I", Cond.fieldLink RX7 32 "LightYearsAreOwedModel" "looked" "[I", Cond.fieldLink RX7 35 "LightYearsAreOwedModel" "miles" "[I", Cond.fieldLink RX7 38 "LightYearsAreOwedModel" "paid" "[I", Cond.fieldLink RX7 41 "LightYearsAreOwedModel" "bright" "[I", Cond.fieldLink RX7 44 "LightYearsAreOwedModel" "stock" "[I", Cond.fieldLink RX7 47 "LightYearsAreOwedModel" "fewest" "[I", Cond.fieldLink RX7 50 "LightYearsAreOwedModel" "lookedWas" "[I", Cond.fieldLink RX7 53 "LightYearsAreOwedModel" "numbersKept" "[I", Cond.fieldLink RX7 56 "LightYearsAreOwedModel" "agesKept" "[I", Cond.fieldLink RX7 59 "LightYearsAreOwedModel" "lookedKept" "[I", Cond.fieldLink RX7 62 "LightYearsAreOwedModel" "milesKept" "[I", Cond.fieldLink RX7 65 "LightYearsAreOwedModel" "paidKept" "[I", Cond.fieldLink RX7 68 "LightYearsAreOwedModel" "brightKept" "[I", Cond.fieldLink RX7 71 "LightYearsAreOwedModel" "stockKept" "[I", Cond.fieldLink RX7 74 "LightYearsAreOwedModel" "manyKept" "I"]
def wsL_law_r12 : List Cond := [Cond.arrayClass .boolean, Cond.fieldLink RX7 77 "LightYearsAreOwedModel" "isThere" "[Z", Cond.fieldLink RX7 81 "LightYearsAreOwedModel" "sorts" "[I", Cond.fieldLink RX7 84 "LightYearsAreOwedModel" "sheetSize" "[I", Cond.fieldLink RX7 87 "LightYearsAreOwedModel" "items" "[I", Cond.fieldLink RX7 94 "LightYearsAreOwedModel" "textCount" "I", Cond.methodLink RX7 90 yX7_spell, Cond.instanceMethod yX7_spell, Cond.selects RX7 yX7_spell yX7_spell, Cond.code yX7_spell cX7_spell 10 none, Cond.methodLink RL 13 yX6_set, Cond.instanceMethod yX6_set, Cond.selects RX6 yX6_set yX6_set, Cond.code yX6_set cX6_set 6 (some .int), Cond.fieldLink RX6 87 "LightYearsAreOwed" "MOST" "[I", Cond.fieldLink RX6 90 "LightYearsAreOwed" "LEAST" "[I", Cond.fieldLink RX6 93 "LightYearsAreOwed$Sky" "clouds" "I", Cond.methodLink RX6 96 yX6_placesOf, Cond.instanceMethod yX6_placesOf, Cond.selects RX6 yX6_placesOf yX6_placesOf, Cond.code yX6_placesOf cX6_placesOf 2 (some (.array .int)), Cond.fieldLink RX6 138 "LightYearsAreOwed$Sky" "numbers" "[I", Cond.fieldLink RX6 141 "LightYearsAreOwed$Sky" "years" "[I", Cond.fieldLink RX6 144 "LightYearsAreOwed$Sky" "miles" "[I"]
def wsL_law_r13 : List Cond := [Cond.fieldLink RX6 147 "LightYearsAreOwed$Sky" "many" "[I", Cond.fieldLink RX6 150 "LightYearsAreOwed$Sky" "kinds" "[I", Cond.methodLink RX6 100 yX6_placeCount, Cond.instanceMethod yX6_placeCount, Cond.selects RX6 yX6_placeCount yX6_placeCount, Cond.code yX6_placeCount cX6_placeCount 2 (some .int), Cond.fieldLink RX6 153 "LightYearsAreOwed$Sky" "lightCount" "I", Cond.methodLink RL 17 yX7_set, Cond.instanceMethod yX7_set, Cond.selects RX7 yX7_set yX7_set, Cond.code yX7_set cX7_set 5 (some .int), Cond.constantLong RX7 115 (5), Cond.methodLink RX7 100 yX7_in, Cond.static yX7_in, Cond.code yX7_in cX7_in 6 (some .boolean), Cond.methodLink RX7 117 yX7_isOf, Cond.instanceMethod yX7_isOf, Cond.selects RX7 yX7_isOf yX7_isOf, Cond.code yX7_isOf cX7_isOf 3 (some .boolean), Cond.constantLong RX7 110 (3), Cond.methodLink RX7 106 yX7_isLight, Cond.instanceMethod yX7_isLight, Cond.selects RX7 yX7_isLight yX7_isLight, Cond.code yX7_isLight cX7_isLight 2 (some .boolean)]
def wsL_law_r14 : List Cond := [Cond.fieldLink RX7 97 "LightYearsAreOwedModel" "many" "I", Cond.methodLink RX7 112 yX7_isLooker, Cond.static yX7_isLooker, Cond.code yX7_isLooker cX7_isLooker 1 (some .boolean), Cond.constantLong RX7 104 (4), Cond.methodLink RX7 121 yX7_mostOf, Cond.static yX7_mostOf, Cond.code yX7_mostOf cX7_mostOf 1 (some .int), Cond.methodLink RX7 125 yX7_told, Cond.instanceMethod yX7_told, Cond.selects RX7 yX7_told yX7_told, Cond.code yX7_told cX7_told 3 (some .int), Cond.constantLong RX7 139 (9), Cond.fieldLink RX7 133 "LightYearsAreOwedModel" "clouds" "I", Cond.methodLink RX7 145 yX7_allOf, Cond.instanceMethod yX7_allOf, Cond.selects RX7 yX7_allOf yX7_allOf, Cond.code yX7_allOf cX7_allOf 2 (some .int), Cond.constant RX7 390 (999999), Cond.methodLink RX7 387 yX7_plainOf, Cond.instanceMethod yX7_plainOf, Cond.selects RX7 yX7_plainOf yX7_plainOf, Cond.code yX7_plainOf cX7_plainOf 4 (some .int), Cond.methodLink RX7 384 yX7_owesFor]
def wsL_law_r15 : List Cond := [Cond.instanceMethod yX7_owesFor, Cond.selects RX7 yX7_owesFor yX7_owesFor, Cond.code yX7_owesFor cX7_owesFor 6 (some .int), Cond.methodLink RX7 362 yX7_nightsOf, Cond.instanceMethod yX7_nightsOf, Cond.selects RX7 yX7_nightsOf yX7_nightsOf, Cond.code yX7_nightsOf cX7_nightsOf 3 (some .int), Cond.methodLink RX7 359 yX7_bitsOf, Cond.static yX7_bitsOf, Cond.code yX7_bitsOf cX7_bitsOf 3 (some .int), Cond.methodLink RX7 373 yX7_extraOf, Cond.instanceMethod yX7_extraOf, Cond.selects RX7 yX7_extraOf yX7_extraOf, Cond.code yX7_extraOf cX7_extraOf 5 (some .int), Cond.methodLink RX7 369 yX7_asks, Cond.instanceMethod yX7_asks, Cond.selects RX7 yX7_asks yX7_asks, Cond.code yX7_asks cX7_asks 5 (some .int), Cond.fieldLink RX7 211 "LightYearsAreOwedModel" "ofYears" "I", Cond.fieldLink RX7 214 "LightYearsAreOwedModel" "ofNights" "I", Cond.fieldLink RX7 217 "LightYearsAreOwedModel" "ofNumber" "I", Cond.fieldLink RX7 220 "LightYearsAreOwedModel" "ofNight" "I", Cond.fieldLink RX7 223 "LightYearsAreOwedModel" "ofCloudy" "I", Cond.fieldLink RX7 226 "LightYearsAreOwedModel" "ofLights" "I"]
def wsL_law_r16 : List Cond := [Cond.fieldLink RX7 136 "LightYearsAreOwedModel" "rule" "I", Cond.methodLink RX7 148 yX7_lightMany, Cond.instanceMethod yX7_lightMany, Cond.selects RX7 yX7_lightMany yX7_lightMany, Cond.code yX7_lightMany cX7_lightMany 4 (some .int), Cond.methodLink RX7 356 yX7_read, Cond.instanceMethod yX7_read, Cond.selects RX7 yX7_read yX7_read, Cond.code yX7_read cX7_read 6 (some .int), Cond.fieldLink RX7 159 "LightYearsAreOwedModel" "from" "I", Cond.fieldLink RX7 156 "LightYearsAreOwedModel" "size" "I", Cond.fieldLink RX7 162 "LightYearsAreOwedModel" "here" "I", Cond.fieldLink RX7 198 "LightYearsAreOwedModel" "open" "I", Cond.fieldLink RX7 188 "LightYearsAreOwedModel" "bad" "Z", Cond.fieldLink RX7 171 "LightYearsAreOwedModel" "token" "I", Cond.methodLink RX7 204 yX7_next, Cond.instanceMethod yX7_next, Cond.selects RX7 yX7_next yX7_next, Cond.code yX7_next cX7_next 3 none, Cond.fieldLink RX7 168 "LightYearsAreOwedModel" "tokenAt" "I", Cond.constantLong RX7 174 (97), Cond.constantLong RX7 176 (122), Cond.constantLong RX7 178 (48), Cond.constantLong RX7 180 (57)]
def wsL_law_r17 : List Cond := [Cond.fieldLink RX7 182 "LightYearsAreOwedModel" "tokenWorth" "J", Cond.constantLong RX7 186 (10), Cond.methodLink RX7 165 yX7_byteAt, Cond.instanceMethod yX7_byteAt, Cond.selects RX7 yX7_byteAt yX7_byteAt, Cond.code yX7_byteAt cX7_byteAt 2 (some .int), Cond.methodLink RX7 207 yX7_isWord, Cond.instanceMethod yX7_isWord, Cond.selects RX7 yX7_isWord yX7_isWord, Cond.code yX7_isWord cX7_isWord 9 (some .boolean), Cond.methodLink RX7 195 yX7_isLetter, Cond.instanceMethod yX7_isLetter, Cond.selects RX7 yX7_isLetter yX7_isLetter, Cond.code yX7_isLetter cX7_isLetter 3 (some .boolean), Cond.methodLink RX7 352 yX7_part, Cond.instanceMethod yX7_part, Cond.selects RX7 yX7_part yX7_part, Cond.code yX7_part cX7_part 3 (some .int), Cond.methodLink RX7 201 yX7_fail, Cond.instanceMethod yX7_fail, Cond.selects RX7 yX7_fail yX7_fail, Cond.code yX7_fail cX7_fail 1 none, Cond.fieldLink RX7 192 "LightYearsAreOwedModel" "fault" "I", Cond.methodLink RX7 349 yX7_either0]
def wsL_law_r18 : List Cond := [Cond.instanceMethod yX7_either0, Cond.selects RX7 yX7_either0 yX7_either0, Cond.code yX7_either0 cX7_either0 3 (some .int), Cond.methodLink RX7 346 yX7_both0, Cond.instanceMethod yX7_both0, Cond.selects RX7 yX7_both0 yX7_both0, Cond.code yX7_both0 cX7_both0 3 (some .int), Cond.methodLink RX7 343 yX7_not0, Cond.instanceMethod yX7_not0, Cond.selects RX7 yX7_not0 yX7_not0, Cond.code yX7_not0 cX7_not0 4 (some .int), Cond.constantLong RX7 251 (60), Cond.methodLink RX7 232 yX7_opens, Cond.instanceMethod yX7_opens, Cond.selects RX7 yX7_opens yX7_opens, Cond.code yX7_opens cX7_opens 1 (some .boolean), Cond.methodLink RX7 325 yX7_not1, Cond.instanceMethod yX7_not1, Cond.selects RX7 yX7_not1 yX7_not1, Cond.code yX7_not1 cX7_not1 4 (some .int), Cond.methodLink RX7 307 yX7_not2, Cond.instanceMethod yX7_not2, Cond.selects RX7 yX7_not2 yX7_not2, Cond.code yX7_not2 cX7_not2 4 (some .int)]
def wsL_law_r19 : List Cond := [Cond.methodLink RX7 289 yX7_not3, Cond.instanceMethod yX7_not3, Cond.selects RX7 yX7_not3 yX7_not3, Cond.code yX7_not3 cX7_not3 4 (some .int), Cond.methodLink RX7 271 yX7_not4, Cond.instanceMethod yX7_not4, Cond.selects RX7 yX7_not4 yX7_not4, Cond.code yX7_not4 cX7_not4 4 (some .int), Cond.methodLink RX7 253 yX7_not5, Cond.instanceMethod yX7_not5, Cond.selects RX7 yX7_not5 yX7_not5, Cond.code yX7_not5 cX7_not5 4 (some .int), Cond.methodLink RX7 248 yX7_added5, Cond.instanceMethod yX7_added5, Cond.selects RX7 yX7_added5 yX7_added5, Cond.code yX7_added5 cX7_added5 4 (some .int), Cond.constantLong RX7 246 (43), Cond.methodLink RX7 243 yX7_term5, Cond.instanceMethod yX7_term5, Cond.selects RX7 yX7_term5 yX7_term5, Cond.code yX7_term5 cX7_term5 2 (some .int), Cond.methodLink RX7 240 yX7_atom5, Cond.instanceMethod yX7_atom5, Cond.selects RX7 yX7_atom5 yX7_atom5]
def wsL_law_r20 : List Cond := [Cond.code yX7_atom5 cX7_atom5 2 (some .int), Cond.methodLink RX7 229 yX7_isSign, Cond.instanceMethod yX7_isSign, Cond.selects RX7 yX7_isSign yX7_isSign, Cond.code yX7_isSign cX7_isSign 2 (some .boolean), Cond.methodLink RX7 236 yX7_name, Cond.instanceMethod yX7_name, Cond.selects RX7 yX7_name yX7_name, Cond.code yX7_name cX7_name 1 (some .int), Cond.methodLink RX7 268 yX7_added4, Cond.instanceMethod yX7_added4, Cond.selects RX7 yX7_added4 yX7_added4, Cond.code yX7_added4 cX7_added4 4 (some .int), Cond.methodLink RX7 265 yX7_term4, Cond.instanceMethod yX7_term4, Cond.selects RX7 yX7_term4 yX7_term4, Cond.code yX7_term4 cX7_term4 2 (some .int), Cond.methodLink RX7 262 yX7_atom4, Cond.instanceMethod yX7_atom4, Cond.selects RX7 yX7_atom4 yX7_atom4, Cond.code yX7_atom4 cX7_atom4 2 (some .int), Cond.methodLink RX7 259 yX7_either5, Cond.instanceMethod yX7_either5, Cond.selects RX7 yX7_either5 yX7_either5]
def wsL_law_r21 : List Cond := [Cond.code yX7_either5 cX7_either5 3 (some .int), Cond.methodLink RX7 256 yX7_both5, Cond.instanceMethod yX7_both5, Cond.selects RX7 yX7_both5 yX7_both5, Cond.code yX7_both5 cX7_both5 3 (some .int), Cond.methodLink RX7 286 yX7_added3, Cond.instanceMethod yX7_added3, Cond.selects RX7 yX7_added3 yX7_added3, Cond.code yX7_added3 cX7_added3 4 (some .int), Cond.methodLink RX7 283 yX7_term3, Cond.instanceMethod yX7_term3, Cond.selects RX7 yX7_term3 yX7_term3, Cond.code yX7_term3 cX7_term3 2 (some .int), Cond.methodLink RX7 280 yX7_atom3, Cond.instanceMethod yX7_atom3, Cond.selects RX7 yX7_atom3 yX7_atom3, Cond.code yX7_atom3 cX7_atom3 2 (some .int), Cond.methodLink RX7 277 yX7_either4, Cond.instanceMethod yX7_either4, Cond.selects RX7 yX7_either4 yX7_either4, Cond.code yX7_either4 cX7_either4 3 (some .int), Cond.methodLink RX7 274 yX7_both4, Cond.instanceMethod yX7_both4, Cond.selects RX7 yX7_both4 yX7_both4]
def wsL_law_r22 : List Cond := [Cond.code yX7_both4 cX7_both4 3 (some .int), Cond.methodLink RX7 304 yX7_added2, Cond.instanceMethod yX7_added2, Cond.selects RX7 yX7_added2 yX7_added2, Cond.code yX7_added2 cX7_added2 4 (some .int), Cond.methodLink RX7 301 yX7_term2, Cond.instanceMethod yX7_term2, Cond.selects RX7 yX7_term2 yX7_term2, Cond.code yX7_term2 cX7_term2 2 (some .int), Cond.methodLink RX7 298 yX7_atom2, Cond.instanceMethod yX7_atom2, Cond.selects RX7 yX7_atom2 yX7_atom2, Cond.code yX7_atom2 cX7_atom2 2 (some .int), Cond.methodLink RX7 295 yX7_either3, Cond.instanceMethod yX7_either3, Cond.selects RX7 yX7_either3 yX7_either3, Cond.code yX7_either3 cX7_either3 3 (some .int), Cond.methodLink RX7 292 yX7_both3, Cond.instanceMethod yX7_both3, Cond.selects RX7 yX7_both3 yX7_both3, Cond.code yX7_both3 cX7_both3 3 (some .int), Cond.methodLink RX7 322 yX7_added1, Cond.instanceMethod yX7_added1, Cond.selects RX7 yX7_added1 yX7_added1]
def wsL_law_r23 : List Cond := [Cond.code yX7_added1 cX7_added1 4 (some .int), Cond.methodLink RX7 319 yX7_term1, Cond.instanceMethod yX7_term1, Cond.selects RX7 yX7_term1 yX7_term1, Cond.code yX7_term1 cX7_term1 2 (some .int), Cond.methodLink RX7 316 yX7_atom1, Cond.instanceMethod yX7_atom1, Cond.selects RX7 yX7_atom1 yX7_atom1, Cond.code yX7_atom1 cX7_atom1 2 (some .int), Cond.methodLink RX7 313 yX7_either2, Cond.instanceMethod yX7_either2, Cond.selects RX7 yX7_either2 yX7_either2, Cond.code yX7_either2 cX7_either2 3 (some .int), Cond.methodLink RX7 310 yX7_both2, Cond.instanceMethod yX7_both2, Cond.selects RX7 yX7_both2 yX7_both2, Cond.code yX7_both2 cX7_both2 3 (some .int), Cond.methodLink RX7 340 yX7_added0, Cond.instanceMethod yX7_added0, Cond.selects RX7 yX7_added0 yX7_added0, Cond.code yX7_added0 cX7_added0 4 (some .int), Cond.methodLink RX7 337 yX7_term0, Cond.instanceMethod yX7_term0, Cond.selects RX7 yX7_term0 yX7_term0]
def wsL_law_r24 : List Cond := [Cond.code yX7_term0 cX7_term0 2 (some .int), Cond.methodLink RX7 334 yX7_atom0, Cond.instanceMethod yX7_atom0, Cond.selects RX7 yX7_atom0 yX7_atom0, Cond.code yX7_atom0 cX7_atom0 2 (some .int), Cond.methodLink RX7 331 yX7_either1, Cond.instanceMethod yX7_either1, Cond.selects RX7 yX7_either1 yX7_either1, Cond.code yX7_either1 cX7_either1 3 (some .int), Cond.methodLink RX7 328 yX7_both1, Cond.instanceMethod yX7_both1, Cond.selects RX7 yX7_both1 yX7_both1, Cond.code yX7_both1 cX7_both1 3 (some .int), Cond.methodLink RX7 365 yX7_within, Cond.static yX7_within, Cond.code yX7_within cX7_within 3 (some .int), Cond.methodLink RX7 376 yX7_offOf, Cond.instanceMethod yX7_offOf, Cond.selects RX7 yX7_offOf yX7_offOf, Cond.code yX7_offOf cX7_offOf 5 (some .int), Cond.methodLink RX7 379 yX7_dueOf, Cond.instanceMethod yX7_dueOf, Cond.selects RX7 yX7_dueOf yX7_dueOf, Cond.code yX7_dueOf cX7_dueOf 7 (some .int)]
def wsL_law_r25 : List Cond := [Cond.methodLink RX7 129 yX7_lays, Cond.instanceMethod yX7_lays, Cond.selects RX7 yX7_lays yX7_lays, Cond.code yX7_lays cX7_lays 4 none, Cond.methodLink RL 18 yX6_light, Cond.instanceMethod yX6_light, Cond.selects RX6 yX6_light yX6_light, Cond.code yX6_light cX6_light 4 (some .int), Cond.methodLink RX6 104 yX6_between, Cond.static yX6_between, Cond.code yX6_between cX6_between 3 (some .boolean), Cond.methodLink RX6 108 yX5_addLight, Cond.instanceMethod yX5_addLight, Cond.selects RX5 yX5_addLight yX5_addLight, Cond.code yX5_addLight cX5_addLight 6 (some .int), Cond.fieldLink RX5 43 "LightYearsAreOwed$Sky" "lightCount" "I", Cond.methodLink RL 21 yX7_light, Cond.instanceMethod yX7_light, Cond.selects RX7 yX7_light yX7_light, Cond.code yX7_light cX7_light 5 (some .int), Cond.constantLong RX7 141 (999), Cond.methodLink RL 22 yX6_look, Cond.instanceMethod yX6_look, Cond.selects RX6 yX6_look yX6_look]
def wsL_law_r26 : List Cond := [Cond.code yX6_look cX6_look 6 (some .int), Cond.fieldLink RX6 119 "LightYearsAreOwed$Sky" "seen" "[I", Cond.methodLink RX6 112 yX6_isLooker, Cond.static yX6_isLooker, Cond.code yX6_isLooker cX6_isLooker 1 (some .boolean), Cond.methodLink RX6 116 yX6_isLight, Cond.instanceMethod yX6_isLight, Cond.selects RX6 yX6_isLight yX6_isLight, Cond.code yX6_isLight cX6_isLight 2 (some .boolean), Cond.methodLink RL 25 yX7_look, Cond.instanceMethod yX7_look, Cond.selects RX7 yX7_look yX7_look, Cond.code yX7_look cX7_look 5 (some .int), Cond.constantLong RX7 143 (4095), Cond.methodLink RL 26 yX6_told, Cond.instanceMethod yX6_told, Cond.selects RX6 yX6_told yX6_told, Cond.code yX6_told cX6_told 4 (some .int), Cond.methodLink RX6 122 yX6_toldOfLooker, Cond.instanceMethod yX6_toldOfLooker, Cond.selects RX6 yX6_toldOfLooker yX6_toldOfLooker, Cond.code yX6_toldOfLooker cX6_toldOfLooker 3 (some .int), Cond.fieldLink RX6 126 "LightYearsAreOwed$Sky" "paid" "[I", Cond.methodLink RX6 129 yX6_allOf]
def wsL_law_r27 : List Cond := [Cond.instanceMethod yX6_allOf, Cond.selects RX6 yX6_allOf yX6_allOf, Cond.code yX6_allOf cX6_allOf 3 (some .int), Cond.fieldLink RX6 194 "LightYearsAreOwed$Bill" "clouds" "I", Cond.methodLink RX6 215 Lib.Math.max.name, Cond.static Lib.Math.max.name, Cond.initialized "java/lang/Math", Cond.code Lib.Math.max.name Lib.Math.max.code 2 (some .int), Cond.methodLink RX6 132 yX6_openBill, Cond.instanceMethod yX6_openBill, Cond.selects RX6 yX6_openBill yX6_openBill, Cond.code yX6_openBill cX6_openBill 2 none, Cond.fieldLink RX6 159 "LightYearsAreOwed$Sky" "rule" "I", Cond.methodLink RX6 246 yX6_ruleOf, Cond.instanceMethod yX6_ruleOf, Cond.selects RX6 yX6_ruleOf yX6_ruleOf, Cond.code yX6_ruleOf cX6_ruleOf 2 (some (.object "LightYearsAreOwed$Rule")), Cond.methodLink RX6 304 yX0_open, Cond.instanceMethod yX0_open, Cond.selects RX0 yX0_open yX0_open, Cond.code yX0_open cX0_open 6 none, Cond.fieldLink RX0 34 "LightYearsAreOwed$Sky" "clouds" "I", Cond.fieldLink RX0 40 "LightYearsAreOwed$Bill" "clouds" "I", Cond.fieldLink RX0 41 "LightYearsAreOwed$Sky" "lightCount" "I"]
def wsL_law_r28 : List Cond := [Cond.methodLink RX0 44 Lib.Math.min.name, Cond.static Lib.Math.min.name, Cond.code Lib.Math.min.name Lib.Math.min.code 2 (some .int), Cond.fieldLink RX0 50 "LightYearsAreOwed$Bill" "lightCount" "I", Cond.fieldLink RX0 51 "LightYearsAreOwed$Sky" "kinds" "[I", Cond.fieldLink RX0 52 "LightYearsAreOwed$Sky" "numbers" "[I", Cond.fieldLink RX0 53 "LightYearsAreOwed$Sky" "years" "[I", Cond.fieldLink RX0 54 "LightYearsAreOwed$Sky" "seen" "[I", Cond.methodLink RX6 195 yX0_sum, Cond.instanceMethod yX0_sum, Cond.selects RX0 yX0_sum yX0_sum, Cond.code yX0_sum cX0_sum 3 (some .int), Cond.methodLink RX0 61 yX0_owed, Cond.instanceMethod yX0_owed, Cond.selects RX0 yX0_owed yX0_owed, Cond.code yX0_owed cX0_owed 7 (some .int), Cond.fieldLink RX0 72 "LightYearsAreOwed$Rule" "namesNight" "Z", Cond.methodLink RX0 92 Lib.Math.max.name, Cond.methodLink RX0 69 yX0_giveNames, Cond.instanceMethod yX0_giveNames, Cond.selects RX0 yX0_giveNames yX0_giveNames, Cond.code yX0_giveNames cX0_giveNames 3 (some .int), Cond.methodLink RX0 55 yJ6_bitCount_0f7a4, Cond.static yJ6_bitCount_0f7a4]
def wsL_law_r29 : List Cond := [Cond.initialized RJ6, Cond.code yJ6_bitCount_0f7a4 cJ6_bitCount_0f7a4 1 (some .int), Cond.constant RJ6 265 (1431655765), Cond.constant RJ6 266 (858993459), Cond.constant RJ6 267 (252645135), Cond.methodLink RX0 95 yX0_lightsSeen, Cond.instanceMethod yX0_lightsSeen, Cond.selects RX0 yX0_lightsSeen yX0_lightsSeen, Cond.code yX0_lightsSeen cX0_lightsSeen 3 (some .int), Cond.methodLink RX0 78 yX4_tell, Cond.instanceMethod yX4_tell, Cond.selects RX4 yX4_tell yX4_tell, Cond.code yX4_tell cX4_tell 7 (some .int), Cond.methodLink RX4 30 yX4_joined, Cond.static yX4_joined, Cond.code yX4_joined cX4_joined 3 (some .int), Cond.methodLink RX0 82 yX0_due, Cond.instanceMethod yX0_due, Cond.selects RX0 yX0_due yX0_due, Cond.code yX0_due cX0_due 5 (some .int), Cond.methodLink RX0 99 yX0_bounded, Cond.static yX0_bounded, Cond.code yX0_bounded cX0_bounded 2 (some .int), Cond.methodLink RX0 86 yX0_extra]
def wsL_law_r30 : List Cond := [Cond.instanceMethod yX0_extra, Cond.selects RX0 yX0_extra yX0_extra, Cond.code yX0_extra cX0_extra 5 (some .int), Cond.methodLink RX0 89 yX0_off, Cond.instanceMethod yX0_off, Cond.selects RX0 yX0_off yX0_off, Cond.code yX0_off cX0_off 4 (some .int), Cond.methodLink RX6 135 yX0_lightsSeen, Cond.methodLink RL 30 yX7_told, Cond.methodLink RL 31 yX6_feed, Cond.instanceMethod yX6_feed, Cond.selects RX6 yX6_feed yX6_feed, Cond.code yX6_feed cX6_feed 2 (some .int), Cond.fieldLink RX6 156 "LightYearsAreOwed$Reader" "size" "I", Cond.methodLink RL 35 yX7_feed, Cond.instanceMethod yX7_feed, Cond.selects RX7 yX7_feed yX7_feed, Cond.code yX7_feed cX7_feed 2 (some .int), Cond.constantLong RX7 151 (255), Cond.fieldLink RX7 153 "LightYearsAreOwedModel" "taped" "I", Cond.methodLink RL 36 yX6_text, Cond.instanceMethod yX6_text, Cond.selects RX6 yX6_text yX6_text, Cond.code yX6_text cX6_text 2 (some .int)]
def wsL_law_r31 : List Cond := [Cond.methodLink RL 40 yX7_text, Cond.instanceMethod yX7_text, Cond.selects RX7 yX7_text yX7_text, Cond.code yX7_text cX7_text 2 (some .int), Cond.methodLink RL 41 yX6_force, Cond.instanceMethod yX6_force, Cond.selects RX6 yX6_force yX6_force, Cond.code yX6_force cX6_force 3 (some .int), Cond.methodLink RL 44 yX7_force, Cond.instanceMethod yX7_force, Cond.selects RX7 yX7_force yX7_force, Cond.code yX7_force cX7_force 3 (some .int), Cond.methodLink RL 45 yX6_owes, Cond.instanceMethod yX6_owes, Cond.selects RX6 yX6_owes yX6_owes, Cond.code yX6_owes cX6_owes 4 (some .int), Cond.methodLink RX6 162 yX0_owed, Cond.methodLink RX6 165 yX0_nightsOf, Cond.instanceMethod yX0_nightsOf, Cond.selects RX0 yX0_nightsOf yX0_nightsOf, Cond.code yX0_nightsOf cX0_nightsOf 2 (some .int), Cond.methodLink RX6 168 yX0_dueFor, Cond.instanceMethod yX0_dueFor, Cond.selects RX0 yX0_dueFor yX0_dueFor]
def wsL_law_r32 : List Cond := [Cond.code yX0_dueFor cX0_dueFor 4 (some .int), Cond.methodLink RL 48 yX7_owes, Cond.instanceMethod yX7_owes, Cond.selects RX7 yX7_owes yX7_owes, Cond.code yX7_owes cX7_owes 4 (some .int), Cond.constantLong RX7 382 (21), Cond.methodLink RL 49 yX6_all, Cond.instanceMethod yX6_all, Cond.selects RX6 yX6_all yX6_all, Cond.code yX6_all cX6_all 2 (some .int), Cond.methodLink RX6 171 yX6_allTogether, Cond.instanceMethod yX6_allTogether, Cond.selects RX6 yX6_allTogether yX6_allTogether, Cond.code yX6_allTogether cX6_allTogether 4 (some .int), Cond.methodLink RX6 174 yX6_whoOwesMost, Cond.instanceMethod yX6_whoOwesMost, Cond.selects RX6 yX6_whoOwesMost yX6_whoOwesMost, Cond.code yX6_whoOwesMost cX6_whoOwesMost 5 (some .int), Cond.methodLink RX6 177 yX5_worth, Cond.instanceMethod yX5_worth, Cond.selects RX5 yX5_worth yX5_worth, Cond.code yX5_worth cX5_worth 3 (some .int), Cond.methodLink RL 52 yX7_all, Cond.instanceMethod yX7_all]
def wsL_law_r33 : List Cond := [Cond.selects RX7 yX7_all yX7_all, Cond.code yX7_all cX7_all 6 (some .int), Cond.constantLong RX7 391 (2), Cond.methodLink RX7 393 yX7_allSum, Cond.instanceMethod yX7_allSum, Cond.selects RX7 yX7_allSum yX7_allSum, Cond.code yX7_allSum cX7_allSum 3 (some .int), Cond.methodLink RL 53 yX6_pieces, Cond.instanceMethod yX6_pieces, Cond.selects RX6 yX6_pieces yX6_pieces, Cond.code yX6_pieces cX6_pieces 3 (some .int), Cond.fieldLink RX6 184 "LightYearsAreOwed$Purse" "fewest" "I", Cond.fieldLink RX6 187 "LightYearsAreOwed$Purse" "shortBy" "I", Cond.methodLink RX6 180 yX1_seek, Cond.instanceMethod yX1_seek, Cond.selects RX1 yX1_seek yX1_seek, Cond.code yX1_seek cX1_seek 12 none, Cond.fieldLink RX1 15 "LightYearsAreOwed$Purse" "fewest" "I", Cond.fieldLink RX1 19 "LightYearsAreOwed$Purse" "shortBy" "I", Cond.methodLink RX1 26 Lib.Math.min.name, Cond.methodLink RX1 22 yX1_most, Cond.static yX1_most, Cond.code yX1_most cX1_most 4 (some .int), Cond.methodLink RX1 32 yX1_keep]
def wsL_law_r34 : List Cond := [Cond.instanceMethod yX1_keep, Cond.selects RX1 yX1_keep yX1_keep, Cond.code yX1_keep cX1_keep 5 none, Cond.methodLink RL 56 yX7_pieces, Cond.instanceMethod yX7_pieces, Cond.selects RX7 yX7_pieces yX7_pieces, Cond.code yX7_pieces cX7_pieces 5 (some .int), Cond.constant RX7 396 (1000000), Cond.methodLink RX7 397 yX7_sums, Cond.instanceMethod yX7_sums, Cond.selects RX7 yX7_sums yX7_sums, Cond.code yX7_sums cX7_sums 7 none, Cond.methodLink RX7 400 yX7_fewestFor, Cond.instanceMethod yX7_fewestFor, Cond.selects RX7 yX7_fewestFor yX7_fewestFor, Cond.code yX7_fewestFor cX7_fewestFor 2 (some .int), Cond.methodLink RL 57 yX6_pay, Cond.instanceMethod yX6_pay, Cond.selects RX6 yX6_pay yX6_pay, Cond.code yX6_pay cX6_pay 4 (some .int), Cond.fieldLink RX6 190 "LightYearsAreOwed$Purse" "way" "[I", Cond.methodLink RL 60 yX7_pay, Cond.instanceMethod yX7_pay, Cond.selects RX7 yX7_pay yX7_pay]
def wsL_law_r35 : List Cond := [Cond.code yX7_pay cX7_pay 8 (some .int), Cond.methodLink RL 61 yX6_cheapest, Cond.instanceMethod yX6_cheapest, Cond.selects RX6 yX6_cheapest yX6_cheapest, Cond.code yX6_cheapest cX6_cheapest 10 (some .int), Cond.fieldLink RX6 193 "LightYearsAreOwed$Bill" "seen" "[I", Cond.methodLink RL 64 yX7_cheapest, Cond.instanceMethod yX7_cheapest, Cond.selects RX7 yX7_cheapest yX7_cheapest, Cond.code yX7_cheapest cX7_cheapest 8 (some .int), Cond.fieldLink RX7 403 "LightYearsAreOwedModel" "found1" "I", Cond.fieldLink RX7 406 "LightYearsAreOwedModel" "value1" "I", Cond.methodLink RL 65 yX6_leave, Cond.instanceMethod yX6_leave, Cond.selects RX6 yX6_leave yX6_leave, Cond.code yX6_leave cX6_leave 8 (some .int), Cond.methodLink RL 68 yX7_leave, Cond.instanceMethod yX7_leave, Cond.selects RX7 yX7_leave yX7_leave, Cond.code yX7_leave cX7_leave 6 (some .int), Cond.methodLink RL 69 yX6_farm, Cond.instanceMethod yX6_farm, Cond.selects RX6 yX6_farm yX6_farm, Cond.code yX6_farm cX6_farm 4 (some .int)]
def wsL_law_r36 : List Cond := [Cond.constant RX6 198 (99999), Cond.methodLink RX6 199 yX0_keepNights, Cond.instanceMethod yX0_keepNights, Cond.selects RX0 yX0_keepNights yX0_keepNights, Cond.code yX0_keepNights cX0_keepNights 3 none, Cond.methodLink RL 72 yX7_farm, Cond.instanceMethod yX7_farm, Cond.selects RX7 yX7_farm yX7_farm, Cond.code yX7_farm cX7_farm 6 (some .int), Cond.constantLong RX7 409 (99999), Cond.methodLink RL 73 yX6_walk, Cond.instanceMethod yX6_walk, Cond.selects RX6 yX6_walk yX6_walk, Cond.code yX6_walk cX6_walk 9 (some .int), Cond.methodLink RX6 210 Lib.Math.min.name, Cond.methodLink RX6 218 Lib.Math.abs.name, Cond.static Lib.Math.abs.name, Cond.code Lib.Math.abs.name Lib.Math.abs.code 1 (some .int), Cond.methodLink RX6 202 yX6_whoOwe, Cond.instanceMethod yX6_whoOwe, Cond.selects RX6 yX6_whoOwe yX6_whoOwe, Cond.code yX6_whoOwe cX6_whoOwe 4 (some .int), Cond.methodLink RX6 205 yJ6_bitCount_0f7a4, Cond.methodLink RX6 221 yX6_firstAt]
def wsL_law_r37 : List Cond := [Cond.instanceMethod yX6_firstAt, Cond.selects RX6 yX6_firstAt yX6_firstAt, Cond.code yX6_firstAt cX6_firstAt 4 (some .int), Cond.methodLink RL 76 yX7_walk, Cond.instanceMethod yX7_walk, Cond.selects RX7 yX7_walk yX7_walk, Cond.code yX7_walk cX7_walk 9 (some .int), Cond.constantLong RX7 411 (99), Cond.methodLink RX7 413 yX7_apart, Cond.static yX7_apart, Cond.code yX7_apart cX7_apart 2 (some .int), Cond.methodLink RL 77 yX6_tells, Cond.instanceMethod yX6_tells, Cond.selects RX6 yX6_tells yX6_tells, Cond.code yX6_tells cX6_tells 6 (some .int), Cond.fieldLink RX6 227 "LightYearsAreOwed$Row" "sort" "I", Cond.fieldLink RX6 230 "LightYearsAreOwed$Row" "size" "I", Cond.methodLink RX6 224 yX6_isSheet, Cond.static yX6_isSheet, Cond.code yX6_isSheet cX6_isSheet 1 (some .boolean), Cond.methodLink RX6 231 yX0_firstOtherwise, Cond.instanceMethod yX0_firstOtherwise, Cond.selects RX0 yX0_firstOtherwise yX0_firstOtherwise, Cond.code yX0_firstOtherwise cX0_firstOtherwise 4 (some .int)]
def wsL_law_r38 : List Cond := [Cond.methodLink RX0 64 yX3_item, Cond.instanceMethod yX3_item, Cond.selects RX3 yX3_item yX3_item, Cond.code yX3_item cX3_item 2 (some .int), Cond.fieldLink RX3 28 "LightYearsAreOwed$Row" "size" "I", Cond.methodLink RX6 235 yX6_textsThatFit, Cond.instanceMethod yX6_textsThatFit, Cond.selects RX6 yX6_textsThatFit yX6_textsThatFit, Cond.code yX6_textsThatFit cX6_textsThatFit 4 (some .int), Cond.fieldLink RX6 250 "LightYearsAreOwed$Bill" "rule" "LLightYearsAreOwed$Rule;", Cond.methodLink RX6 239 yX6_cloudsThatFit, Cond.instanceMethod yX6_cloudsThatFit, Cond.selects RX6 yX6_cloudsThatFit yX6_cloudsThatFit, Cond.code yX6_cloudsThatFit cX6_cloudsThatFit 4 (some .int), Cond.methodLink RX6 242 yX6_traitsThatFit, Cond.instanceMethod yX6_traitsThatFit, Cond.selects RX6 yX6_traitsThatFit yX6_traitsThatFit, Cond.code yX6_traitsThatFit cX6_traitsThatFit 12 (some .int), Cond.fieldLink RX6 253 "LightYearsAreOwed$Bill" "kinds" "[I", Cond.fieldLink RX6 254 "LightYearsAreOwed$Bill" "numbers" "[I", Cond.fieldLink RX6 255 "LightYearsAreOwed$Bill" "years" "[I", Cond.methodLink RX6 256 yX3_item, Cond.methodLink RL 80 yX7_tells, Cond.instanceMethod yX7_tells]
def wsL_law_r39 : List Cond := [Cond.selects RX7 yX7_tells yX7_tells, Cond.code yX7_tells cX7_tells 13 (some .int), Cond.constantLong RX7 419 (49), Cond.methodLink RX7 421 yX7_isSheet, Cond.static yX7_isSheet, Cond.code yX7_isSheet cX7_isSheet 1 (some .boolean), Cond.methodLink RX7 416 yX7_firstOther, Cond.instanceMethod yX7_firstOther, Cond.selects RX7 yX7_firstOther yX7_firstOther, Cond.code yX7_firstOther cX7_firstOther 4 (some .int), Cond.methodLink RX7 424 yX7_cloudsBy, Cond.instanceMethod yX7_cloudsBy, Cond.selects RX7 yX7_cloudsBy yX7_cloudsBy, Cond.code yX7_cloudsBy cX7_cloudsBy 6 (some .int), Cond.methodLink RL 81 yX6_film, Cond.instanceMethod yX6_film, Cond.selects RX6 yX6_film yX6_film, Cond.code yX6_film cX6_film 5 (some .int), Cond.methodLink RX6 259 yX3_become, Cond.instanceMethod yX3_become, Cond.selects RX3 yX3_become yX3_become, Cond.code yX3_become cX3_become 4 none, Cond.methodLink RX3 19 Lib.Math.min.name, Cond.methodLink RX3 25 Lib.Math.max.name]
def wsL_law_r40 : List Cond := [Cond.methodLink RX6 263 yX3_put, Cond.instanceMethod yX3_put, Cond.selects RX3 yX3_put yX3_put, Cond.code yX3_put cX3_put 3 none, Cond.methodLink RL 84 yX7_film, Cond.instanceMethod yX7_film, Cond.selects RX7 yX7_film yX7_film, Cond.code yX7_film cX7_film 4 (some .int), Cond.methodLink RX7 427 yX7_sheet, Cond.instanceMethod yX7_sheet, Cond.selects RX7 yX7_sheet yX7_sheet, Cond.code yX7_sheet cX7_sheet 5 (some .int), Cond.constantLong RX7 444 (-1), Cond.methodLink RL 85 yX6_drawn, Cond.instanceMethod yX6_drawn, Cond.selects RX6 yX6_drawn yX6_drawn, Cond.code yX6_drawn cX6_drawn 2 (some .int), Cond.methodLink RX6 266 yX6_cloudsBy, Cond.static yX6_cloudsBy, Cond.code yX6_cloudsBy cX6_cloudsBy 4 (some .int), Cond.constant RX6 274 (1103515245), Cond.methodLink RL 88 yX7_drawn, Cond.instanceMethod yX7_drawn, Cond.selects RX7 yX7_drawn yX7_drawn]
def wsL_law_r41 : List Cond := [Cond.code yX7_drawn cX7_drawn 2 (some .int), Cond.methodLink RX7 431 yX7_allBy, Cond.instanceMethod yX7_allBy, Cond.selects RX7 yX7_allBy yX7_allBy, Cond.code yX7_allBy cX7_allBy 5 (some .int), Cond.constant RX7 430 (1103515245), Cond.methodLink RL 89 yX6_chance, Cond.instanceMethod yX6_chance, Cond.selects RX6 yX6_chance yX6_chance, Cond.code yX6_chance cX6_chance 7 (some .long), Cond.constantLong RX6 269 (-4611686018427387904), Cond.methodLink RX6 271 yX6_commonMeasure, Cond.static yX6_commonMeasure, Cond.code yX6_commonMeasure cX6_commonMeasure 3 (some .int), Cond.methodLink RL 93 yX7_chance, Cond.instanceMethod yX7_chance, Cond.selects RX7 yX7_chance yX7_chance, Cond.code yX7_chance cX7_chance 13 (some .long), Cond.constantLong RX7 434 (20), Cond.constantLong RX7 436 (-4611686018427387904), Cond.methodLink RL 94 yX6_image, Cond.instanceMethod yX6_image, Cond.selects RX6 yX6_image yX6_image, Cond.code yX6_image cX6_image 1 (some .int)]
def wsL_law_r42 : List Cond := [Cond.fieldLink RX6 278 "LightYearsAreOwed" "hasImage" "Z", Cond.methodLink RX6 275 yX5_become, Cond.instanceMethod yX5_become, Cond.selects RX5 yX5_become yX5_become, Cond.code yX5_become cX5_become 2 none, Cond.fieldLink RX5 36 "LightYearsAreOwed$Sky" "clouds" "I", Cond.fieldLink RX5 40 "LightYearsAreOwed$Sky" "rule" "I", Cond.methodLink RX5 46 arraycopyName, Cond.native arraycopyName, Cond.static arraycopyName, Cond.initialized "java/lang/System", Cond.methodLink RL 97 yX7_image, Cond.instanceMethod yX7_image, Cond.selects RX7 yX7_image yX7_image, Cond.code yX7_image cX7_image 2 (some .int), Cond.fieldLink RX7 438 "LightYearsAreOwedModel" "cloudsKept" "I", Cond.fieldLink RX7 441 "LightYearsAreOwedModel" "ruleKept" "I", Cond.methodLink RL 98 yX6_back, Cond.instanceMethod yX6_back, Cond.selects RX6 yX6_back yX6_back, Cond.code yX6_back cX6_back 1 (some .int), Cond.methodLink RL 101 yX7_back, Cond.instanceMethod yX7_back, Cond.selects RX7 yX7_back yX7_back]
def wsL_law_r43 : List Cond := [Cond.code yX7_back cX7_back 2 (some .int), Cond.methodLink RL 102 yX6_count, Cond.instanceMethod yX6_count, Cond.selects RX6 yX6_count yX6_count, Cond.code yX6_count cX6_count 2 (some .int), Cond.methodLink RX6 282 yX5_pieceCount, Cond.instanceMethod yX5_pieceCount, Cond.selects RX5 yX5_pieceCount yX5_pieceCount, Cond.code yX5_pieceCount cX5_pieceCount 3 (some .int), Cond.methodLink RL 105 yX7_count, Cond.instanceMethod yX7_count, Cond.selects RX7 yX7_count yX7_count, Cond.code yX7_count cX7_count 2 (some .int), Cond.methodLink RL 106 yX6_sheet, Cond.instanceMethod yX6_sheet, Cond.selects RX6 yX6_sheet yX6_sheet, Cond.code yX6_sheet cX6_sheet 4 (some .int), Cond.methodLink RL 109 yX7_sheet, Cond.methodLink RL 110 yX6_cell, Cond.instanceMethod yX6_cell, Cond.selects RX6 yX6_cell yX6_cell, Cond.code yX6_cell cX6_cell 5 (some .int), Cond.methodLink RL 113 yX7_cell, Cond.instanceMethod yX7_cell]
def wsL_law_r44 : List Cond := [Cond.selects RX7 yX7_cell yX7_cell, Cond.code yX7_cell cX7_cell 4 (some .int), Cond.methodLink RL 114 yX6_copy, Cond.instanceMethod yX6_copy, Cond.selects RX6 yX6_copy yX6_copy, Cond.code yX6_copy cX6_copy 8 (some .int), Cond.fieldLink RX6 289 "LightYearsAreOwed$Row" "items" "[I", Cond.methodLink RX6 292 arraycopyName, Cond.methodLink RX6 285 yX3_has, Cond.instanceMethod yX3_has, Cond.selects RX3 yX3_has yX3_has, Cond.code yX3_has cX3_has 3 (some .boolean), Cond.methodLink RL 118 yX7_copy, Cond.instanceMethod yX7_copy, Cond.selects RX7 yX7_copy yX7_copy, Cond.code yX7_copy cX7_copy 9 (some .int), Cond.methodLink RL 119 yX6_lights, Cond.instanceMethod yX6_lights, Cond.selects RX6 yX6_lights yX6_lights, Cond.code yX6_lights cX6_lights 9 (some .int), Cond.methodLink RX6 298 yX6_light, Cond.methodLink RL 123 yX7_lights, Cond.instanceMethod yX7_lights, Cond.selects RX7 yX7_lights yX7_lights]
def wsL_law_r45 : List Cond := [Cond.code yX7_lights cX7_lights 8 (some .int), Cond.constantLong RX7 446 (6), Cond.methodLink RX7 448 yX7_light, Cond.methodLink RL 124 yX6_taken, Cond.instanceMethod yX6_taken, Cond.selects RX6 yX6_taken yX6_taken, Cond.code yX6_taken cX6_taken 5 (some .int), Cond.fieldLink RX6 301 "LightYearsAreOwed" "UNDER" "[I", Cond.methodLink RL 127 yX7_taken, Cond.instanceMethod yX7_taken, Cond.selects RX7 yX7_taken yX7_taken, Cond.code yX7_taken cX7_taken 4 (some .int), Cond.methodLink RX7 451 yX7_over, Cond.static yX7_over, Cond.code yX7_over cX7_over 1 (some .int)]
def wsL_law : List Cond := (wsL_law_r1 ++ (wsL_law_r2 ++ (wsL_law_r3 ++ (wsL_law_r4 ++ (wsL_law_r5 ++ (wsL_law_r6 ++ (wsL_law_r7 ++ (wsL_law_r8 ++ (wsL_law_r9 ++ (wsL_law_r10 ++ (wsL_law_r11 ++ (wsL_law_r12 ++ (wsL_law_r13 ++ (wsL_law_r14 ++ (wsL_law_r15 ++ (wsL_law_r16 ++ (wsL_law_r17 ++ (wsL_law_r18 ++ (wsL_law_r19 ++ (wsL_law_r20 ++ (wsL_law_r21 ++ (wsL_law_r22 ++ (wsL_law_r23 ++ (wsL_law_r24 ++ (wsL_law_r25 ++ (wsL_law_r26 ++ (wsL_law_r27 ++ (wsL_law_r28 ++ (wsL_law_r29 ++ (wsL_law_r30 ++ (wsL_law_r31 ++ (wsL_law_r32 ++ (wsL_law_r33 ++ (wsL_law_r34 ++ (wsL_law_r35 ++ (wsL_law_r36 ++ (wsL_law_r37 ++ (wsL_law_r38 ++ (wsL_law_r39 ++ (wsL_law_r40 ++ (wsL_law_r41 ++ (wsL_law_r42 ++ (wsL_law_r43 ++ (wsL_law_r44 ++ wsL_law_r45)))))))))))))))))))))))))))))))))))))))))))) ++ wsX60 ++ wsX70 ++ wsX50 ++ wsX10 ++ wsX40 ++ wsX30 ++ wsX20 ++ wsX00 ++ ([] : List Cond)
def vz (big : List Cond) : List Cond → List Nat → Bool
  | [], _ => true
  | w :: l, q :: r => decide (big[q]? = some w) && goodWord w && vz big l r
  | _ :: _, [] => false
theorem goodIn_z {big : List Cond} (ws : List Cond) (ps qs : List Nat) (hp : ws.filter k2_isCode = ps.filterMap (fun i => big[i]?)) (h : vz big (ws.filter (fun w => !k2_isCode w)) qs = true) : GoodIn big ws := by
  have key : ∀ (l : List Cond) (r : List Nat), vz big l r = true → ∀ w ∈ l, w ∈ big ∧ goodWord w = true := by
    intro l
    induction l with
    | nil => intro r _ w hw; cases hw
    | cons a l ih =>
      intro r hr w hw
      cases r with
      | nil => simp [vz] at hr
      | cons q r =>
        simp only [vz, Bool.and_eq_true, decide_eq_true_eq] at hr
        rcases List.mem_cons.mp hw with rfl | hw
        · exact ⟨List.mem_of_getElem? hr.1.1, hr.1.2⟩
        · exact ih r hr.2 w hw
  intro w hw
  by_cases hc : k2_isCode w = true
  · have h1 : w ∈ ws.filter k2_isCode := List.mem_filter.mpr ⟨hw, hc⟩
    rw [hp] at h1
    obtain ⟨i, -, hi⟩ := List.mem_filterMap.mp h1
    refine ⟨List.mem_of_getElem? hi, ?_⟩
    cases w <;> first | (simp [k2_isCode] at hc; done) | exact Or.inl rfl
  · obtain ⟨h1, h2⟩ := key _ _ h w (List.mem_filter.mpr ⟨hw, by simpa using hc⟩)
    exact ⟨h1, good_of_word h2⟩
theorem goodIn_ap {big a b : List Cond} (ha : GoodIn big a) (hb : GoodIn big b) : GoodIn big (a ++ b) := fun w h => (List.mem_append.mp h).elim (ha w) (hb w)
set_option maxRecDepth 20000 in
theorem wr_1 : GoodIn lw_tbl wsL_law_r1 := goodIn_z _ [118, 121] [114, 115, 99, 809, 810, 110, 116, 117, 119, 120, 122, 123, 100, 462, 463, 180, 465, 182, 183, 101, 469, 201] rfl (by decide +kernel)
set_option maxRecDepth 20000 in
theorem wr_2 : GoodIn lw_tbl wsL_law_r2 := goodIn_z _ [126] [470, 203, 102, 222, 103, 153, 240, 241, 104, 467, 272, 273, 105, 468, 466, 125, 127, 179, 136, 139, 142, 145, 148] rfl (by decide +kernel)
set_option maxRecDepth 20000 in
theorem wr_3 : GoodIn lw_tbl wsL_law_r3 := goodIn_z _ [186, 206, 225, 244] [150, 152, 154, 185, 187, 192, 205, 207, 210, 211, 224, 226, 227, 231, 242, 243, 245, 248, 249, 274] rfl (by decide +kernel)
set_option maxRecDepth 20000 in
theorem wr_4 : GoodIn lw_tbl wsL_law_r4 := goodIn_z _ [276, 316, 320] [275, 277, 282, 284, 286, 288, 291, 292, 280, 313, 314, 315, 106, 1387, 317, 318, 319, 321, 1388, 323, 324] rfl (by decide +kernel)
set_option maxRecDepth 20000 in
theorem wr_5 : GoodIn lw_tbl wsL_law_r5 := goodIn_z _ [326, 330, 333, 336, 341, 344] [325, 327, 328, 329, 331, 332, 107, 334, 335, 337, 339, 340, 108, 342, 343, 109, 345, 346] rfl (by decide +kernel)
set_option maxRecDepth 20000 in
theorem wr_6 : GoodIn lw_tbl wsL_law_r6 := goodIn_z _ [347, 350, 354, 364, 368] [348, 349, 351, 352, 353, 355, 357, 359, 361, 362, 363, 246, 365, 366, 367, 250, 252, 253, 369] rfl (by decide +kernel)
set_option maxRecDepth 20000 in
theorem wr_7 : GoodIn lw_tbl wsL_law_r7 := goodIn_z _ [372, 376, 380, 383, 387] [370, 371, 212, 208, 373, 375, 0, 251, 377, 379, 1, 381, 382, 384, 386, 2, 254, 389, 390] rfl (by decide +kernel)
set_option maxRecDepth 20000 in
theorem wr_8 : GoodIn lw_tbl wsL_law_r8 := goodIn_z _ [394, 397, 401, 404, 408, 412] [391, 393, 3, 395, 396, 398, 400, 4, 402, 403, 405, 407, 5, 409, 411, 6, 413, 415] rfl (by decide +kernel)
set_option maxRecDepth 20000 in
theorem wr_9 : GoodIn lw_tbl wsL_law_r9 := goodIn_z _ [416, 432, 436, 420, 424, 428] [7, 417, 419, 8, 429, 430, 431, 433, 434, 435, 421, 423, 9, 425, 427, 10, 437, 439] rfl (by decide +kernel)
set_option maxRecDepth 20000 in
theorem wr_10 : GoodIn lw_tbl wsL_law_r10 := goodIn_z _ [448, 453, 440, 444, 457, 461] [11, 449, 450, 451, 452, 445, 447, 13, 441, 443, 12, 454, 455, 456, 458, 459, 460, 811] rfl (by decide +kernel)
set_option maxRecDepth 20000 in
theorem wr_11 : GoodIn lw_tbl wsL_law_r11 := goodIn_z _ [813] [812, 814, 819, 820, 823, 826, 827, 828, 830, 831, 832, 833, 834, 850, 853, 854, 855, 856, 857, 858, 859, 860, 861] rfl (by decide +kernel)
set_option maxRecDepth 20000 in
theorem wr_12 : GoodIn lw_tbl wsL_law_r12 := goodIn_z _ [818, 494, 502] [969, 864, 865, 866, 867, 821, 815, 817, 33, 491, 492, 493, 495, 497, 130, 499, 501, 14, 141, 144, 149] rfl (by decide +kernel)
set_option maxRecDepth 20000 in
theorem wr_13 : GoodIn lw_tbl wsL_law_r13 := goodIn_z _ [506, 973, 977, 981, 985] [155, 138, 503, 505, 15, 135, 970, 971, 972, 974, 975, 976, 978, 980, 34, 986, 982, 984, 35] rfl (by decide +kernel)
set_option maxRecDepth 20000 in
theorem wr_14 : GoodIn lw_tbl wsL_law_r14 := goodIn_z _ [989, 993, 997, 1002, 1006] [829, 987, 988, 990, 991, 992, 994, 995, 996, 998, 825, 999, 1001, 36, 1232, 1003, 1005, 37, 1007] rfl (by decide +kernel)
set_option maxRecDepth 20000 in
theorem wr_15 : GoodIn lw_tbl wsL_law_r15 := goodIn_z _ [1010, 1014, 1017, 1021, 1025] [1009, 38, 1011, 1013, 39, 1015, 1016, 1018, 1020, 40, 1022, 1024, 41, 835, 836, 837, 838, 839, 840] rfl (by decide +kernel)
set_option maxRecDepth 20000 in
theorem wr_16 : GoodIn lw_tbl wsL_law_r16 := goodIn_z _ [1029, 1033, 1037] [822, 1026, 1028, 42, 1030, 1032, 43, 841, 842, 843, 847, 848, 844, 1034, 1036, 44, 845, 1042, 1043, 1044, 1045] rfl (by decide +kernel)
set_option maxRecDepth 20000 in
theorem wr_17 : GoodIn lw_tbl wsL_law_r17 := goodIn_z _ [1041, 1050, 1054, 1058, 1062] [846, 1046, 1038, 1040, 45, 1047, 1049, 46, 1051, 1053, 47, 1055, 1057, 48, 1059, 1061, 49, 849, 1063] rfl (by decide +kernel)
set_option maxRecDepth 20000 in
theorem wr_18 : GoodIn lw_tbl wsL_law_r18 := goodIn_z _ [1066, 1070, 1074, 1078, 1082, 1086] [1065, 50, 1067, 1069, 51, 1071, 1073, 52, 1120, 1075, 1077, 53, 1079, 1081, 54, 1083, 1085, 55] rfl (by decide +kernel)
set_option maxRecDepth 20000 in
theorem wr_19 : GoodIn lw_tbl wsL_law_r19 := goodIn_z _ [1090, 1094, 1098, 1102, 1106] [1087, 1089, 56, 1091, 1093, 57, 1095, 1097, 58, 1099, 1101, 59, 1119, 1103, 1105, 60, 1107, 1109, 61] rfl (by decide +kernel)
set_option maxRecDepth 20000 in
theorem wr_20 : GoodIn lw_tbl wsL_law_r20 := goodIn_z _ [1110, 1114, 1118, 1124, 1128, 1132] [1111, 1113, 62, 1115, 1117, 63, 1121, 1123, 64, 1125, 1127, 65, 1129, 1131, 66, 1133, 1135, 67] rfl (by decide +kernel)
set_option maxRecDepth 20000 in
theorem wr_21 : GoodIn lw_tbl wsL_law_r21 := goodIn_z _ [1136, 1140, 1144, 1148, 1152, 1156] [1137, 1139, 68, 1141, 1143, 69, 1145, 1147, 70, 1149, 1151, 71, 1153, 1155, 72, 1157, 1159, 73] rfl (by decide +kernel)
set_option maxRecDepth 20000 in
theorem wr_22 : GoodIn lw_tbl wsL_law_r22 := goodIn_z _ [1160, 1164, 1168, 1172, 1176, 1180] [1161, 1163, 74, 1165, 1167, 75, 1169, 1171, 76, 1173, 1175, 77, 1177, 1179, 78, 1181, 1183, 79] rfl (by decide +kernel)
set_option maxRecDepth 20000 in
theorem wr_23 : GoodIn lw_tbl wsL_law_r23 := goodIn_z _ [1184, 1188, 1192, 1196, 1200, 1204] [1185, 1187, 80, 1189, 1191, 81, 1193, 1195, 82, 1197, 1199, 83, 1201, 1203, 84, 1205, 1207, 85] rfl (by decide +kernel)
set_option maxRecDepth 20000 in
theorem wr_24 : GoodIn lw_tbl wsL_law_r24 := goodIn_z _ [1208, 1212, 1216, 1220, 1223, 1227, 1231] [1209, 1211, 86, 1213, 1215, 87, 1217, 1219, 88, 1221, 1222, 1224, 1226, 89, 1228, 1230, 90] rfl (by decide +kernel)
set_option maxRecDepth 20000 in
theorem wr_25 : GoodIn lw_tbl wsL_law_r25 := goodIn_z _ [1236, 510, 513, 517, 1240] [1233, 1235, 91, 507, 508, 509, 511, 512, 514, 515, 516, 134, 1237, 1238, 1239, 1241, 518, 519, 520] rfl (by decide +kernel)
set_option maxRecDepth 20000 in
theorem wr_26 : GoodIn lw_tbl wsL_law_r26 := goodIn_z _ [521, 524, 528, 1245, 532, 536] [147, 522, 523, 525, 527, 16, 1242, 1243, 1244, 1246, 529, 530, 531, 533, 535, 17, 151, 537] rfl (by decide +kernel)
set_option maxRecDepth 20000 in
theorem wr_27 : GoodIn lw_tbl wsL_law_r27 := goodIn_z _ [540, 602, 544, 548, 552] [539, 18, 279, 603, 601, 111, 541, 543, 19, 132, 545, 547, 20, 549, 550, 551, 128, 278, 133] rfl (by decide +kernel)
set_option maxRecDepth 20000 in
theorem wr_28 : GoodIn lw_tbl wsL_law_r28 := goodIn_z _ [555, 559, 563, 567] [553, 554, 290, 137, 140, 143, 146, 556, 557, 558, 560, 561, 562, 209, 600, 564, 566, 21, 568, 569] rfl (by decide +kernel)
set_option maxRecDepth 20000 in
theorem wr_29 : GoodIn lw_tbl wsL_law_r29 := goodIn_z _ [570, 577, 581, 584, 588, 591] [112, 571, 572, 573, 574, 575, 576, 578, 579, 580, 582, 583, 585, 587, 22, 589, 590, 592] rfl (by decide +kernel)
set_option maxRecDepth 20000 in
theorem wr_30 : GoodIn lw_tbl wsL_law_r30 := goodIn_z _ [595, 599, 608, 1251, 612] [594, 23, 596, 598, 24, 604, 1247, 605, 606, 607, 247, 1248, 1249, 1250, 1252, 824, 609, 610, 611] rfl (by decide +kernel)
set_option maxRecDepth 20000 in
theorem wr_31 : GoodIn lw_tbl wsL_law_r31 := goodIn_z _ [1256, 616, 1260, 620, 625] [1253, 1254, 1255, 613, 614, 615, 1257, 1258, 1259, 617, 618, 619, 621, 622, 623, 624, 626, 627, 628] rfl (by decide +kernel)
set_option maxRecDepth 20000 in
theorem wr_32 : GoodIn lw_tbl wsL_law_r32 := goodIn_z _ [629, 1264, 633, 637, 641, 645] [1261, 1262, 1263, 1265, 630, 631, 632, 634, 636, 25, 638, 640, 26, 642, 643, 644, 1266, 1267] rfl (by decide +kernel)
set_option maxRecDepth 20000 in
theorem wr_33 : GoodIn lw_tbl wsL_law_r33 := goodIn_z _ [1269, 1274, 649, 653, 656] [1268, 1270, 1271, 1273, 92, 646, 647, 648, 189, 191, 650, 651, 652, 188, 190, 657, 654, 655, 658] rfl (by decide +kernel)
set_option maxRecDepth 20000 in
theorem wr_34 : GoodIn lw_tbl wsL_law_r34 := goodIn_z _ [661, 1278, 1282, 1287, 665] [660, 27, 1275, 1276, 1277, 1283, 1279, 1281, 93, 1284, 1286, 94, 662, 663, 664, 193, 1288, 1289, 1290] rfl (by decide +kernel)
set_option maxRecDepth 20000 in
theorem wr_35 : GoodIn lw_tbl wsL_law_r35 := goodIn_z _ [1291, 669, 1295, 673, 1299, 677] [666, 667, 668, 289, 1292, 1293, 1294, 851, 852, 670, 671, 672, 1296, 1297, 1298, 674, 675, 676] rfl (by decide +kernel)
set_option maxRecDepth 20000 in
theorem wr_36 : GoodIn lw_tbl wsL_law_r36 := goodIn_z _ [682, 1303, 686, 695, 690] [678, 679, 680, 681, 1300, 1301, 1302, 1304, 683, 684, 685, 692, 693, 694, 687, 689, 28, 691, 696] rfl (by decide +kernel)
set_option maxRecDepth 20000 in
theorem wr_37 : GoodIn lw_tbl wsL_law_r37 := goodIn_z _ [699, 1308, 1312, 703, 706, 710] [698, 29, 1305, 1306, 1307, 1309, 1310, 1311, 700, 701, 702, 228, 230, 704, 705, 707, 708, 709] rfl (by decide +kernel)
set_option maxRecDepth 20000 in
theorem wr_38 : GoodIn lw_tbl wsL_law_r38 := goodIn_z _ [714, 718, 722, 726] [711, 712, 713, 229, 715, 717, 30, 281, 719, 721, 31, 723, 725, 32, 283, 285, 287, 727, 1313, 1314] rfl (by decide +kernel)
set_option maxRecDepth 20000 in
theorem wr_39 : GoodIn lw_tbl wsL_law_r39 := goodIn_z _ [1316, 1320, 1324, 1328, 731, 735] [1315, 1317, 1318, 1319, 1321, 1323, 95, 1325, 1327, 96, 728, 729, 730, 732, 733, 734, 736, 737] rfl (by decide +kernel)
set_option maxRecDepth 20000 in
theorem wr_40 : GoodIn lw_tbl wsL_law_r40 := goodIn_z _ [741, 1332, 1336, 745, 748] [738, 739, 740, 1329, 1330, 1331, 1333, 1334, 1335, 1337, 742, 743, 744, 746, 747, 749, 1338, 1339, 1340] rfl (by decide +kernel)
set_option maxRecDepth 20000 in
theorem wr_41 : GoodIn lw_tbl wsL_law_r41 := goodIn_z _ [1341, 1345, 753, 757, 1350, 761] [1342, 1344, 97, 1346, 750, 751, 752, 754, 755, 756, 1347, 1348, 1349, 1351, 1352, 758, 759, 760] rfl (by decide +kernel)
set_option maxRecDepth 20000 in
theorem wr_42 : GoodIn lw_tbl wsL_law_r42 := goodIn_z _ [765, 1356, 772] [464, 762, 763, 764, 129, 131, 766, 768, 767, 113, 1353, 1354, 1355, 862, 863, 769, 770, 771, 1357, 1358, 1359] rfl (by decide +kernel)
set_option maxRecDepth 20000 in
theorem wr_43 : GoodIn lw_tbl wsL_law_r43 := goodIn_z _ [1360, 776, 780, 1364, 784, 788] [773, 774, 775, 777, 778, 779, 1361, 1362, 1363, 781, 782, 783, 1365, 785, 786, 787, 1366, 1367] rfl (by decide +kernel)
set_option maxRecDepth 20000 in
theorem wr_44 : GoodIn lw_tbl wsL_law_r44 := goodIn_z _ [1369, 792, 796, 1373, 801] [1368, 789, 790, 791, 232, 797, 793, 794, 795, 1370, 1371, 1372, 798, 799, 800, 802, 1374, 1375, 1376] rfl (by decide +kernel)
set_option maxRecDepth 20000 in
theorem wr_45 : GoodIn lw_tbl wsL_law_r45 := goodIn_z _ [1377, 806, 1383, 1386] [1378, 1379, 803, 804, 805, 807, 1380, 1381, 1382, 1384, 1385] rfl (by decide +kernel)
set_option maxRecDepth 20000 in
theorem wx_0 : GoodIn lw_tbl wsX00 := goodIn_z _ [] [293, 295, 297, 299, 301, 303, 305, 307, 309] rfl (by decide +kernel)
set_option maxRecDepth 20000 in
theorem wx_1 : GoodIn lw_tbl wsX10 := goodIn_z _ [] [194, 196, 198] rfl (by decide +kernel)
set_option maxRecDepth 20000 in
theorem wx_2 : GoodIn lw_tbl wsX20 := goodIn_z _ [] [255, 257, 259, 261, 263, 265, 267, 269] rfl (by decide +kernel)
set_option maxRecDepth 20000 in
theorem wx_3 : GoodIn lw_tbl wsX30 := goodIn_z _ [] [233, 235, 237] rfl (by decide +kernel)
set_option maxRecDepth 20000 in
theorem wx_4 : GoodIn lw_tbl wsX40 := goodIn_z _ [] [213, 215, 217, 219] rfl (by decide +kernel)
set_option maxRecDepth 20000 in
theorem wx_5 : GoodIn lw_tbl wsX50 := goodIn_z _ [] [156, 158, 160, 162, 164, 166, 168, 170, 172, 174, 176] rfl (by decide +kernel)
set_option maxRecDepth 20000 in
theorem wx_6 : GoodIn lw_tbl wsX60 := goodIn_z _ [] [471, 473, 475, 477, 479, 481, 483, 485, 487] rfl (by decide +kernel)
set_option maxRecDepth 20000 in
theorem wx_7 : GoodIn lw_tbl wsX70 := goodIn_z _ [] [868, 870, 872, 874, 876, 878, 880, 882, 884, 886, 888, 890, 892, 894, 896, 898, 900, 902, 904, 906, 908, 910, 912, 914, 916, 918, 920, 922, 924, 926, 928, 930, 932, 934, 936, 938, 940, 942, 944, 946, 948, 950, 952, 954, 956, 958, 960, 962, 964, 966] rfl (by decide +kernel)
theorem wsL_law_good : GoodIn lw_tbl wsL_law := goodIn_ap (goodIn_ap (goodIn_ap (goodIn_ap (goodIn_ap (goodIn_ap (goodIn_ap (goodIn_ap (goodIn_ap (goodIn_ap wr_1 (goodIn_ap wr_2 (goodIn_ap wr_3 (goodIn_ap wr_4 (goodIn_ap wr_5 (goodIn_ap wr_6 (goodIn_ap wr_7 (goodIn_ap wr_8 (goodIn_ap wr_9 (goodIn_ap wr_10 (goodIn_ap wr_11 (goodIn_ap wr_12 (goodIn_ap wr_13 (goodIn_ap wr_14 (goodIn_ap wr_15 (goodIn_ap wr_16 (goodIn_ap wr_17 (goodIn_ap wr_18 (goodIn_ap wr_19 (goodIn_ap wr_20 (goodIn_ap wr_21 (goodIn_ap wr_22 (goodIn_ap wr_23 (goodIn_ap wr_24 (goodIn_ap wr_25 (goodIn_ap wr_26 (goodIn_ap wr_27 (goodIn_ap wr_28 (goodIn_ap wr_29 (goodIn_ap wr_30 (goodIn_ap wr_31 (goodIn_ap wr_32 (goodIn_ap wr_33 (goodIn_ap wr_34 (goodIn_ap wr_35 (goodIn_ap wr_36 (goodIn_ap wr_37 (goodIn_ap wr_38 (goodIn_ap wr_39 (goodIn_ap wr_40 (goodIn_ap wr_41 (goodIn_ap wr_42 (goodIn_ap wr_43 (goodIn_ap wr_44 (wr_45))))))))))))))))))))))))))))))))))))))))))))) wx_6) wx_7) wx_5) wx_1) wx_4) wx_3) wx_2) wx_0) (fun _ h => absurd h List.not_mem_nil)
theorem wsL_law_in : ∀ w ∈ wsL_law, w ∈ lw_tbl := fun w h => (wsL_law_good w h).1
theorem inlX0 : ∀ w ∈ wsX00, w ∈ wsL_law := fun _ h => List.mem_append_left _ (List.mem_append_right _ h)
theorem inlX1 : ∀ w ∈ wsX10, w ∈ wsL_law := fun _ h => List.mem_append_left _ (List.mem_append_left _ (List.mem_append_left _ (List.mem_append_left _ (List.mem_append_left _ (List.mem_append_right _ h)))))
theorem inlX2 : ∀ w ∈ wsX20, w ∈ wsL_law := fun _ h => List.mem_append_left _ (List.mem_append_left _ (List.mem_append_right _ h))
theorem inlX3 : ∀ w ∈ wsX30, w ∈ wsL_law := fun _ h => List.mem_append_left _ (List.mem_append_left _ (List.mem_append_left _ (List.mem_append_right _ h)))
theorem inlX4 : ∀ w ∈ wsX40, w ∈ wsL_law := fun _ h => List.mem_append_left _ (List.mem_append_left _ (List.mem_append_left _ (List.mem_append_left _ (List.mem_append_right _ h))))
theorem inlX5 : ∀ w ∈ wsX50, w ∈ wsL_law := fun _ h => List.mem_append_left _ (List.mem_append_left _ (List.mem_append_left _ (List.mem_append_left _ (List.mem_append_left _ (List.mem_append_left _ (List.mem_append_right _ h))))))
theorem inlX6 : ∀ w ∈ wsX60, w ∈ wsL_law := fun _ h => List.mem_append_left _ (List.mem_append_left _ (List.mem_append_left _ (List.mem_append_left _ (List.mem_append_left _ (List.mem_append_left _ (List.mem_append_left _ (List.mem_append_left _ (List.mem_append_right _ h))))))))
theorem inlX7 : ∀ w ∈ wsX70, w ∈ wsL_law := fun _ h => List.mem_append_left _ (List.mem_append_left _ (List.mem_append_left _ (List.mem_append_left _ (List.mem_append_left _ (List.mem_append_left _ (List.mem_append_left _ (List.mem_append_right _ h)))))))
abbrev vwCl : List vw_C := [(RX0, TX0, 9), (RX1, TX1, 3), (RX2, TX2, 8), (RX3, TX3, 3), (RX4, TX4, 4), (RX5, TX5, 11), (RX6, TX6, 9), (RX7, TX7, 50)]
end
section
/-! ===== THE VIRTUAL MACHINE: every cell of the class and of the reference has a fixed number 0 .. 82; 1000 .. are constants ===== -/
/-- memory: what the int slots hold, what the long slots hold: by cell and place -/
abbrev vM : Type := (Nat → Nat → Int32) × (Nat → Nat → Int64)
abbrev vL : Type := List (Option Value)
abbrev vQ : Type := Option Value → vM → Prop
abbrev vP : Type := Nat → Nat → Nat → vL → List Value → vM → vQ → Prop
/-- instruction, the next pc, the jump's target, the constant -/
abbrev vI : Type := Instr × Nat × Nat × Int32
/-- an array (kind 0 ints, 1 booleans, 2 Rules, 3 Rows; size; elements where they are references), or an object (class; fields: 0 int, 1 a fixed reference, 2 long, 3 a reference held as a number, 4 boolean) -/
abbrev vC : Type := (Nat × Nat × List Nat) ⊕ (Nat × List (Nat × Nat))
/-- are the reference's cells there; the script's length; the script -/
abbrev vG : Type := Bool × Nat × (Nat → Int32)
def vfind {α : Type} : List (Nat × α) → Nat → Option α
  | [], _ => none
  | q :: l, i => bif Nat.beq q.1 i then some q.2 else vfind l i
def vget {α : Type} : List (Option α) → Nat → Option α
  | [], _ => none
  | v :: _, 0 => v
  | _ :: l, k + 1 => vget l k
def vset {α : Type} : List (Option α) → Nat → Option α → List (Option α)
  | [], _, _ => []
  | _ :: l, 0, v => v :: l
  | a :: l, k + 1, v => a :: vset l k v
def vnth {α : Type} : List α → Nat → Option α
  | [], _ => none
  | v :: _, 0 => some v
  | _ :: l, k + 1 => vnth l k
def vput (σ : vM) (a k : Nat) (v : Int32) : vM := (fun a' k' => if a' = a ∧ k' = k then v else σ.1 a' k', σ.2)
def vputL (σ : vM) (a k : Nat) (v : Int64) : vM := (σ.1, fun a' k' => if a' = a ∧ k' = k then v else σ.2 a' k')
def vcopy (σ : vM) (a sp b dp n : Nat) : vM := (fun a' k' => if a' = b ∧ dp ≤ k' ∧ k' < dp + n then σ.1 a (sp + (k' - dp)) else σ.1 a' k', σ.2)
def vlc0 : vC := .inr (6, [(1, 1), (1, 10), (4, 0), (1, 19), (0, 0), (1, 38), (1, 40), (1, 47), (1, 49)])
def vlc1 : vC := .inr (5, [(0, 0), (0, 0), (0, 0), (1, 2), (1, 3), (1, 4), (1, 5), (1, 6), (1, 7), (1, 8), (1, 9)])
def vlc2 : vC := .inl (0, 6, [])
def vlc3 : vC := .inl (0, 6, [])
def vlc4 : vC := .inl (0, 6, [])
def vlc5 : vC := .inl (0, 30, [])
def vlc6 : vC := .inl (0, 5, [])
def vlc7 : vC := .inl (0, 5, [])
def vlc8 : vC := .inl (0, 4, [])
def vlc9 : vC := .inl (0, 4, [])
def vlc10 : vC := .inr (5, [(0, 0), (0, 0), (0, 0), (1, 11), (1, 12), (1, 13), (1, 14), (1, 15), (1, 16), (1, 17), (1, 18)])
def vlc11 : vC := .inl (0, 6, [])
def vlc12 : vC := .inl (0, 6, [])
def vlc13 : vC := .inl (0, 6, [])
def vlc14 : vC := .inl (0, 30, [])
def vlc15 : vC := .inl (0, 5, [])
def vlc16 : vC := .inl (0, 5, [])
def vlc17 : vC := .inl (0, 4, [])
def vlc18 : vC := .inl (0, 4, [])
def vlc19 : vC := .inl (2, 6, [20, 23, 26, 29, 32, 35])
def vlc20 : vC := .inr (4, [(4, 0), (1, 21), (1, 22), (0, 0)])
def vlc21 : vC := .inl (0, 160, [])
def vlc22 : vC := .inl (0, 3, [])
def vlc23 : vC := .inr (4, [(4, 0), (1, 24), (1, 25), (0, 0)])
def vlc24 : vC := .inl (0, 160, [])
def vlc25 : vC := .inl (0, 3, [])
def vlc26 : vC := .inr (4, [(4, 0), (1, 27), (1, 28), (0, 0)])
def vlc27 : vC := .inl (0, 160, [])
def vlc28 : vC := .inl (0, 3, [])
def vlc29 : vC := .inr (4, [(4, 0), (1, 30), (1, 31), (0, 0)])
def vlc30 : vC := .inl (0, 160, [])
def vlc31 : vC := .inl (0, 3, [])
def vlc32 : vC := .inr (4, [(4, 0), (1, 33), (1, 34), (0, 0)])
def vlc33 : vC := .inl (0, 160, [])
def vlc34 : vC := .inl (0, 3, [])
def vlc35 : vC := .inr (4, [(4, 0), (1, 36), (1, 37), (0, 0)])
def vlc36 : vC := .inl (0, 160, [])
def vlc37 : vC := .inl (0, 3, [])
def vlc38 : vC := .inr (2, [(0, 0), (1, 39), (3, 0), (0, 0), (0, 0), (0, 0), (0, 0), (0, 0)])
def vlc39 : vC := .inl (0, 160, [])
def vlc40 : vC := .inr (0, [(0, 0), (3, 0), (1, 41), (1, 42), (1, 43), (1, 44), (0, 0), (1, 45), (1, 46)])
def vlc41 : vC := .inl (0, 6, [])
def vlc42 : vC := .inl (0, 6, [])
def vlc43 : vC := .inl (0, 6, [])
def vlc44 : vC := .inl (0, 6, [])
def vlc45 : vC := .inl (0, 6, [])
def vlc46 : vC := .inl (0, 40, [])
def vlc47 : vC := .inr (1, [(0, 0), (0, 0), (1, 48)])
def vlc48 : vC := .inl (0, 4, [])
def vlc49 : vC := .inl (3, 4, [50, 52, 54, 56])
def vlc50 : vC := .inr (3, [(0, 0), (0, 0), (1, 51)])
def vlc51 : vC := .inl (0, 40, [])
def vlc52 : vC := .inr (3, [(0, 0), (0, 0), (1, 53)])
def vlc53 : vC := .inl (0, 40, [])
def vlc54 : vC := .inr (3, [(0, 0), (0, 0), (1, 55)])
def vlc55 : vC := .inl (0, 40, [])
def vlc56 : vC := .inr (3, [(0, 0), (0, 0), (1, 57)])
def vlc57 : vC := .inl (0, 40, [])
def vlc58 : vC := .inr (7, [(0, 0), (1, 59), (1, 60), (0, 0), (0, 0), (1, 61), (0, 0), (0, 0), (1, 62), (1, 63), (1, 64), (0, 0), (1, 65), (1, 66), (1, 67), (1, 68), (1, 69), (0, 0), (0, 0), (0, 0), (0, 0), (0, 0), (0, 0), (0, 0), (0, 0), (0, 0), (0, 0), (0, 0), (2, 0), (0, 0), (4, 0), (0, 0), (1, 70), (0, 0), (0, 0), (1, 71), (1, 72), (1, 73), (1, 74), (1, 75), (1, 76), (1, 77), (1, 78), (0, 0), (0, 0), (0, 0), (1, 79), (1, 80), (1, 81), (1, 82)])
def vlc59 : vC := .inl (0, 960, [])
def vlc60 : vC := .inl (0, 6, [])
def vlc61 : vC := .inl (0, 160, [])
def vlc62 : vC := .inl (0, 6, [])
def vlc63 : vC := .inl (0, 6, [])
def vlc64 : vC := .inl (0, 6, [])
def vlc65 : vC := .inl (0, 30, [])
def vlc66 : vC := .inl (0, 5, [])
def vlc67 : vC := .inl (0, 5, [])
def vlc68 : vC := .inl (0, 4, [])
def vlc69 : vC := .inl (0, 4, [])
def vlc70 : vC := .inl (0, 4000, [])
def vlc71 : vC := .inl (0, 6, [])
def vlc72 : vC := .inl (0, 6, [])
def vlc73 : vC := .inl (0, 6, [])
def vlc74 : vC := .inl (0, 30, [])
def vlc75 : vC := .inl (0, 5, [])
def vlc76 : vC := .inl (0, 5, [])
def vlc77 : vC := .inl (0, 4, [])
def vlc78 : vC := .inl (0, 4, [])
def vlc79 : vC := .inl (1, 4, [])
def vlc80 : vC := .inl (0, 4, [])
def vlc81 : vC := .inl (0, 4, [])
def vlc82 : vC := .inl (0, 160, [])
def vlayT (i : Nat) : vC := (bif Nat.ble i 40 then (bif Nat.ble i 19 then (bif Nat.ble i 9 then (bif Nat.ble i 4 then (bif Nat.ble i 1 then (bif Nat.ble i 0 then vlc0 else vlc1) else (bif Nat.ble i 2 then vlc2 else (bif Nat.ble i 3 then vlc3 else vlc4))) else (bif Nat.ble i 6 then (bif Nat.ble i 5 then vlc5 else vlc6) else (bif Nat.ble i 7 then vlc7 else (bif Nat.ble i 8 then vlc8 else vlc9)))) else (bif Nat.ble i 14 then (bif Nat.ble i 11 then (bif Nat.ble i 10 then vlc10 else vlc11) else (bif Nat.ble i 12 then vlc12 else (bif Nat.ble i 13 then vlc13 else vlc14))) else (bif Nat.ble i 16 then (bif Nat.ble i 15 then vlc15 else vlc16) else (bif Nat.ble i 17 then vlc17 else (bif Nat.ble i 18 then vlc18 else vlc19))))) else (bif Nat.ble i 29 then (bif Nat.ble i 24 then (bif Nat.ble i 21 then (bif Nat.ble i 20 then vlc20 else vlc21) else (bif Nat.ble i 22 then vlc22 else (bif Nat.ble i 23 then vlc23 else vlc24))) else (bif Nat.ble i 26 then (bif Nat.ble i 25 then vlc25 else vlc26) else (bif Nat.ble i 27 then vlc27 else (bif Nat.ble i 28 then vlc28 else vlc29)))) else (bif Nat.ble i 34 then (bif Nat.ble i 31 then (bif Nat.ble i 30 then vlc30 else vlc31) else (bif Nat.ble i 32 then vlc32 else (bif Nat.ble i 33 then vlc33 else vlc34))) else (bif Nat.ble i 37 then (bif Nat.ble i 35 then vlc35 else (bif Nat.ble i 36 then vlc36 else vlc37)) else (bif Nat.ble i 38 then vlc38 else (bif Nat.ble i 39 then vlc39 else vlc40)))))) else (bif Nat.ble i 61 then (bif Nat.ble i 50 then (bif Nat.ble i 45 then (bif Nat.ble i 42 then (bif Nat.ble i 41 then vlc41 else vlc42) else (bif Nat.ble i 43 then vlc43 else (bif Nat.ble i 44 then vlc44 else vlc45))) else (bif Nat.ble i 47 then (bif Nat.ble i 46 then vlc46 else vlc47) else (bif Nat.ble i 48 then vlc48 else (bif Nat.ble i 49 then vlc49 else vlc50)))) else (bif Nat.ble i 55 then (bif Nat.ble i 52 then (bif Nat.ble i 51 then vlc51 else vlc52) else (bif Nat.ble i 53 then vlc53 else (bif Nat.ble i 54 then vlc54 else vlc55))) else (bif Nat.ble i 58 then (bif Nat.ble i 56 then vlc56 else (bif Nat.ble i 57 then vlc57 else vlc58)) else (bif Nat.ble i 59 then vlc59 else (bif Nat.ble i 60 then vlc60 else vlc61))))) else (bif Nat.ble i 71 then (bif Nat.ble i 66 then (bif Nat.ble i 63 then (bif Nat.ble i 62 then vlc62 else vlc63) else (bif Nat.ble i 64 then vlc64 else (bif Nat.ble i 65 then vlc65 else vlc66))) else (bif Nat.ble i 68 then (bif Nat.ble i 67 then vlc67 else vlc68) else (bif Nat.ble i 69 then vlc69 else (bif Nat.ble i 70 then vlc70 else vlc71)))) else (bif Nat.ble i 76 then (bif Nat.ble i 73 then (bif Nat.ble i 72 then vlc72 else vlc73) else (bif Nat.ble i 74 then vlc74 else (bif Nat.ble i 75 then vlc75 else vlc76))) else (bif Nat.ble i 79 then (bif Nat.ble i 77 then vlc77 else (bif Nat.ble i 78 then vlc78 else vlc79)) else (bif Nat.ble i 80 then vlc80 else (bif Nat.ble i 81 then vlc81 else vlc82)))))))
/-- which cells there are -/
def vok (G : vG) (i : Nat) : Bool := Nat.ble i 57 || (Nat.ble i 82 && G.1)
def vlay (G : vG) (i : Nat) : Option vC := bif vok G i then some (vlayT i) else none
/-- constants: byte arrays and int arrays (1 bytes, 0 ints), their sizes, what they hold -/
def vFirst : List Int32 := [100, 117, 101, 115, 32, 121, 101, 97, 114, 115, 32, 59, 32, 111, 102, 102, 115, 32, 48, 32, 59, 32, 101, 120, 116, 114, 97, 115, 32, 51, 32, 59]
def vWords : List Int32 := [121, 101, 97, 114, 115, 32, 110, 105, 103, 104, 116, 115, 32, 110, 117, 109, 98, 101, 114, 32, 110, 105, 103, 104, 116, 32, 99, 108, 111, 117, 100, 121, 32, 108, 105, 103, 104, 116, 115, 32, 100, 117, 101, 115, 32, 111, 102, 102, 115, 32, 101, 120, 116, 114, 97, 115, 32, 111, 114, 32, 97, 110, 100, 32, 110, 111, 116, 32]
def vUnder : List Int32 := [-1, 0, 0, 1, 2, 0]
def vLeast : List Int32 := [0, 0, 1, 0, 1, 0]
def vMost : List Int32 := [4095, 9, 999, 99, 99, 20]
def vcon (G : vG) (r : Nat) : Option (Nat × Nat × (Nat → Int32)) := match r with
  | 1002 => some (1, 32, fun k => vFirst.getD k 0)
  | 1003 => some (1, 68, fun k => vWords.getD k 0)
  | 1004 => some (0, 6, fun k => vUnder.getD k 0)
  | 1005 => some (0, 6, fun k => vLeast.getD k 0)
  | 1006 => some (0, 6, fun k => vMost.getD k 0)
  | 1007 => some (0, G.2.1, G.2.2)
  | _ => none
def vone (v : Value) : Bool := Nat.beq v.category 1
/-- no long stands just ahead of place k -/
def vfree (ls : vL) (k : Nat) : Bool := match k with
  | 0 => true
  | k + 1 => match vget ls k with
    | some v => vone v
    | none => true
def vcats : List Value → Nat
  | [] => 0
  | v :: l => v.category + vcats l
def vsl : List Value → vL
  | [] => []
  | .long x :: l => some (.long x) :: none :: vsl l
  | v :: l => some v :: vsl l
def vfill : Nat → vL → vL
  | 0, l => l
  | n + 1, [] => none :: vfill n []
  | n + 1, v :: l => v :: vfill n l
def vpopn : Nat → List Value → List Value → Option (List Value × List Value)
  | 0, acc, st => some (acc, st)
  | n + 1, acc, v :: st => vpopn n (v :: acc) st
  | _ + 1, _, [] => none
def vpush (r : Option Value) (st : List Value) : List Value := match r with
  | some v => v :: st
  | none => st
def vswF (P : Nat → Prop) (x : Int32) (dflt : Nat) : List (Int32 × Nat) → Prop
  | [] => P dflt
  | q :: l => (x = q.1 → P q.2) ∧ (¬ x = q.1 → vswF P x dflt l)
def vswfind : List (Nat × Nat × List (Int32 × Nat) × Nat) → Nat → Nat → Option (List (Int32 × Nat) × Nat)
  | [], _, _ => none
  | q :: l, y, pc => bif Nat.beq q.1 y && Nat.beq q.2.1 pc then some q.2.2 else vswfind l y pc
/-- the class of an object that a call goes to -/
def vrecv (G : vG) (r c : Nat) : Bool := match vlay G r with
  | some (.inr q) => Nat.beq q.1 c
  | _ => (Nat.beq c 9 && (Nat.beq r 1000 || Nat.beq r 1001))
end
section
def vtb0 : List (Nat × vI) := [(0, (.aload_n 0, 1, 0, 0)), (1, (.invokespecial 3, 4, 0, 0)), (4, (.aload_n 0, 5, 0, 0)), (5, (.bipush 6, 7, 0, 6)), (7, (.newarray .int, 9, 0, 0)), (9, (.putfield 9, 12, 0, 0)), (12, (.aload_n 0, 13, 0, 0)), (13, (.bipush 6, 15, 0, 6)), (15, (.newarray .int, 17, 0, 0)), (17, (.putfield 15, 20, 0, 0)), (20, (.aload_n 0, 21, 0, 0)), (21, (.bipush 6, 23, 0, 6)), (23, (.newarray .int, 25, 0, 0)), (25, (.putfield 18, 28, 0, 0)), (28, (.aload_n 0, 29, 0, 0)), (29, (.bipush 6, 31, 0, 6)), (31, (.newarray .int, 33, 0, 0)), (33, (.putfield 21, 36, 0, 0)), (36, (.aload_n 0, 37, 0, 0)), (37, (.bipush 6, 39, 0, 6)), (39, (.newarray .int, 41, 0, 0)), (41, (.putfield 24, 44, 0, 0)), (44, (.aload_n 0, 45, 0, 0)), (45, (.bipush 40, 47, 0, 40)), (47, (.newarray .int, 49, 0, 0)), (49, (.putfield 27, 52, 0, 0)), (52, (.aload_n 0, 53, 0, 0)), (53, (.aload_n 1, 54, 0, 0)), (54, (.putfield 30, 57, 0, 0)), (57, (.return_, 58, 0, 0))]
def vtb1 : List (Nat × vI) := [(0, (.aload_n 0, 1, 0, 0)), (1, (.aload_n 1, 2, 0, 0)), (2, (.getfield 34, 5, 0, 0)), (5, (.putfield 40, 8, 0, 0)), (8, (.aload_n 0, 9, 0, 0)), (9, (.aload_n 3, 10, 0, 0)), (10, (.putfield 30, 13, 0, 0)), (13, (.aload_n 0, 14, 0, 0)), (14, (.aload_n 1, 15, 0, 0)), (15, (.getfield 41, 18, 0, 0)), (18, (.bipush 6, 20, 0, 6)), (20, (.invokestatic 44, 23, 0, 0)), (23, (.putfield 50, 26, 0, 0)), (26, (.iconst 0, 27, 0, 0)), (27, (.istore 4, 29, 0, 0)), (29, (.iload 4, 31, 0, 0)), (31, (.bipush 6, 33, 0, 6)), (33, (.if_icmp .ge 93, 36, 126, 0)), (36, (.aload_n 0, 37, 0, 0)), (37, (.getfield 9, 40, 0, 0)), (40, (.iload 4, 42, 0, 0)), (42, (.aload_n 1, 43, 0, 0)), (43, (.getfield 51, 46, 0, 0)), (46, (.iload 4, 48, 0, 0)), (48, (.iaload, 49, 0, 0)), (49, (.iastore, 50, 0, 0)), (50, (.aload_n 0, 51, 0, 0)), (51, (.getfield 15, 54, 0, 0)), (54, (.iload 4, 56, 0, 0)), (56, (.aload_n 1, 57, 0, 0)), (57, (.getfield 52, 60, 0, 0)), (60, (.iload 4, 62, 0, 0)), (62, (.iaload, 63, 0, 0)), (63, (.iastore, 64, 0, 0)), (64, (.aload_n 0, 65, 0, 0)), (65, (.getfield 18, 68, 0, 0)), (68, (.iload 4, 70, 0, 0)), (70, (.aload_n 1, 71, 0, 0)), (71, (.getfield 53, 74, 0, 0)), (74, (.iload 4, 76, 0, 0)), (76, (.iaload, 77, 0, 0)), (77, (.iastore, 78, 0, 0)), (78, (.iload_n 2, 79, 0, 0)), (79, (.bipush 6, 81, 0, 6)), (81, (.imul, 82, 0, 0)), (82, (.iload 4, 84, 0, 0)), (84, (.iadd, 85, 0, 0)), (85, (.istore 5, 87, 0, 0)), (87, (.aload_n 0, 88, 0, 0)), (88, (.getfield 21, 91, 0, 0)), (91, (.iload 4, 93, 0, 0)), (93, (.iload 5, 95, 0, 0)), (95, (.ifCond .lt 23, 98, 118, 0)), (98, (.iload 5, 100, 0, 0)), (100, (.aload_n 1, 101, 0, 0)), (101, (.getfield 54, 104, 0, 0)), (104, (.arraylength, 105, 0, 0)), (105, (.if_icmp .ge 13, 108, 118, 0)), (108, (.aload_n 1, 109, 0, 0)), (109, (.getfield 54, 112, 0, 0)), (112, (.iload 5, 114, 0, 0)), (114, (.iaload, 115, 0, 0)), (115, (.goto 4, 118, 119, 0)), (118, (.iconst 0, 119, 0, 0)), (119, (.iastore, 120, 0, 0)), (120, (.iinc 4 1, 123, 0, 1)), (123, (.goto (-94), 126, 29, 0)), (126, (.return_, 127, 0, 0))]
def vtb2 : List (Nat × vI) := [(0, (.iconst 0, 1, 0, 0)), (1, (.istore_n 2, 2, 0, 0)), (2, (.iload_n 2, 3, 0, 0)), (3, (.bipush 6, 5, 0, 6)), (5, (.if_icmp .ge 19, 8, 24, 0)), (8, (.aload_n 0, 9, 0, 0)), (9, (.getfield 21, 12, 0, 0)), (12, (.iload_n 2, 13, 0, 0)), (13, (.dup2, 14, 0, 0)), (14, (.iaload, 15, 0, 0)), (15, (.iload_n 1, 16, 0, 0)), (16, (.iand, 17, 0, 0)), (17, (.iastore, 18, 0, 0)), (18, (.iinc 2 1, 21, 0, 1)), (21, (.goto (-19), 24, 2, 0)), (24, (.return_, 25, 0, 0))]
def vtb3 : List (Nat × vI) := [(0, (.iconst 0, 1, 0, 0)), (1, (.istore_n 1, 2, 0, 0)), (2, (.iconst 0, 3, 0, 0)), (3, (.istore_n 2, 4, 0, 0)), (4, (.iload_n 2, 5, 0, 0)), (5, (.aload_n 0, 6, 0, 0)), (6, (.getfield 50, 9, 0, 0)), (9, (.if_icmp .ge 28, 12, 37, 0)), (12, (.aload_n 0, 13, 0, 0)), (13, (.getfield 21, 16, 0, 0)), (16, (.iload_n 2, 17, 0, 0)), (17, (.iaload, 18, 0, 0)), (18, (.aload_n 0, 19, 0, 0)), (19, (.getfield 40, 22, 0, 0)), (22, (.iconst (-1), 23, 0, (-1))), (23, (.ixor, 24, 0, 0)), (24, (.iand, 25, 0, 0)), (25, (.ifCond .eq 6, 28, 31, 0)), (28, (.iinc 1 1, 31, 0, 1)), (31, (.iinc 2 1, 34, 0, 1)), (34, (.goto (-30), 37, 4, 0)), (37, (.iload_n 1, 38, 0, 0)), (38, (.ireturn, 39, 0, 0))]
def vtb4 : List (Nat × vI) := [(0, (.iload_n 1, 1, 0, 0)), (1, (.ifCond .lt 28, 4, 29, 0)), (4, (.iload_n 1, 5, 0, 0)), (5, (.bipush 6, 7, 0, 6)), (7, (.if_icmp .ge 22, 10, 29, 0)), (10, (.aload_n 0, 11, 0, 0)), (11, (.getfield 21, 14, 0, 0)), (14, (.iload_n 1, 15, 0, 0)), (15, (.iaload, 16, 0, 0)), (16, (.aload_n 0, 17, 0, 0)), (17, (.getfield 40, 20, 0, 0)), (20, (.iconst (-1), 21, 0, (-1))), (21, (.ixor, 22, 0, 0)), (22, (.iand, 23, 0, 0)), (23, (.invokestatic 55, 26, 0, 0)), (26, (.goto 4, 29, 30, 0)), (29, (.iconst 0, 30, 0, 0)), (30, (.ireturn, 31, 0, 0))]
def vtb5 : List (Nat × vI) := [(0, (.iconst 0, 1, 0, 0)), (1, (.istore_n 1, 2, 0, 0)), (2, (.iconst 0, 3, 0, 0)), (3, (.istore_n 2, 4, 0, 0)), (4, (.iload_n 2, 5, 0, 0)), (5, (.aload_n 0, 6, 0, 0)), (6, (.getfield 50, 9, 0, 0)), (9, (.if_icmp .ge 17, 12, 26, 0)), (12, (.iload_n 1, 13, 0, 0)), (13, (.aload_n 0, 14, 0, 0)), (14, (.iload_n 2, 15, 0, 0)), (15, (.invokevirtual 61, 18, 0, 0)), (18, (.iadd, 19, 0, 0)), (19, (.istore_n 1, 20, 0, 0)), (20, (.iinc 2 1, 23, 0, 1)), (23, (.goto (-19), 26, 4, 0)), (26, (.iload_n 1, 27, 0, 0)), (27, (.ireturn, 28, 0, 0))]
def vtb6 : List (Nat × vI) := [(0, (.iconst 0, 1, 0, 0)), (1, (.istore_n 3, 2, 0, 0)), (2, (.iload_n 3, 3, 0, 0)), (3, (.aload_n 0, 4, 0, 0)), (4, (.getfield 50, 7, 0, 0)), (7, (.if_icmp .ge 29, 10, 36, 0)), (10, (.iload_n 3, 11, 0, 0)), (11, (.iload_n 2, 12, 0, 0)), (12, (.if_icmp .eq 18, 15, 30, 0)), (15, (.aload_n 0, 16, 0, 0)), (16, (.iload_n 3, 17, 0, 0)), (17, (.invokevirtual 61, 20, 0, 0)), (20, (.aload_n 1, 21, 0, 0)), (21, (.iload_n 3, 22, 0, 0)), (22, (.invokevirtual 64, 25, 0, 0)), (25, (.if_icmp .eq 5, 28, 30, 0)), (28, (.iload_n 3, 29, 0, 0)), (29, (.ireturn, 30, 0, 0)), (30, (.iinc 3 1, 33, 0, 1)), (33, (.goto (-31), 36, 2, 0)), (36, (.iconst (-1), 37, 0, (-1))), (37, (.ireturn, 38, 0, 0))]
def vtb7 : List (Nat × vI) := [(0, (.iload_n 1, 1, 0, 0)), (1, (.ifCond .lt 9, 4, 10, 0)), (4, (.iload_n 1, 5, 0, 0)), (5, (.bipush 6, 7, 0, 6)), (7, (.if_icmp .lt 5, 10, 12, 0)), (10, (.iconst 0, 11, 0, 0)), (11, (.ireturn, 12, 0, 0)), (12, (.aload_n 0, 13, 0, 0)), (13, (.getfield 21, 16, 0, 0)), (16, (.iload_n 1, 17, 0, 0)), (17, (.iaload, 18, 0, 0)), (18, (.aload_n 0, 19, 0, 0)), (19, (.getfield 40, 22, 0, 0)), (22, (.iconst (-1), 23, 0, (-1))), (23, (.ixor, 24, 0, 0)), (24, (.iand, 25, 0, 0)), (25, (.istore_n 2, 26, 0, 0)), (26, (.iload_n 2, 27, 0, 0)), (27, (.ifCond .ne 5, 30, 32, 0)), (30, (.iconst 0, 31, 0, 0)), (31, (.ireturn, 32, 0, 0)), (32, (.aload_n 0, 33, 0, 0)), (33, (.iload_n 1, 34, 0, 0)), (34, (.invokevirtual 69, 37, 0, 0)), (37, (.istore_n 3, 38, 0, 0)), (38, (.iconst 0, 39, 0, 0)), (39, (.istore 4, 41, 0, 0)), (41, (.iconst (-1), 42, 0, (-1))), (42, (.istore 5, 44, 0, 0)), (44, (.iconst 0, 45, 0, 0)), (45, (.istore 6, 47, 0, 0)), (47, (.iload 6, 49, 0, 0)), (49, (.bipush 12, 51, 0, 12)), (51, (.if_icmp .ge 74, 54, 125, 0)), (54, (.iload_n 2, 55, 0, 0)), (55, (.iload 6, 57, 0, 0)), (57, (.ishr, 58, 0, 0)), (58, (.iconst 1, 59, 0, 1)), (59, (.iand, 60, 0, 0)), (60, (.iconst 1, 61, 0, 1)), (61, (.if_icmp .ne 58, 64, 119, 0)), (64, (.iload 5, 66, 0, 0)), (66, (.iconst (-1), 67, 0, (-1))), (67, (.if_icmp .eq 13, 70, 80, 0)), (70, (.aload_n 0, 71, 0, 0)), (71, (.getfield 30, 74, 0, 0)), (74, (.getfield 72, 77, 0, 0)), (77, (.ifCond .eq 35, 80, 112, 0)), (80, (.aload_n 0, 81, 0, 0)), (81, (.getfield 24, 84, 0, 0)), (84, (.iconst 3, 85, 0, 3)), (85, (.iload 6, 87, 0, 0)), (87, (.iastore, 88, 0, 0)), (88, (.aload_n 0, 89, 0, 0)), (89, (.iload_n 1, 90, 0, 0)), (90, (.iload_n 3, 91, 0, 0)), (91, (.aload_n 0, 92, 0, 0)), (92, (.getfield 30, 95, 0, 0)), (95, (.iconst 0, 96, 0, 0)), (96, (.aload_n 0, 97, 0, 0)), (97, (.getfield 24, 100, 0, 0)), (100, (.aload_n 0, 101, 0, 0)), (101, (.getfield 27, 104, 0, 0)), (104, (.invokevirtual 78, 107, 0, 0)), (107, (.invokevirtual 82, 110, 0, 0)), (110, (.istore 5, 112, 0, 0)), (112, (.iload 4, 114, 0, 0)), (114, (.iload 5, 116, 0, 0)), (116, (.iadd, 117, 0, 0)), (117, (.istore 4, 119, 0, 0)), (119, (.iinc 6 1, 122, 0, 1)), (122, (.goto (-75), 125, 47, 0)), (125, (.aload_n 0, 126, 0, 0)), (126, (.getfield 24, 129, 0, 0)), (129, (.iconst 3, 130, 0, 3)), (130, (.iconst 0, 131, 0, 0)), (131, (.iastore, 132, 0, 0)), (132, (.iload_n 3, 133, 0, 0)), (133, (.iconst 2, 134, 0, 2)), (134, (.if_icmp .le 30, 137, 164, 0)), (137, (.iload 4, 139, 0, 0)), (139, (.aload_n 0, 140, 0, 0)), (140, (.iload_n 1, 141, 0, 0)), (141, (.iload_n 3, 142, 0, 0)), (142, (.aload_n 0, 143, 0, 0)), (143, (.getfield 30, 146, 0, 0)), (146, (.iconst 2, 147, 0, 2)), (147, (.aload_n 0, 148, 0, 0)), (148, (.getfield 24, 151, 0, 0)), (151, (.aload_n 0, 152, 0, 0)), (152, (.getfield 27, 155, 0, 0)), (155, (.invokevirtual 78, 158, 0, 0)), (158, (.invokevirtual 86, 161, 0, 0)), (161, (.iadd, 162, 0, 0)), (162, (.istore 4, 164, 0, 0)), (164, (.iload 4, 166, 0, 0)), (166, (.aload_n 0, 167, 0, 0)), (167, (.iload_n 1, 168, 0, 0)), (168, (.aload_n 0, 169, 0, 0)), (169, (.getfield 30, 172, 0, 0)), (172, (.iconst 1, 173, 0, 1)), (173, (.aload_n 0, 174, 0, 0)), (174, (.getfield 24, 177, 0, 0)), (177, (.aload_n 0, 178, 0, 0)), (178, (.getfield 27, 181, 0, 0)), (181, (.invokevirtual 78, 184, 0, 0)), (184, (.invokevirtual 89, 187, 0, 0)), (187, (.isub, 188, 0, 0)), (188, (.istore 4, 190, 0, 0)), (190, (.iload 4, 192, 0, 0)), (192, (.iconst 0, 193, 0, 0)), (193, (.invokestatic 92, 196, 0, 0)), (196, (.ireturn, 197, 0, 0))]
def vtb8 : List (Nat × vI) := [(0, (.iload_n 1, 1, 0, 0)), (1, (.ifCond .lt 9, 4, 10, 0)), (4, (.iload_n 1, 5, 0, 0)), (5, (.bipush 6, 7, 0, 6)), (7, (.if_icmp .lt 5, 10, 12, 0)), (10, (.iconst 0, 11, 0, 0)), (11, (.ireturn, 12, 0, 0)), (12, (.aload_n 0, 13, 0, 0)), (13, (.iload_n 1, 14, 0, 0)), (14, (.invokevirtual 69, 17, 0, 0)), (17, (.istore_n 3, 18, 0, 0)), (18, (.aload_n 0, 19, 0, 0)), (19, (.getfield 24, 22, 0, 0)), (22, (.iconst 3, 23, 0, 3)), (23, (.iload_n 2, 24, 0, 0)), (24, (.iastore, 25, 0, 0)), (25, (.aload_n 0, 26, 0, 0)), (26, (.iload_n 1, 27, 0, 0)), (27, (.iload_n 3, 28, 0, 0)), (28, (.aload_n 0, 29, 0, 0)), (29, (.getfield 30, 32, 0, 0)), (32, (.iconst 0, 33, 0, 0)), (33, (.aload_n 0, 34, 0, 0)), (34, (.getfield 24, 37, 0, 0)), (37, (.aload_n 0, 38, 0, 0)), (38, (.getfield 27, 41, 0, 0)), (41, (.invokevirtual 78, 44, 0, 0)), (44, (.invokevirtual 82, 47, 0, 0)), (47, (.ireturn, 48, 0, 0))]
def vtb9 : List (Nat × vI) := [(0, (.aload_n 0, 1, 0, 0)), (1, (.getfield 21, 4, 0, 0)), (4, (.iload_n 1, 5, 0, 0)), (5, (.iaload, 6, 0, 0)), (6, (.aload_n 0, 7, 0, 0)), (7, (.getfield 40, 10, 0, 0)), (10, (.iconst (-1), 11, 0, (-1))), (11, (.ixor, 12, 0, 0)), (12, (.iand, 13, 0, 0)), (13, (.invokestatic 55, 16, 0, 0)), (16, (.istore_n 2, 17, 0, 0)), (17, (.aload_n 0, 18, 0, 0)), (18, (.getfield 24, 21, 0, 0)), (21, (.iconst 0, 22, 0, 0)), (22, (.aload_n 0, 23, 0, 0)), (23, (.getfield 18, 26, 0, 0)), (26, (.iload_n 1, 27, 0, 0)), (27, (.iaload, 28, 0, 0)), (28, (.iastore, 29, 0, 0)), (29, (.aload_n 0, 30, 0, 0)), (30, (.getfield 24, 33, 0, 0)), (33, (.iconst 1, 34, 0, 1)), (34, (.iload_n 2, 35, 0, 0)), (35, (.iastore, 36, 0, 0)), (36, (.aload_n 0, 37, 0, 0)), (37, (.getfield 24, 40, 0, 0)), (40, (.iconst 2, 41, 0, 2)), (41, (.aload_n 0, 42, 0, 0)), (42, (.getfield 15, 45, 0, 0)), (45, (.iload_n 1, 46, 0, 0)), (46, (.iaload, 47, 0, 0)), (47, (.iastore, 48, 0, 0)), (48, (.aload_n 0, 49, 0, 0)), (49, (.getfield 24, 52, 0, 0)), (52, (.iconst 3, 53, 0, 3)), (53, (.iconst 0, 54, 0, 0)), (54, (.iastore, 55, 0, 0)), (55, (.aload_n 0, 56, 0, 0)), (56, (.getfield 24, 59, 0, 0)), (59, (.iconst 4, 60, 0, 4)), (60, (.aload_n 0, 61, 0, 0)), (61, (.getfield 40, 64, 0, 0)), (64, (.invokestatic 55, 67, 0, 0)), (67, (.iastore, 68, 0, 0)), (68, (.aload_n 0, 69, 0, 0)), (69, (.getfield 24, 72, 0, 0)), (72, (.iconst 5, 73, 0, 5)), (73, (.aload_n 0, 74, 0, 0)), (74, (.invokevirtual 95, 77, 0, 0)), (77, (.iastore, 78, 0, 0)), (78, (.iload_n 2, 79, 0, 0)), (79, (.ireturn, 80, 0, 0))]
def vtb10 : List (Nat × vI) := [(0, (.iload_n 3, 1, 0, 0)), (1, (.bipush 99, 3, 0, 99)), (3, (.invokestatic 99, 6, 0, 0)), (6, (.istore 4, 8, 0, 0)), (8, (.aload_n 0, 9, 0, 0)), (9, (.getfield 9, 12, 0, 0)), (12, (.iload_n 1, 13, 0, 0)), (13, (.iaload, 14, 0, 0)), (14, (.tableswitch 104 1 5 #[34, 45, 56, 81, 102], 48, 0, 0)), (48, (.iconst 2, 49, 0, 2)), (49, (.iload 4, 51, 0, 0)), (51, (.imul, 52, 0, 0)), (52, (.sipush 999, 55, 0, 999)), (55, (.invokestatic 99, 58, 0, 0)), (58, (.ireturn, 59, 0, 0)), (59, (.iload 4, 61, 0, 0)), (61, (.iconst 2, 62, 0, 2)), (62, (.idiv, 63, 0, 0)), (63, (.sipush 999, 66, 0, 999)), (66, (.invokestatic 99, 69, 0, 0)), (69, (.ireturn, 70, 0, 0)), (70, (.iload_n 2, 71, 0, 0)), (71, (.aload_n 0, 72, 0, 0)), (72, (.getfield 15, 75, 0, 0)), (75, (.iload_n 1, 76, 0, 0)), (76, (.iaload, 77, 0, 0)), (77, (.if_icmp .lt 7, 80, 84, 0)), (80, (.iconst 0, 81, 0, 0)), (81, (.goto 13, 84, 94, 0)), (84, (.iconst 2, 85, 0, 2)), (85, (.iload 4, 87, 0, 0)), (87, (.imul, 88, 0, 0)), (88, (.sipush 999, 91, 0, 999)), (91, (.invokestatic 99, 94, 0, 0)), (94, (.ireturn, 95, 0, 0)), (95, (.iload 4, 97, 0, 0)), (97, (.iconst 2, 98, 0, 2)), (98, (.idiv, 99, 0, 0)), (99, (.aload_n 0, 100, 0, 0)), (100, (.getfield 18, 103, 0, 0)), (103, (.iload_n 1, 104, 0, 0)), (104, (.iaload, 105, 0, 0)), (105, (.bipush 100, 107, 0, 100)), (107, (.idiv, 108, 0, 0)), (108, (.iadd, 109, 0, 0)), (109, (.sipush 999, 112, 0, 999)), (112, (.invokestatic 99, 115, 0, 0)), (115, (.ireturn, 116, 0, 0)), (116, (.iconst 1, 117, 0, 1)), (117, (.ireturn, 118, 0, 0)), (118, (.iload 4, 120, 0, 0)), (120, (.sipush 999, 123, 0, 999)), (123, (.invokestatic 99, 126, 0, 0)), (126, (.ireturn, 127, 0, 0))]
def vtb11 : List (Nat × vI) := [(0, (.iload_n 2, 1, 0, 0)), (1, (.bipush 99, 3, 0, 99)), (3, (.invokestatic 99, 6, 0, 0)), (6, (.istore_n 3, 7, 0, 0)), (7, (.aload_n 0, 8, 0, 0)), (8, (.getfield 9, 11, 0, 0)), (11, (.iload_n 1, 12, 0, 0)), (12, (.iaload, 13, 0, 0)), (13, (.tableswitch 44 2 4 #[27, 42, 27], 40, 0, 0)), (40, (.iload_n 3, 41, 0, 0)), (41, (.aload_n 0, 42, 0, 0)), (42, (.getfield 15, 45, 0, 0)), (45, (.iload_n 1, 46, 0, 0)), (46, (.iaload, 47, 0, 0)), (47, (.iadd, 48, 0, 0)), (48, (.sipush 999, 51, 0, 999)), (51, (.invokestatic 99, 54, 0, 0)), (54, (.ireturn, 55, 0, 0)), (55, (.iconst 0, 56, 0, 0)), (56, (.ireturn, 57, 0, 0)), (57, (.iload_n 3, 58, 0, 0)), (58, (.sipush 999, 61, 0, 999)), (61, (.invokestatic 99, 64, 0, 0)), (64, (.ireturn, 65, 0, 0))]
def vtb12 : List (Nat × vI) := [(0, (.iload_n 3, 1, 0, 0)), (1, (.bipush 99, 3, 0, 99)), (3, (.invokestatic 99, 6, 0, 0)), (6, (.istore 4, 8, 0, 0)), (8, (.aload_n 0, 9, 0, 0)), (9, (.getfield 9, 12, 0, 0)), (12, (.iload_n 1, 13, 0, 0)), (13, (.iaload, 14, 0, 0)), (14, (.tableswitch 58 1 5 #[34, 58, 34, 45, 56], 48, 0, 0)), (48, (.iload 4, 50, 0, 0)), (50, (.iload_n 2, 51, 0, 0)), (51, (.iadd, 52, 0, 0)), (52, (.sipush 999, 55, 0, 999)), (55, (.invokestatic 99, 58, 0, 0)), (58, (.ireturn, 59, 0, 0)), (59, (.iconst 2, 60, 0, 2)), (60, (.iload 4, 62, 0, 0)), (62, (.imul, 63, 0, 0)), (63, (.sipush 999, 66, 0, 999)), (66, (.invokestatic 99, 69, 0, 0)), (69, (.ireturn, 70, 0, 0)), (70, (.iconst 0, 71, 0, 0)), (71, (.ireturn, 72, 0, 0)), (72, (.iload 4, 74, 0, 0)), (74, (.sipush 999, 77, 0, 999)), (77, (.invokestatic 99, 80, 0, 0)), (80, (.ireturn, 81, 0, 0))]
def vtb13 : List (Nat × vI) := [(0, (.iload_n 0, 1, 0, 0)), (1, (.ifCond .ge 7, 4, 8, 0)), (4, (.iconst 0, 5, 0, 0)), (5, (.goto 13, 8, 18, 0)), (8, (.iload_n 0, 9, 0, 0)), (9, (.iload_n 1, 10, 0, 0)), (10, (.if_icmp .le 7, 13, 17, 0)), (13, (.iload_n 1, 14, 0, 0)), (14, (.goto 4, 17, 18, 0)), (17, (.iload_n 0, 18, 0, 0)), (18, (.ireturn, 19, 0, 0))]
def vtb14 : List (Nat × vI) := [(0, (.aload_n 0, 1, 0, 0)), (1, (.invokespecial 3, 4, 0, 0)), (4, (.aload_n 0, 5, 0, 0)), (5, (.iconst 4, 6, 0, 4)), (6, (.newarray .int, 8, 0, 0)), (8, (.putfield 9, 11, 0, 0)), (11, (.return_, 12, 0, 0))]
def vtb15 : List (Nat × vI) := [(0, (.aload_n 0, 1, 0, 0)), (1, (.iconst (-1), 2, 0, (-1))), (2, (.putfield 15, 5, 0, 0)), (5, (.aload_n 0, 6, 0, 0)), (6, (.iload_n 1, 7, 0, 0)), (7, (.putfield 19, 10, 0, 0)), (10, (.aload_n 2, 11, 0, 0)), (11, (.arraylength, 12, 0, 0)), (12, (.iconst 4, 13, 0, 4)), (13, (.if_icmp .lt 9, 16, 22, 0)), (16, (.aload_n 3, 17, 0, 0)), (17, (.arraylength, 18, 0, 0)), (18, (.iconst 4, 19, 0, 4)), (19, (.if_icmp .ge 4, 22, 23, 0)), (22, (.return_, 23, 0, 0)), (23, (.iconst 3, 24, 0, 3)), (24, (.iload_n 1, 25, 0, 0)), (25, (.aload_n 2, 26, 0, 0)), (26, (.aload_n 3, 27, 0, 0)), (27, (.invokestatic 22, 30, 0, 0)), (30, (.istore 4, 32, 0, 0)), (32, (.iload 4, 34, 0, 0)), (34, (.ifCond .lt 160, 37, 194, 0)), (37, (.iload_n 1, 38, 0, 0)), (38, (.iload 4, 40, 0, 0)), (40, (.aload_n 2, 41, 0, 0)), (41, (.iconst 3, 42, 0, 3)), (42, (.iaload, 43, 0, 0)), (43, (.imul, 44, 0, 0)), (44, (.isub, 45, 0, 0)), (45, (.istore 5, 47, 0, 0)), (47, (.iconst 2, 48, 0, 2)), (48, (.iload 5, 50, 0, 0)), (50, (.aload_n 2, 51, 0, 0)), (51, (.aload_n 3, 52, 0, 0)), (52, (.invokestatic 22, 55, 0, 0)), (55, (.istore 6, 57, 0, 0)), (57, (.iload 6, 59, 0, 0)), (59, (.ifCond .lt 129, 62, 188, 0)), (62, (.iload 5, 64, 0, 0)), (64, (.iload 6, 66, 0, 0)), (66, (.aload_n 2, 67, 0, 0)), (67, (.iconst 2, 68, 0, 2)), (68, (.iaload, 69, 0, 0)), (69, (.imul, 70, 0, 0)), (70, (.isub, 71, 0, 0)), (71, (.istore 7, 73, 0, 0)), (73, (.iconst 1, 74, 0, 1)), (74, (.iload 7, 76, 0, 0)), (76, (.aload_n 2, 77, 0, 0)), (77, (.aload_n 3, 78, 0, 0)), (78, (.invokestatic 22, 81, 0, 0)), (81, (.istore 8, 83, 0, 0)), (83, (.iload 8, 85, 0, 0)), (85, (.ifCond .lt 97, 88, 182, 0)), (88, (.iload 7, 90, 0, 0)), (90, (.iload 8, 92, 0, 0)), (92, (.aload_n 2, 93, 0, 0)), (93, (.iconst 1, 94, 0, 1)), (94, (.iaload, 95, 0, 0)), (95, (.imul, 96, 0, 0)), (96, (.isub, 97, 0, 0)), (97, (.istore 9, 99, 0, 0)), (99, (.iconst 0, 100, 0, 0)), (100, (.iload 9, 102, 0, 0)), (102, (.aload_n 2, 103, 0, 0)), (103, (.aload_n 3, 104, 0, 0)), (104, (.invokestatic 22, 107, 0, 0)), (107, (.istore 10, 109, 0, 0)), (109, (.iload 9, 111, 0, 0)), (111, (.iload 10, 113, 0, 0)), (113, (.aload_n 2, 114, 0, 0)), (114, (.iconst 0, 115, 0, 0)), (115, (.iaload, 116, 0, 0)), (116, (.imul, 117, 0, 0)), (117, (.isub, 118, 0, 0)), (118, (.istore 11, 120, 0, 0)), (120, (.aload_n 0, 121, 0, 0)), (121, (.aload_n 0, 122, 0, 0)), (122, (.getfield 19, 125, 0, 0)), (125, (.iload 11, 127, 0, 0)), (127, (.invokestatic 26, 130, 0, 0)), (130, (.putfield 19, 133, 0, 0)), (133, (.iload 11, 135, 0, 0)), (135, (.ifCond .ne 41, 138, 176, 0)), (138, (.aload_n 0, 139, 0, 0)), (139, (.getfield 15, 142, 0, 0)), (142, (.iconst (-1), 143, 0, (-1))), (143, (.if_icmp .eq 21, 146, 164, 0)), (146, (.iload 10, 148, 0, 0)), (148, (.iload 8, 150, 0, 0)), (150, (.iadd, 151, 0, 0)), (151, (.iload 6, 153, 0, 0)), (153, (.iadd, 154, 0, 0)), (154, (.iload 4, 156, 0, 0)), (156, (.iadd, 157, 0, 0)), (157, (.aload_n 0, 158, 0, 0)), (158, (.getfield 15, 161, 0, 0)), (161, (.if_icmp .ge 15, 164, 176, 0)), (164, (.aload_n 0, 165, 0, 0)), (165, (.iload 10, 167, 0, 0)), (167, (.iload 8, 169, 0, 0)), (169, (.iload 6, 171, 0, 0)), (171, (.iload 4, 173, 0, 0)), (173, (.invokevirtual 32, 176, 0, 0)), (176, (.iinc 8 (-1), 179, 0, (-1))), (179, (.goto (-96), 182, 83, 0)), (182, (.iinc 6 (-1), 185, 0, (-1))), (185, (.goto (-128), 188, 57, 0)), (188, (.iinc 4 (-1), 191, 0, (-1))), (191, (.goto (-159), 194, 32, 0)), (194, (.return_, 195, 0, 0))]
def vtb16 : List (Nat × vI) := [(0, (.aload_n 0, 1, 0, 0)), (1, (.getfield 9, 4, 0, 0)), (4, (.iconst 0, 5, 0, 0)), (5, (.iload_n 1, 6, 0, 0)), (6, (.iastore, 7, 0, 0)), (7, (.aload_n 0, 8, 0, 0)), (8, (.getfield 9, 11, 0, 0)), (11, (.iconst 1, 12, 0, 1)), (12, (.iload_n 2, 13, 0, 0)), (13, (.iastore, 14, 0, 0)), (14, (.aload_n 0, 15, 0, 0)), (15, (.getfield 9, 18, 0, 0)), (18, (.iconst 2, 19, 0, 2)), (19, (.iload_n 3, 20, 0, 0)), (20, (.iastore, 21, 0, 0)), (21, (.aload_n 0, 22, 0, 0)), (22, (.getfield 9, 25, 0, 0)), (25, (.iconst 3, 26, 0, 3)), (26, (.iload 4, 28, 0, 0)), (28, (.iastore, 29, 0, 0)), (29, (.aload_n 0, 30, 0, 0)), (30, (.iload_n 1, 31, 0, 0)), (31, (.iload_n 2, 32, 0, 0)), (32, (.iadd, 33, 0, 0)), (33, (.iload_n 3, 34, 0, 0)), (34, (.iadd, 35, 0, 0)), (35, (.iload 4, 37, 0, 0)), (37, (.iadd, 38, 0, 0)), (38, (.putfield 15, 41, 0, 0)), (41, (.return_, 42, 0, 0))]
def vtb17 : List (Nat × vI) := [(0, (.aload_n 2, 1, 0, 0)), (1, (.iload_n 0, 2, 0, 0)), (2, (.iaload, 3, 0, 0)), (3, (.iconst 1, 4, 0, 1)), (4, (.if_icmp .ge 5, 7, 9, 0)), (7, (.iconst 0, 8, 0, 0)), (8, (.ireturn, 9, 0, 0)), (9, (.aload_n 3, 10, 0, 0)), (10, (.iload_n 0, 11, 0, 0)), (11, (.iaload, 12, 0, 0)), (12, (.iload_n 1, 13, 0, 0)), (13, (.aload_n 2, 14, 0, 0)), (14, (.iload_n 0, 15, 0, 0)), (15, (.iaload, 16, 0, 0)), (16, (.idiv, 17, 0, 0)), (17, (.invokestatic 26, 20, 0, 0)), (20, (.ireturn, 21, 0, 0))]
def vtb18 : List (Nat × vI) := [(0, (.aload_n 0, 1, 0, 0)), (1, (.invokespecial 3, 4, 0, 0)), (4, (.aload_n 0, 5, 0, 0)), (5, (.sipush 160, 8, 0, 160)), (8, (.newarray .int, 10, 0, 0)), (10, (.putfield 9, 13, 0, 0)), (13, (.aload_n 0, 14, 0, 0)), (14, (.aload_n 1, 15, 0, 0)), (15, (.putfield 15, 18, 0, 0)), (18, (.return_, 19, 0, 0))]
def vtb19 : List (Nat × vI) := [(0, (.aload_n 0, 1, 0, 0)), (1, (.getfield 19, 4, 0, 0)), (4, (.ifCond .lt 35, 7, 39, 0)), (7, (.aload_n 0, 8, 0, 0)), (8, (.getfield 19, 11, 0, 0)), (11, (.aload_n 0, 12, 0, 0)), (12, (.getfield 9, 15, 0, 0)), (15, (.arraylength, 16, 0, 0)), (16, (.if_icmp .ge 23, 19, 39, 0)), (19, (.aload_n 0, 20, 0, 0)), (20, (.getfield 9, 23, 0, 0)), (23, (.aload_n 0, 24, 0, 0)), (24, (.getfield 19, 27, 0, 0)), (27, (.iload_n 1, 28, 0, 0)), (28, (.iastore, 29, 0, 0)), (29, (.aload_n 0, 30, 0, 0)), (30, (.dup, 31, 0, 0)), (31, (.getfield 19, 34, 0, 0)), (34, (.iconst 1, 35, 0, 1)), (35, (.iadd, 36, 0, 0)), (36, (.putfield 19, 39, 0, 0)), (39, (.return_, 40, 0, 0))]
def vtb20 : List (Nat × vI) := [(0, (.aload_n 0, 1, 0, 0)), (1, (.iconst 0, 2, 0, 0)), (2, (.putfield 19, 5, 0, 0)), (5, (.return_, 6, 0, 0))]
def vtb21 : List (Nat × vI) := [(0, (.aload_n 0, 1, 0, 0)), (1, (.aload_n 1, 2, 0, 0)), (2, (.putfield 15, 5, 0, 0)), (5, (.aload_n 0, 6, 0, 0)), (6, (.getfield 15, 9, 0, 0)), (9, (.invokevirtual 23, 12, 0, 0)), (12, (.aload_n 0, 13, 0, 0)), (13, (.iconst (-1), 14, 0, (-1))), (14, (.putfield 28, 17, 0, 0)), (17, (.aload_n 0, 18, 0, 0)), (18, (.iconst 0, 19, 0, 0)), (19, (.putfield 31, 22, 0, 0)), (22, (.aload_n 0, 23, 0, 0)), (23, (.invokevirtual 34, 26, 0, 0)), (26, (.iconst 0, 27, 0, 0)), (27, (.istore_n 2, 28, 0, 0)), (28, (.iload_n 2, 29, 0, 0)), (29, (.iconst 3, 30, 0, 3)), (30, (.if_icmp .ge 36, 33, 66, 0)), (33, (.aload_n 0, 34, 0, 0)), (34, (.bipush 6, 36, 0, 6)), (36, (.iload_n 2, 37, 0, 0)), (37, (.iadd, 38, 0, 0)), (38, (.invokevirtual 37, 41, 0, 0)), (41, (.aload_n 0, 42, 0, 0)), (42, (.iconst 0, 43, 0, 0)), (43, (.invokevirtual 41, 46, 0, 0)), (46, (.aload_n 0, 47, 0, 0)), (47, (.bipush 59, 49, 0, 59)), (49, (.invokevirtual 37, 52, 0, 0)), (52, (.aload_n 0, 53, 0, 0)), (53, (.getfield 15, 56, 0, 0)), (56, (.iload_n 2, 57, 0, 0)), (57, (.invokevirtual 44, 60, 0, 0)), (60, (.iinc 2 1, 63, 0, 1)), (63, (.goto (-35), 66, 28, 0)), (66, (.aload_n 0, 67, 0, 0)), (67, (.getfield 47, 70, 0, 0)), (70, (.ifCond .eq 7, 73, 77, 0)), (73, (.aload_n 0, 74, 0, 0)), (74, (.invokevirtual 50, 77, 0, 0)), (77, (.aload_n 0, 78, 0, 0)), (78, (.getfield 28, 81, 0, 0)), (81, (.ireturn, 82, 0, 0))]
def vtb22 : List (Nat × vI) := [(0, (.aload_n 0, 1, 0, 0)), (1, (.iload_n 1, 2, 0, 0)), (2, (.invokevirtual 53, 5, 0, 0)), (5, (.iconst 0, 6, 0, 0)), (6, (.istore_n 2, 7, 0, 0)), (7, (.iload_n 2, 8, 0, 0)), (8, (.sipush 160, 11, 0, 160)), (11, (.if_icmp .ge 36, 14, 47, 0)), (14, (.aload_n 0, 15, 0, 0)), (15, (.getfield 47, 18, 0, 0)), (18, (.bipush 9, 20, 0, 9)), (20, (.if_icmp .ne 27, 23, 47, 0)), (23, (.aload_n 0, 24, 0, 0)), (24, (.invokevirtual 34, 27, 0, 0)), (27, (.aload_n 0, 28, 0, 0)), (28, (.iload_n 1, 29, 0, 0)), (29, (.invokevirtual 53, 32, 0, 0)), (32, (.aload_n 0, 33, 0, 0)), (33, (.getfield 15, 36, 0, 0)), (36, (.bipush 9, 38, 0, 9)), (38, (.invokevirtual 56, 41, 0, 0)), (41, (.iinc 2 1, 44, 0, 1)), (44, (.goto (-37), 47, 7, 0)), (47, (.return_, 48, 0, 0))]
def vtb23 : List (Nat × vI) := [(0, (.aload_n 0, 1, 0, 0)), (1, (.iload_n 1, 2, 0, 0)), (2, (.invokevirtual 59, 5, 0, 0)), (5, (.iconst 0, 6, 0, 0)), (6, (.istore_n 2, 7, 0, 0)), (7, (.iload_n 2, 8, 0, 0)), (8, (.sipush 160, 11, 0, 160)), (11, (.if_icmp .ge 36, 14, 47, 0)), (14, (.aload_n 0, 15, 0, 0)), (15, (.getfield 47, 18, 0, 0)), (18, (.bipush 10, 20, 0, 10)), (20, (.if_icmp .ne 27, 23, 47, 0)), (23, (.aload_n 0, 24, 0, 0)), (24, (.invokevirtual 34, 27, 0, 0)), (27, (.aload_n 0, 28, 0, 0)), (28, (.iload_n 1, 29, 0, 0)), (29, (.invokevirtual 59, 32, 0, 0)), (32, (.aload_n 0, 33, 0, 0)), (33, (.getfield 15, 36, 0, 0)), (36, (.bipush 10, 38, 0, 10)), (38, (.invokevirtual 56, 41, 0, 0)), (41, (.iinc 2 1, 44, 0, 1)), (44, (.goto (-37), 47, 7, 0)), (47, (.return_, 48, 0, 0))]
def vtb24 : List (Nat × vI) := [(0, (.aload_n 0, 1, 0, 0)), (1, (.getfield 47, 4, 0, 0)), (4, (.bipush 11, 6, 0, 11)), (6, (.if_icmp .ne 28, 9, 34, 0)), (9, (.aload_n 0, 10, 0, 0)), (10, (.iload_n 1, 11, 0, 0)), (11, (.invokevirtual 62, 14, 0, 0)), (14, (.ifCond .eq 19, 17, 33, 0)), (17, (.aload_n 0, 18, 0, 0)), (18, (.iload_n 1, 19, 0, 0)), (19, (.iconst 1, 20, 0, 1)), (20, (.iadd, 21, 0, 0)), (21, (.invokevirtual 59, 24, 0, 0)), (24, (.aload_n 0, 25, 0, 0)), (25, (.getfield 15, 28, 0, 0)), (28, (.bipush 11, 30, 0, 11)), (30, (.invokevirtual 56, 33, 0, 0)), (33, (.return_, 34, 0, 0)), (34, (.aload_n 0, 35, 0, 0)), (35, (.iload_n 1, 36, 0, 0)), (36, (.invokevirtual 66, 39, 0, 0)), (39, (.aload_n 0, 40, 0, 0)), (40, (.getfield 47, 43, 0, 0)), (43, (.bipush 60, 45, 0, 60)), (45, (.if_icmp .eq 12, 48, 57, 0)), (48, (.aload_n 0, 49, 0, 0)), (49, (.getfield 47, 52, 0, 0)), (52, (.bipush 61, 54, 0, 61)), (54, (.if_icmp .ne 25, 57, 79, 0)), (57, (.aload_n 0, 58, 0, 0)), (58, (.getfield 47, 61, 0, 0)), (61, (.istore_n 2, 62, 0, 0)), (62, (.aload_n 0, 63, 0, 0)), (63, (.invokevirtual 34, 66, 0, 0)), (66, (.aload_n 0, 67, 0, 0)), (67, (.iload_n 1, 68, 0, 0)), (68, (.invokevirtual 66, 71, 0, 0)), (71, (.aload_n 0, 72, 0, 0)), (72, (.getfield 15, 75, 0, 0)), (75, (.iload_n 2, 76, 0, 0)), (76, (.invokevirtual 56, 79, 0, 0)), (79, (.return_, 80, 0, 0))]
def vtb25 : List (Nat × vI) := [(0, (.aload_n 0, 1, 0, 0)), (1, (.iload_n 1, 2, 0, 0)), (2, (.invokevirtual 69, 5, 0, 0)), (5, (.iconst 0, 6, 0, 0)), (6, (.istore_n 2, 7, 0, 0)), (7, (.iload_n 2, 8, 0, 0)), (8, (.sipush 160, 11, 0, 160)), (11, (.if_icmp .ge 49, 14, 60, 0)), (14, (.aload_n 0, 15, 0, 0)), (15, (.getfield 47, 18, 0, 0)), (18, (.bipush 43, 20, 0, 43)), (20, (.if_icmp .eq 12, 23, 32, 0)), (23, (.aload_n 0, 24, 0, 0)), (24, (.getfield 47, 27, 0, 0)), (27, (.bipush 45, 29, 0, 45)), (29, (.if_icmp .ne 31, 32, 60, 0)), (32, (.aload_n 0, 33, 0, 0)), (33, (.getfield 47, 36, 0, 0)), (36, (.istore_n 3, 37, 0, 0)), (37, (.aload_n 0, 38, 0, 0)), (38, (.invokevirtual 34, 41, 0, 0)), (41, (.aload_n 0, 42, 0, 0)), (42, (.iload_n 1, 43, 0, 0)), (43, (.invokevirtual 69, 46, 0, 0)), (46, (.aload_n 0, 47, 0, 0)), (47, (.getfield 15, 50, 0, 0)), (50, (.iload_n 3, 51, 0, 0)), (51, (.invokevirtual 56, 54, 0, 0)), (54, (.iinc 2 1, 57, 0, 1)), (57, (.goto (-50), 60, 7, 0)), (60, (.return_, 61, 0, 0))]
def vtb26 : List (Nat × vI) := [(0, (.aload_n 0, 1, 0, 0)), (1, (.iload_n 1, 2, 0, 0)), (2, (.invokevirtual 72, 5, 0, 0)), (5, (.iconst 0, 6, 0, 0)), (6, (.istore_n 2, 7, 0, 0)), (7, (.iload_n 2, 8, 0, 0)), (8, (.sipush 160, 11, 0, 160)), (11, (.if_icmp .ge 36, 14, 47, 0)), (14, (.aload_n 0, 15, 0, 0)), (15, (.getfield 47, 18, 0, 0)), (18, (.bipush 42, 20, 0, 42)), (20, (.if_icmp .ne 27, 23, 47, 0)), (23, (.aload_n 0, 24, 0, 0)), (24, (.invokevirtual 34, 27, 0, 0)), (27, (.aload_n 0, 28, 0, 0)), (28, (.iload_n 1, 29, 0, 0)), (29, (.invokevirtual 72, 32, 0, 0)), (32, (.aload_n 0, 33, 0, 0)), (33, (.getfield 15, 36, 0, 0)), (36, (.bipush 42, 38, 0, 42)), (38, (.invokevirtual 56, 41, 0, 0)), (41, (.iinc 2 1, 44, 0, 1)), (44, (.goto (-37), 47, 7, 0)), (47, (.return_, 48, 0, 0))]
def vtb27 : List (Nat × vI) := [(0, (.aload_n 0, 1, 0, 0)), (1, (.getfield 47, 4, 0, 0)), (4, (.iconst 1, 5, 0, 1)), (5, (.if_icmp .ne 21, 8, 26, 0)), (8, (.aload_n 0, 9, 0, 0)), (9, (.getfield 15, 12, 0, 0)), (12, (.aload_n 0, 13, 0, 0)), (13, (.getfield 75, 16, 0, 0)), (16, (.invokevirtual 78, 19, 0, 0)), (19, (.aload_n 0, 20, 0, 0)), (20, (.invokevirtual 34, 23, 0, 0)), (23, (.goto 102, 26, 125, 0)), (26, (.aload_n 0, 27, 0, 0)), (27, (.getfield 47, 30, 0, 0)), (30, (.iconst 2, 31, 0, 2)), (31, (.if_icmp .ne 21, 34, 52, 0)), (34, (.aload_n 0, 35, 0, 0)), (35, (.getfield 15, 38, 0, 0)), (38, (.aload_n 0, 39, 0, 0)), (39, (.getfield 75, 42, 0, 0)), (42, (.invokevirtual 81, 45, 0, 0)), (45, (.aload_n 0, 46, 0, 0)), (46, (.invokevirtual 34, 49, 0, 0)), (49, (.goto 76, 52, 125, 0)), (52, (.aload_n 0, 53, 0, 0)), (53, (.getfield 47, 56, 0, 0)), (56, (.bipush 45, 58, 0, 45)), (58, (.if_icmp .ne 30, 61, 88, 0)), (61, (.aload_n 0, 62, 0, 0)), (62, (.iload_n 1, 63, 0, 0)), (63, (.invokevirtual 62, 66, 0, 0)), (66, (.ifCond .eq 59, 69, 125, 0)), (69, (.aload_n 0, 70, 0, 0)), (70, (.iload_n 1, 71, 0, 0)), (71, (.iconst 1, 72, 0, 1)), (72, (.iadd, 73, 0, 0)), (73, (.invokevirtual 72, 76, 0, 0)), (76, (.aload_n 0, 77, 0, 0)), (77, (.getfield 15, 80, 0, 0)), (80, (.bipush 12, 82, 0, 12)), (82, (.invokevirtual 56, 85, 0, 0)), (85, (.goto 40, 88, 125, 0)), (88, (.aload_n 0, 89, 0, 0)), (89, (.getfield 47, 92, 0, 0)), (92, (.bipush 40, 94, 0, 40)), (94, (.if_icmp .ne 27, 97, 121, 0)), (97, (.aload_n 0, 98, 0, 0)), (98, (.iload_n 1, 99, 0, 0)), (99, (.invokevirtual 62, 102, 0, 0)), (102, (.ifCond .eq 23, 105, 125, 0)), (105, (.aload_n 0, 106, 0, 0)), (106, (.iload_n 1, 107, 0, 0)), (107, (.iconst 1, 108, 0, 1)), (108, (.iadd, 109, 0, 0)), (109, (.invokevirtual 41, 112, 0, 0)), (112, (.aload_n 0, 113, 0, 0)), (113, (.bipush 41, 115, 0, 41)), (115, (.invokevirtual 37, 118, 0, 0)), (118, (.goto 7, 121, 125, 0)), (121, (.aload_n 0, 122, 0, 0)), (122, (.invokevirtual 50, 125, 0, 0)), (125, (.return_, 126, 0, 0))]
def vtb28 : List (Nat × vI) := [(0, (.iload_n 1, 1, 0, 0)), (1, (.iconst 5, 2, 0, 5)), (2, (.if_icmp .lt 9, 5, 11, 0)), (5, (.aload_n 0, 6, 0, 0)), (6, (.invokevirtual 50, 9, 0, 0)), (9, (.iconst 0, 10, 0, 0)), (10, (.ireturn, 11, 0, 0)), (11, (.aload_n 0, 12, 0, 0)), (12, (.invokevirtual 34, 15, 0, 0)), (15, (.iconst 1, 16, 0, 1)), (16, (.ireturn, 17, 0, 0))]
def vtb29 : List (Nat × vI) := [(0, (.aload_n 0, 1, 0, 0)), (1, (.getfield 47, 4, 0, 0)), (4, (.iload_n 1, 5, 0, 0)), (5, (.if_icmp .ne 10, 8, 15, 0)), (8, (.aload_n 0, 9, 0, 0)), (9, (.invokevirtual 34, 12, 0, 0)), (12, (.goto 7, 15, 19, 0)), (15, (.aload_n 0, 16, 0, 0)), (16, (.invokevirtual 50, 19, 0, 0)), (19, (.return_, 20, 0, 0))]
def vtb30 : List (Nat × vI) := [(0, (.aload_n 0, 1, 0, 0)), (1, (.getfield 28, 4, 0, 0)), (4, (.iconst (-1), 5, 0, (-1))), (5, (.if_icmp .ne 11, 8, 16, 0)), (8, (.aload_n 0, 9, 0, 0)), (9, (.aload_n 0, 10, 0, 0)), (10, (.getfield 84, 13, 0, 0)), (13, (.putfield 28, 16, 0, 0)), (16, (.aload_n 0, 17, 0, 0)), (17, (.iconst (-1), 18, 0, (-1))), (18, (.putfield 47, 21, 0, 0)), (21, (.return_, 22, 0, 0))]
def vtb31 : List (Nat × vI) := [(0, (.aload_n 0, 1, 0, 0)), (1, (.getfield 28, 4, 0, 0)), (4, (.iconst (-1), 5, 0, (-1))), (5, (.if_icmp .eq 9, 8, 14, 0)), (8, (.aload_n 0, 9, 0, 0)), (9, (.iconst (-1), 10, 0, (-1))), (10, (.putfield 47, 13, 0, 0)), (13, (.return_, 14, 0, 0)), (14, (.aload_n 0, 15, 0, 0)), (15, (.getfield 31, 18, 0, 0)), (18, (.aload_n 0, 19, 0, 0)), (19, (.getfield 19, 22, 0, 0)), (22, (.if_icmp .ge 42, 25, 64, 0)), (25, (.aload_n 0, 26, 0, 0)), (26, (.aload_n 0, 27, 0, 0)), (27, (.getfield 31, 30, 0, 0)), (30, (.invokevirtual 87, 33, 0, 0)), (33, (.bipush 32, 35, 0, 32)), (35, (.if_icmp .eq 16, 38, 51, 0)), (38, (.aload_n 0, 39, 0, 0)), (39, (.aload_n 0, 40, 0, 0)), (40, (.getfield 31, 43, 0, 0)), (43, (.invokevirtual 87, 46, 0, 0)), (46, (.bipush 10, 48, 0, 10)), (48, (.if_icmp .ne 16, 51, 64, 0)), (51, (.aload_n 0, 52, 0, 0)), (52, (.dup, 53, 0, 0)), (53, (.getfield 31, 56, 0, 0)), (56, (.iconst 1, 57, 0, 1)), (57, (.iadd, 58, 0, 0)), (58, (.putfield 31, 61, 0, 0)), (61, (.goto (-47), 64, 14, 0)), (64, (.aload_n 0, 65, 0, 0)), (65, (.aload_n 0, 66, 0, 0)), (66, (.getfield 31, 69, 0, 0)), (69, (.putfield 84, 72, 0, 0)), (72, (.aload_n 0, 73, 0, 0)), (73, (.aload_n 0, 74, 0, 0)), (74, (.getfield 31, 77, 0, 0)), (77, (.invokevirtual 87, 80, 0, 0)), (80, (.istore_n 1, 81, 0, 0)), (81, (.iload_n 1, 82, 0, 0)), (82, (.iconst (-1), 83, 0, (-1))), (83, (.if_icmp .ne 11, 86, 94, 0)), (86, (.aload_n 0, 87, 0, 0)), (87, (.iconst 0, 88, 0, 0)), (88, (.putfield 47, 91, 0, 0)), (91, (.goto 57, 94, 148, 0)), (94, (.iload_n 1, 95, 0, 0)), (95, (.invokestatic 91, 98, 0, 0)), (98, (.ifCond .eq 10, 101, 108, 0)), (101, (.aload_n 0, 102, 0, 0)), (102, (.invokevirtual 94, 105, 0, 0)), (105, (.goto 43, 108, 148, 0)), (108, (.iload_n 1, 109, 0, 0)), (109, (.invokestatic 97, 112, 0, 0)), (112, (.ifCond .eq 10, 115, 122, 0)), (115, (.aload_n 0, 116, 0, 0)), (116, (.invokevirtual 100, 119, 0, 0)), (119, (.goto 29, 122, 148, 0)), (122, (.aload_n 0, 123, 0, 0)), (123, (.dup, 124, 0, 0)), (124, (.getfield 31, 127, 0, 0)), (127, (.iconst 1, 128, 0, 1)), (128, (.iadd, 129, 0, 0)), (129, (.putfield 31, 132, 0, 0)), (132, (.aload_n 0, 133, 0, 0)), (133, (.iload_n 1, 134, 0, 0)), (134, (.invokestatic 103, 137, 0, 0)), (137, (.ifCond .eq 7, 140, 144, 0)), (140, (.iload_n 1, 141, 0, 0)), (141, (.goto 4, 144, 145, 0)), (144, (.iconst (-1), 145, 0, (-1))), (145, (.putfield 47, 148, 0, 0)), (148, (.return_, 149, 0, 0))]
def vtb32 : List (Nat × vI) := [(0, (.aload_n 0, 1, 0, 0)), (1, (.iconst 0, 2, 0, 0)), (2, (.putfield 75, 5, 0, 0)), (5, (.aload_n 0, 6, 0, 0)), (6, (.getfield 31, 9, 0, 0)), (9, (.aload_n 0, 10, 0, 0)), (10, (.getfield 19, 13, 0, 0)), (13, (.if_icmp .ge 53, 16, 66, 0)), (16, (.aload_n 0, 17, 0, 0)), (17, (.aload_n 0, 18, 0, 0)), (18, (.getfield 31, 21, 0, 0)), (21, (.invokevirtual 87, 24, 0, 0)), (24, (.invokestatic 97, 27, 0, 0)), (27, (.ifCond .eq 39, 30, 66, 0)), (30, (.aload_n 0, 31, 0, 0)), (31, (.aload_n 0, 32, 0, 0)), (32, (.getfield 75, 35, 0, 0)), (35, (.bipush 10, 37, 0, 10)), (37, (.imul, 38, 0, 0)), (38, (.aload_n 0, 39, 0, 0)), (39, (.aload_n 0, 40, 0, 0)), (40, (.getfield 31, 43, 0, 0)), (43, (.invokevirtual 87, 46, 0, 0)), (46, (.iadd, 47, 0, 0)), (47, (.bipush 48, 49, 0, 48)), (49, (.isub, 50, 0, 0)), (50, (.putfield 75, 53, 0, 0)), (53, (.aload_n 0, 54, 0, 0)), (54, (.dup, 55, 0, 0)), (55, (.getfield 31, 58, 0, 0)), (58, (.iconst 1, 59, 0, 1)), (59, (.iadd, 60, 0, 0)), (60, (.putfield 31, 63, 0, 0)), (63, (.goto (-58), 66, 5, 0)), (66, (.aload_n 0, 67, 0, 0)), (67, (.aload_n 0, 68, 0, 0)), (68, (.getfield 31, 71, 0, 0)), (71, (.aload_n 0, 72, 0, 0)), (72, (.getfield 84, 75, 0, 0)), (75, (.isub, 76, 0, 0)), (76, (.iconst 4, 77, 0, 4)), (77, (.if_icmp .le 7, 80, 84, 0)), (80, (.iconst (-1), 81, 0, (-1))), (81, (.goto 4, 84, 85, 0)), (84, (.iconst 1, 85, 0, 1)), (85, (.putfield 47, 88, 0, 0)), (88, (.return_, 89, 0, 0))]
def vtb33 : List (Nat × vI) := [(0, (.aload_n 0, 1, 0, 0)), (1, (.getfield 31, 4, 0, 0)), (4, (.aload_n 0, 5, 0, 0)), (5, (.getfield 19, 8, 0, 0)), (8, (.if_icmp .ge 30, 11, 38, 0)), (11, (.aload_n 0, 12, 0, 0)), (12, (.aload_n 0, 13, 0, 0)), (13, (.getfield 31, 16, 0, 0)), (16, (.invokevirtual 87, 19, 0, 0)), (19, (.invokestatic 91, 22, 0, 0)), (22, (.ifCond .eq 16, 25, 38, 0)), (25, (.aload_n 0, 26, 0, 0)), (26, (.dup, 27, 0, 0)), (27, (.getfield 31, 30, 0, 0)), (30, (.iconst 1, 31, 0, 1)), (31, (.iadd, 32, 0, 0)), (32, (.putfield 31, 35, 0, 0)), (35, (.goto (-35), 38, 0, 0)), (38, (.aload_n 0, 39, 0, 0)), (39, (.iconst 0, 40, 0, 0)), (40, (.putfield 75, 43, 0, 0)), (43, (.iconst 0, 44, 0, 0)), (44, (.istore_n 1, 45, 0, 0)), (45, (.aload_n 0, 46, 0, 0)), (46, (.iconst (-1), 47, 0, (-1))), (47, (.putfield 47, 50, 0, 0)), (50, (.iconst 0, 51, 0, 0)), (51, (.istore_n 2, 52, 0, 0)), (52, (.iload_n 2, 53, 0, 0)), (53, (.ldc 106, 55, 0, 0)), (55, (.invokevirtual 108, 58, 0, 0)), (58, (.if_icmp .ge 75, 61, 133, 0)), (61, (.aload_n 0, 62, 0, 0)), (62, (.getfield 47, 65, 0, 0)), (65, (.iconst (-1), 66, 0, (-1))), (66, (.if_icmp .ne 67, 69, 133, 0)), (69, (.ldc 106, 71, 0, 0)), (71, (.iload_n 2, 72, 0, 0)), (72, (.invokevirtual 114, 75, 0, 0)), (75, (.bipush 32, 77, 0, 32)), (77, (.if_icmp .ne 50, 80, 127, 0)), (80, (.aload_n 0, 81, 0, 0)), (81, (.iload_n 1, 82, 0, 0)), (82, (.iload_n 2, 83, 0, 0)), (83, (.invokevirtual 118, 86, 0, 0)), (86, (.ifCond .eq 27, 89, 113, 0)), (89, (.aload_n 0, 90, 0, 0)), (90, (.aload_n 0, 91, 0, 0)), (91, (.getfield 75, 94, 0, 0)), (94, (.bipush 6, 96, 0, 6)), (96, (.if_icmp .ge 7, 99, 103, 0)), (99, (.iconst 2, 100, 0, 2)), (100, (.goto 7, 103, 107, 0)), (103, (.aload_n 0, 104, 0, 0)), (104, (.getfield 75, 107, 0, 0)), (107, (.putfield 47, 110, 0, 0)), (110, (.goto 17, 113, 127, 0)), (113, (.aload_n 0, 114, 0, 0)), (114, (.dup, 115, 0, 0)), (115, (.getfield 75, 118, 0, 0)), (118, (.iconst 1, 119, 0, 1)), (119, (.iadd, 120, 0, 0)), (120, (.putfield 75, 123, 0, 0)), (123, (.iload_n 2, 124, 0, 0)), (124, (.iconst 1, 125, 0, 1)), (125, (.iadd, 126, 0, 0)), (126, (.istore_n 1, 127, 0, 0)), (127, (.iinc 2 1, 130, 0, 1)), (130, (.goto (-78), 133, 52, 0)), (133, (.return_, 134, 0, 0))]
def vtb34 : List (Nat × vI) := [(0, (.iload_n 2, 1, 0, 0)), (1, (.iload_n 1, 2, 0, 0)), (2, (.isub, 3, 0, 0)), (3, (.aload_n 0, 4, 0, 0)), (4, (.getfield 31, 7, 0, 0)), (7, (.aload_n 0, 8, 0, 0)), (8, (.getfield 84, 11, 0, 0)), (11, (.isub, 12, 0, 0)), (12, (.if_icmp .eq 5, 15, 17, 0)), (15, (.iconst 0, 16, 0, 0)), (16, (.ireturn, 17, 0, 0)), (17, (.iload_n 1, 18, 0, 0)), (18, (.istore_n 3, 19, 0, 0)), (19, (.iload_n 3, 20, 0, 0)), (20, (.iload_n 2, 21, 0, 0)), (21, (.if_icmp .ge 41, 24, 62, 0)), (24, (.iload_n 3, 25, 0, 0)), (25, (.ldc 106, 27, 0, 0)), (27, (.invokevirtual 108, 30, 0, 0)), (30, (.if_icmp .ge 32, 33, 62, 0)), (33, (.ldc 106, 35, 0, 0)), (35, (.iload_n 3, 36, 0, 0)), (36, (.invokevirtual 114, 39, 0, 0)), (39, (.aload_n 0, 40, 0, 0)), (40, (.aload_n 0, 41, 0, 0)), (41, (.getfield 84, 44, 0, 0)), (44, (.iload_n 3, 45, 0, 0)), (45, (.iadd, 46, 0, 0)), (46, (.iload_n 1, 47, 0, 0)), (47, (.isub, 48, 0, 0)), (48, (.invokevirtual 87, 51, 0, 0)), (51, (.if_icmp .eq 5, 54, 56, 0)), (54, (.iconst 0, 55, 0, 0)), (55, (.ireturn, 56, 0, 0)), (56, (.iinc 3 1, 59, 0, 1)), (59, (.goto (-40), 62, 19, 0)), (62, (.iconst 1, 63, 0, 1)), (63, (.ireturn, 64, 0, 0))]
def vtb35 : List (Nat × vI) := [(0, (.iload_n 1, 1, 0, 0)), (1, (.ifCond .lt 29, 4, 30, 0)), (4, (.iload_n 1, 5, 0, 0)), (5, (.aload_n 0, 6, 0, 0)), (6, (.getfield 19, 9, 0, 0)), (9, (.if_icmp .ge 21, 12, 30, 0)), (12, (.iload_n 1, 13, 0, 0)), (13, (.aload_n 0, 14, 0, 0)), (14, (.getfield 9, 17, 0, 0)), (17, (.arraylength, 18, 0, 0)), (18, (.if_icmp .ge 12, 21, 30, 0)), (21, (.aload_n 0, 22, 0, 0)), (22, (.getfield 9, 25, 0, 0)), (25, (.iload_n 1, 26, 0, 0)), (26, (.iaload, 27, 0, 0)), (27, (.goto 4, 30, 31, 0)), (30, (.iconst (-1), 31, 0, (-1))), (31, (.ireturn, 32, 0, 0))]
def vtb36 : List (Nat × vI) := [(0, (.iload_n 0, 1, 0, 0)), (1, (.bipush 97, 3, 0, 97)), (3, (.if_icmp .lt 13, 6, 16, 0)), (6, (.iload_n 0, 7, 0, 0)), (7, (.bipush 122, 9, 0, 122)), (9, (.if_icmp .gt 7, 12, 16, 0)), (12, (.iconst 1, 13, 0, 1)), (13, (.goto 4, 16, 17, 0)), (16, (.iconst 0, 17, 0, 0)), (17, (.ireturn, 18, 0, 0))]
def vtb37 : List (Nat × vI) := [(0, (.iload_n 0, 1, 0, 0)), (1, (.bipush 48, 3, 0, 48)), (3, (.if_icmp .lt 13, 6, 16, 0)), (6, (.iload_n 0, 7, 0, 0)), (7, (.bipush 57, 9, 0, 57)), (9, (.if_icmp .gt 7, 12, 16, 0)), (12, (.iconst 1, 13, 0, 1)), (13, (.goto 4, 16, 17, 0)), (16, (.iconst 0, 17, 0, 0)), (17, (.ireturn, 18, 0, 0))]
def vtb38 : List (Nat × vI) := [(0, (.iload_n 0, 1, 0, 0)), (1, (.bipush 40, 3, 0, 40)), (3, (.if_icmp .eq 45, 6, 48, 0)), (6, (.iload_n 0, 7, 0, 0)), (7, (.bipush 41, 9, 0, 41)), (9, (.if_icmp .eq 39, 12, 48, 0)), (12, (.iload_n 0, 13, 0, 0)), (13, (.bipush 59, 15, 0, 59)), (15, (.if_icmp .eq 33, 18, 48, 0)), (18, (.iload_n 0, 19, 0, 0)), (19, (.bipush 43, 21, 0, 43)), (21, (.if_icmp .eq 27, 24, 48, 0)), (24, (.iload_n 0, 25, 0, 0)), (25, (.bipush 45, 27, 0, 45)), (27, (.if_icmp .eq 21, 30, 48, 0)), (30, (.iload_n 0, 31, 0, 0)), (31, (.bipush 42, 33, 0, 42)), (33, (.if_icmp .eq 15, 36, 48, 0)), (36, (.iload_n 0, 37, 0, 0)), (37, (.bipush 60, 39, 0, 60)), (39, (.if_icmp .eq 9, 42, 48, 0)), (42, (.iload_n 0, 43, 0, 0)), (43, (.bipush 61, 45, 0, 61)), (45, (.if_icmp .ne 7, 48, 52, 0)), (48, (.iconst 1, 49, 0, 1)), (49, (.goto 4, 52, 53, 0)), (52, (.iconst 0, 53, 0, 0)), (53, (.ireturn, 54, 0, 0))]
def vtb39 : List (Nat × vI) := [(0, (.aload_n 0, 1, 0, 0)), (1, (.invokespecial 3, 4, 0, 0)), (4, (.aload_n 0, 5, 0, 0)), (5, (.iconst (-1), 6, 0, (-1))), (6, (.putfield 9, 9, 0, 0)), (9, (.aload_n 0, 10, 0, 0)), (10, (.bipush 40, 12, 0, 40)), (12, (.newarray .int, 14, 0, 0)), (14, (.putfield 15, 17, 0, 0)), (17, (.return_, 18, 0, 0))]
def vtb40 : List (Nat × vI) := [(0, (.aload_n 0, 1, 0, 0)), (1, (.iload_n 1, 2, 0, 0)), (2, (.putfield 9, 5, 0, 0)), (5, (.aload_n 0, 6, 0, 0)), (6, (.iload_n 2, 7, 0, 0)), (7, (.bipush 40, 9, 0, 40)), (9, (.invokestatic 19, 12, 0, 0)), (12, (.iconst 0, 13, 0, 0)), (13, (.invokestatic 25, 16, 0, 0)), (16, (.putfield 28, 19, 0, 0)), (19, (.iconst 0, 20, 0, 0)), (20, (.istore_n 3, 21, 0, 0)), (21, (.iload_n 3, 22, 0, 0)), (22, (.bipush 40, 24, 0, 40)), (24, (.if_icmp .ge 16, 27, 40, 0)), (27, (.aload_n 0, 28, 0, 0)), (28, (.getfield 15, 31, 0, 0)), (31, (.iload_n 3, 32, 0, 0)), (32, (.iconst 0, 33, 0, 0)), (33, (.iastore, 34, 0, 0)), (34, (.iinc 3 1, 37, 0, 1)), (37, (.goto (-16), 40, 21, 0)), (40, (.return_, 41, 0, 0))]
def vtb41 : List (Nat × vI) := [(0, (.iload_n 1, 1, 0, 0)), (1, (.ifCond .lt 29, 4, 30, 0)), (4, (.iload_n 2, 5, 0, 0)), (5, (.ifCond .lt 25, 8, 30, 0)), (8, (.iload_n 1, 9, 0, 0)), (9, (.aload_n 0, 10, 0, 0)), (10, (.getfield 28, 13, 0, 0)), (13, (.if_icmp .gt 17, 16, 30, 0)), (16, (.iload_n 2, 17, 0, 0)), (17, (.aload_n 0, 18, 0, 0)), (18, (.getfield 28, 21, 0, 0)), (21, (.iload_n 1, 22, 0, 0)), (22, (.isub, 23, 0, 0)), (23, (.if_icmp .gt 7, 26, 30, 0)), (26, (.iconst 1, 27, 0, 1)), (27, (.goto 4, 30, 31, 0)), (30, (.iconst 0, 31, 0, 0)), (31, (.ireturn, 32, 0, 0))]
def vtb42 : List (Nat × vI) := [(0, (.iload_n 1, 1, 0, 0)), (1, (.ifCond .lt 29, 4, 30, 0)), (4, (.iload_n 1, 5, 0, 0)), (5, (.aload_n 0, 6, 0, 0)), (6, (.getfield 28, 9, 0, 0)), (9, (.if_icmp .ge 21, 12, 30, 0)), (12, (.iload_n 1, 13, 0, 0)), (13, (.aload_n 0, 14, 0, 0)), (14, (.getfield 15, 17, 0, 0)), (17, (.arraylength, 18, 0, 0)), (18, (.if_icmp .ge 12, 21, 30, 0)), (21, (.aload_n 0, 22, 0, 0)), (22, (.getfield 15, 25, 0, 0)), (25, (.iload_n 1, 26, 0, 0)), (26, (.iaload, 27, 0, 0)), (27, (.goto 4, 30, 31, 0)), (30, (.iconst 0, 31, 0, 0)), (31, (.ireturn, 32, 0, 0))]
def vtb43 : List (Nat × vI) := [(0, (.iload_n 1, 1, 0, 0)), (1, (.ifCond .lt 20, 4, 21, 0)), (4, (.iload_n 1, 5, 0, 0)), (5, (.aload_n 0, 6, 0, 0)), (6, (.getfield 28, 9, 0, 0)), (9, (.if_icmp .ge 12, 12, 21, 0)), (12, (.iload_n 1, 13, 0, 0)), (13, (.aload_n 0, 14, 0, 0)), (14, (.getfield 15, 17, 0, 0)), (17, (.arraylength, 18, 0, 0)), (18, (.if_icmp .lt 4, 21, 22, 0)), (21, (.return_, 22, 0, 0)), (22, (.aload_n 0, 23, 0, 0)), (23, (.getfield 15, 26, 0, 0)), (26, (.iload_n 1, 27, 0, 0)), (27, (.aload_n 0, 28, 0, 0)), (28, (.getfield 9, 31, 0, 0)), (31, (.ifCond .ne 8, 34, 39, 0)), (34, (.iload_n 2, 35, 0, 0)), (35, (.i2b, 36, 0, 0)), (36, (.goto 17, 39, 53, 0)), (39, (.aload_n 0, 40, 0, 0)), (40, (.getfield 9, 43, 0, 0)), (43, (.iconst 1, 44, 0, 1)), (44, (.if_icmp .ne 8, 47, 52, 0)), (47, (.iload_n 2, 48, 0, 0)), (48, (.i2s, 49, 0, 0)), (49, (.goto 4, 52, 53, 0)), (52, (.iload_n 2, 53, 0, 0)), (53, (.iastore, 54, 0, 0)), (54, (.return_, 55, 0, 0))]
def vtb44 : List (Nat × vI) := [(0, (.aload_n 0, 1, 0, 0)), (1, (.invokespecial 3, 4, 0, 0)), (4, (.aload_n 0, 5, 0, 0)), (5, (.sipush 160, 8, 0, 160)), (8, (.newarray .int, 10, 0, 0)), (10, (.putfield 9, 13, 0, 0)), (13, (.aload_n 0, 14, 0, 0)), (14, (.iconst 3, 15, 0, 3)), (15, (.newarray .int, 17, 0, 0)), (17, (.putfield 15, 20, 0, 0)), (20, (.return_, 21, 0, 0))]
def vtb45 : List (Nat × vI) := [(0, (.aload_n 0, 1, 0, 0)), (1, (.iconst 0, 2, 0, 0)), (2, (.putfield 18, 5, 0, 0)), (5, (.aload_n 0, 6, 0, 0)), (6, (.iconst 0, 7, 0, 0)), (7, (.putfield 22, 10, 0, 0)), (10, (.return_, 11, 0, 0))]
def vtb46 : List (Nat × vI) := [(0, (.aload_n 0, 1, 0, 0)), (1, (.getfield 18, 4, 0, 0)), (4, (.ifCond .lt 35, 7, 39, 0)), (7, (.aload_n 0, 8, 0, 0)), (8, (.getfield 18, 11, 0, 0)), (11, (.aload_n 0, 12, 0, 0)), (12, (.getfield 9, 15, 0, 0)), (15, (.arraylength, 16, 0, 0)), (16, (.if_icmp .ge 23, 19, 39, 0)), (19, (.aload_n 0, 20, 0, 0)), (20, (.getfield 9, 23, 0, 0)), (23, (.aload_n 0, 24, 0, 0)), (24, (.getfield 18, 27, 0, 0)), (27, (.iload_n 1, 28, 0, 0)), (28, (.iastore, 29, 0, 0)), (29, (.aload_n 0, 30, 0, 0)), (30, (.dup, 31, 0, 0)), (31, (.getfield 18, 34, 0, 0)), (34, (.iconst 1, 35, 0, 1)), (35, (.iadd, 36, 0, 0)), (36, (.putfield 18, 39, 0, 0)), (39, (.return_, 40, 0, 0))]
def vtb47 : List (Nat × vI) := [(0, (.aload_n 0, 1, 0, 0)), (1, (.dup, 2, 0, 0)), (2, (.getfield 22, 5, 0, 0)), (5, (.iload_n 1, 6, 0, 0)), (6, (.iconst 3, 7, 0, 3)), (7, (.if_icmp .ne 7, 10, 14, 0)), (10, (.iconst 1, 11, 0, 1)), (11, (.goto 4, 14, 15, 0)), (14, (.iconst 0, 15, 0, 0)), (15, (.ior, 16, 0, 0)), (16, (.putfield 22, 19, 0, 0)), (19, (.aload_n 0, 20, 0, 0)), (20, (.iconst (-1), 21, 0, (-1))), (21, (.iload_n 1, 22, 0, 0)), (22, (.isub, 23, 0, 0)), (23, (.invokevirtual 26, 26, 0, 0)), (26, (.return_, 27, 0, 0))]
def vtb48 : List (Nat × vI) := [(0, (.aload_n 0, 1, 0, 0)), (1, (.iload_n 1, 2, 0, 0)), (2, (.ineg, 3, 0, 0)), (3, (.invokevirtual 26, 6, 0, 0)), (6, (.return_, 7, 0, 0))]
def vtb49 : List (Nat × vI) := [(0, (.iload_n 1, 1, 0, 0)), (1, (.ifCond .lt 22, 4, 23, 0)), (4, (.iload_n 1, 5, 0, 0)), (5, (.aload_n 0, 6, 0, 0)), (6, (.getfield 15, 9, 0, 0)), (9, (.arraylength, 10, 0, 0)), (10, (.if_icmp .ge 13, 13, 23, 0)), (13, (.aload_n 0, 14, 0, 0)), (14, (.getfield 15, 17, 0, 0)), (17, (.iload_n 1, 18, 0, 0)), (18, (.aload_n 0, 19, 0, 0)), (19, (.getfield 18, 22, 0, 0)), (22, (.iastore, 23, 0, 0)), (23, (.return_, 24, 0, 0))]
def vtb50 : List (Nat × vI) := [(0, (.iload_n 1, 1, 0, 0)), (1, (.ifCond .lt 12, 4, 13, 0)), (4, (.iload_n 1, 5, 0, 0)), (5, (.aload_n 0, 6, 0, 0)), (6, (.getfield 15, 9, 0, 0)), (9, (.arraylength, 10, 0, 0)), (10, (.if_icmp .lt 5, 13, 15, 0)), (13, (.iconst 0, 14, 0, 0)), (14, (.ireturn, 15, 0, 0)), (15, (.iconst 0, 16, 0, 0)), (16, (.istore 4, 18, 0, 0)), (18, (.iload_n 1, 19, 0, 0)), (19, (.ifCond .ne 7, 22, 26, 0)), (22, (.iconst 0, 23, 0, 0)), (23, (.goto 11, 26, 34, 0)), (26, (.aload_n 0, 27, 0, 0)), (27, (.getfield 15, 30, 0, 0)), (30, (.iload_n 1, 31, 0, 0)), (31, (.iconst 1, 32, 0, 1)), (32, (.isub, 33, 0, 0)), (33, (.iaload, 34, 0, 0)), (34, (.istore 5, 36, 0, 0)), (36, (.iload 5, 38, 0, 0)), (38, (.aload_n 0, 39, 0, 0)), (39, (.getfield 15, 42, 0, 0)), (42, (.iload_n 1, 43, 0, 0)), (43, (.iaload, 44, 0, 0)), (44, (.if_icmp .ge 166, 47, 210, 0)), (47, (.iload 5, 49, 0, 0)), (49, (.aload_n 0, 50, 0, 0)), (50, (.getfield 9, 53, 0, 0)), (53, (.arraylength, 54, 0, 0)), (54, (.if_icmp .ge 156, 57, 210, 0)), (57, (.aload_n 0, 58, 0, 0)), (58, (.getfield 9, 61, 0, 0)), (61, (.iload 5, 63, 0, 0)), (63, (.iaload, 64, 0, 0)), (64, (.istore 6, 66, 0, 0)), (66, (.iload 6, 68, 0, 0)), (68, (.aload_n 2, 69, 0, 0)), (69, (.arraylength, 70, 0, 0)), (70, (.ineg, 71, 0, 0)), (71, (.if_icmp .lt 38, 74, 109, 0)), (74, (.iload 4, 76, 0, 0)), (76, (.aload_n 3, 77, 0, 0)), (77, (.arraylength, 78, 0, 0)), (78, (.if_icmp .lt 5, 81, 83, 0)), (81, (.iconst 0, 82, 0, 0)), (82, (.ireturn, 83, 0, 0)), (83, (.aload_n 3, 84, 0, 0)), (84, (.iload 4, 86, 0, 0)), (86, (.iload 6, 88, 0, 0)), (88, (.ifCond .lt 8, 91, 96, 0)), (91, (.iload 6, 93, 0, 0)), (93, (.goto 9, 96, 102, 0)), (96, (.aload_n 2, 97, 0, 0)), (97, (.iconst (-1), 98, 0, (-1))), (98, (.iload 6, 100, 0, 0)), (100, (.isub, 101, 0, 0)), (101, (.iaload, 102, 0, 0)), (102, (.iastore, 103, 0, 0)), (103, (.iinc 4 1, 106, 0, 1)), (106, (.goto 98, 109, 204, 0)), (109, (.iload 6, 111, 0, 0)), (111, (.bipush (-11), 113, 0, (-11))), (113, (.if_icmp .eq 10, 116, 123, 0)), (116, (.iload 6, 118, 0, 0)), (118, (.bipush (-12), 120, 0, (-12))), (120, (.if_icmp .ne 51, 123, 171, 0)), (123, (.iload 4, 125, 0, 0)), (125, (.iconst 1, 126, 0, 1)), (126, (.if_icmp .ge 5, 129, 131, 0)), (129, (.iconst 0, 130, 0, 0)), (130, (.ireturn, 131, 0, 0)), (131, (.aload_n 3, 132, 0, 0)), (132, (.iload 4, 134, 0, 0)), (134, (.iconst 1, 135, 0, 1)), (135, (.isub, 136, 0, 0)), (136, (.iload 6, 138, 0, 0)), (138, (.bipush (-12), 140, 0, (-12))), (140, (.if_icmp .ne 13, 143, 153, 0)), (143, (.aload_n 3, 144, 0, 0)), (144, (.iload 4, 146, 0, 0)), (146, (.iconst 1, 147, 0, 1)), (147, (.isub, 148, 0, 0)), (148, (.iaload, 149, 0, 0)), (149, (.ineg, 150, 0, 0)), (150, (.goto 17, 153, 167, 0)), (153, (.aload_n 3, 154, 0, 0)), (154, (.iload 4, 156, 0, 0)), (156, (.iconst 1, 157, 0, 1)), (157, (.isub, 158, 0, 0)), (158, (.iaload, 159, 0, 0)), (159, (.ifCond .ne 7, 162, 166, 0)), (162, (.iconst 1, 163, 0, 1)), (163, (.goto 4, 166, 167, 0)), (166, (.iconst 0, 167, 0, 0)), (167, (.iastore, 168, 0, 0)), (168, (.goto 36, 171, 204, 0)), (171, (.iload 4, 173, 0, 0)), (173, (.iconst 2, 174, 0, 2)), (174, (.if_icmp .ge 5, 177, 179, 0)), (177, (.iconst 0, 178, 0, 0)), (178, (.ireturn, 179, 0, 0)), (179, (.iinc 4 (-1), 182, 0, (-1))), (182, (.aload_n 3, 183, 0, 0)), (183, (.iload 4, 185, 0, 0)), (185, (.iconst 1, 186, 0, 1)), (186, (.isub, 187, 0, 0)), (187, (.iload 6, 189, 0, 0)), (189, (.ineg, 190, 0, 0)), (190, (.aload_n 3, 191, 0, 0)), (191, (.iload 4, 193, 0, 0)), (193, (.iconst 1, 194, 0, 1)), (194, (.isub, 195, 0, 0)), (195, (.iaload, 196, 0, 0)), (196, (.aload_n 3, 197, 0, 0)), (197, (.iload 4, 199, 0, 0)), (199, (.iaload, 200, 0, 0)), (200, (.invokestatic 30, 203, 0, 0)), (203, (.iastore, 204, 0, 0)), (204, (.iinc 5 1, 207, 0, 1)), (207, (.goto (-171), 210, 36, 0)), (210, (.iload 4, 212, 0, 0)), (212, (.ifCond .le 12, 215, 224, 0)), (215, (.aload_n 3, 216, 0, 0)), (216, (.iload 4, 218, 0, 0)), (218, (.iconst 1, 219, 0, 1)), (219, (.isub, 220, 0, 0)), (220, (.iaload, 221, 0, 0)), (221, (.goto 4, 224, 225, 0)), (224, (.iconst 0, 225, 0, 0)), (225, (.ireturn, 226, 0, 0))]
def vtb51 : List (Nat × vI) := [(0, (.iload_n 0, 1, 0, 0)), (1, (.lookupswitch 117 #[(9, 59), (10, 73), (43, 109), (45, 113), (60, 87), (61, 98)], 60, 0, 0)), (60, (.iload_n 1, 61, 0, 0)), (61, (.ifCond .ne 7, 64, 68, 0)), (64, (.iload_n 2, 65, 0, 0)), (65, (.ifCond .eq 7, 68, 72, 0)), (68, (.iconst 1, 69, 0, 1)), (69, (.goto 4, 72, 73, 0)), (72, (.iconst 0, 73, 0, 0)), (73, (.ireturn, 74, 0, 0)), (74, (.iload_n 1, 75, 0, 0)), (75, (.ifCond .eq 11, 78, 86, 0)), (78, (.iload_n 2, 79, 0, 0)), (79, (.ifCond .eq 7, 82, 86, 0)), (82, (.iconst 1, 83, 0, 1)), (83, (.goto 4, 86, 87, 0)), (86, (.iconst 0, 87, 0, 0)), (87, (.ireturn, 88, 0, 0)), (88, (.iload_n 1, 89, 0, 0)), (89, (.iload_n 2, 90, 0, 0)), (90, (.if_icmp .ge 7, 93, 97, 0)), (93, (.iconst 1, 94, 0, 1)), (94, (.goto 4, 97, 98, 0)), (97, (.iconst 0, 98, 0, 0)), (98, (.ireturn, 99, 0, 0)), (99, (.iload_n 1, 100, 0, 0)), (100, (.iload_n 2, 101, 0, 0)), (101, (.if_icmp .ne 7, 104, 108, 0)), (104, (.iconst 1, 105, 0, 1)), (105, (.goto 4, 108, 109, 0)), (108, (.iconst 0, 109, 0, 0)), (109, (.ireturn, 110, 0, 0)), (110, (.iload_n 1, 111, 0, 0)), (111, (.iload_n 2, 112, 0, 0)), (112, (.iadd, 113, 0, 0)), (113, (.ireturn, 114, 0, 0)), (114, (.iload_n 1, 115, 0, 0)), (115, (.iload_n 2, 116, 0, 0)), (116, (.isub, 117, 0, 0)), (117, (.ireturn, 118, 0, 0)), (118, (.iload_n 1, 119, 0, 0)), (119, (.iload_n 2, 120, 0, 0)), (120, (.imul, 121, 0, 0)), (121, (.ireturn, 122, 0, 0))]
def vtb52 : List (Nat × vI) := [(0, (.aload_n 0, 1, 0, 0)), (1, (.invokespecial 3, 4, 0, 0)), (4, (.aload_n 0, 5, 0, 0)), (5, (.bipush 6, 7, 0, 6)), (7, (.newarray .int, 9, 0, 0)), (9, (.putfield 9, 12, 0, 0)), (12, (.aload_n 0, 13, 0, 0)), (13, (.bipush 6, 15, 0, 6)), (15, (.newarray .int, 17, 0, 0)), (17, (.putfield 15, 20, 0, 0)), (20, (.aload_n 0, 21, 0, 0)), (21, (.bipush 6, 23, 0, 6)), (23, (.newarray .int, 25, 0, 0)), (25, (.putfield 18, 28, 0, 0)), (28, (.aload_n 0, 29, 0, 0)), (29, (.bipush 30, 31, 0, 30)), (31, (.newarray .int, 33, 0, 0)), (33, (.putfield 21, 36, 0, 0)), (36, (.aload_n 0, 37, 0, 0)), (37, (.iconst 5, 38, 0, 5)), (38, (.newarray .int, 40, 0, 0)), (40, (.putfield 24, 43, 0, 0)), (43, (.aload_n 0, 44, 0, 0)), (44, (.iconst 5, 45, 0, 5)), (45, (.newarray .int, 47, 0, 0)), (47, (.putfield 27, 50, 0, 0)), (50, (.aload_n 0, 51, 0, 0)), (51, (.iconst 4, 52, 0, 4)), (52, (.newarray .int, 54, 0, 0)), (54, (.putfield 30, 57, 0, 0)), (57, (.aload_n 0, 58, 0, 0)), (58, (.iconst 4, 59, 0, 4)), (59, (.newarray .int, 61, 0, 0)), (61, (.putfield 33, 64, 0, 0)), (64, (.return_, 65, 0, 0))]
def vtb53 : List (Nat × vI) := [(0, (.aload_n 0, 1, 0, 0)), (1, (.aload_n 1, 2, 0, 0)), (2, (.getfield 36, 5, 0, 0)), (5, (.putfield 36, 8, 0, 0)), (8, (.aload_n 0, 9, 0, 0)), (9, (.aload_n 1, 10, 0, 0)), (10, (.getfield 40, 13, 0, 0)), (13, (.putfield 40, 16, 0, 0)), (16, (.aload_n 0, 17, 0, 0)), (17, (.aload_n 1, 18, 0, 0)), (18, (.getfield 43, 21, 0, 0)), (21, (.putfield 43, 24, 0, 0)), (24, (.aload_n 1, 25, 0, 0)), (25, (.getfield 9, 28, 0, 0)), (28, (.iconst 0, 29, 0, 0)), (29, (.aload_n 0, 30, 0, 0)), (30, (.getfield 9, 33, 0, 0)), (33, (.iconst 0, 34, 0, 0)), (34, (.bipush 6, 36, 0, 6)), (36, (.invokestatic 46, 39, 0, 0)), (39, (.aload_n 1, 40, 0, 0)), (40, (.getfield 15, 43, 0, 0)), (43, (.iconst 0, 44, 0, 0)), (44, (.aload_n 0, 45, 0, 0)), (45, (.getfield 15, 48, 0, 0)), (48, (.iconst 0, 49, 0, 0)), (49, (.bipush 6, 51, 0, 6)), (51, (.invokestatic 46, 54, 0, 0)), (54, (.aload_n 1, 55, 0, 0)), (55, (.getfield 18, 58, 0, 0)), (58, (.iconst 0, 59, 0, 0)), (59, (.aload_n 0, 60, 0, 0)), (60, (.getfield 18, 63, 0, 0)), (63, (.iconst 0, 64, 0, 0)), (64, (.bipush 6, 66, 0, 6)), (66, (.invokestatic 46, 69, 0, 0)), (69, (.aload_n 1, 70, 0, 0)), (70, (.getfield 21, 73, 0, 0)), (73, (.iconst 0, 74, 0, 0)), (74, (.aload_n 0, 75, 0, 0)), (75, (.getfield 21, 78, 0, 0)), (78, (.iconst 0, 79, 0, 0)), (79, (.bipush 30, 81, 0, 30)), (81, (.invokestatic 46, 84, 0, 0)), (84, (.aload_n 1, 85, 0, 0)), (85, (.getfield 24, 88, 0, 0)), (88, (.iconst 0, 89, 0, 0)), (89, (.aload_n 0, 90, 0, 0)), (90, (.getfield 24, 93, 0, 0)), (93, (.iconst 0, 94, 0, 0)), (94, (.iconst 5, 95, 0, 5)), (95, (.invokestatic 46, 98, 0, 0)), (98, (.aload_n 1, 99, 0, 0)), (99, (.getfield 27, 102, 0, 0)), (102, (.iconst 0, 103, 0, 0)), (103, (.aload_n 0, 104, 0, 0)), (104, (.getfield 27, 107, 0, 0)), (107, (.iconst 0, 108, 0, 0)), (108, (.iconst 5, 109, 0, 5)), (109, (.invokestatic 46, 112, 0, 0)), (112, (.aload_n 1, 113, 0, 0)), (113, (.getfield 30, 116, 0, 0)), (116, (.iconst 0, 117, 0, 0)), (117, (.aload_n 0, 118, 0, 0)), (118, (.getfield 30, 121, 0, 0)), (121, (.iconst 0, 122, 0, 0)), (122, (.iconst 4, 123, 0, 4)), (123, (.invokestatic 46, 126, 0, 0)), (126, (.aload_n 1, 127, 0, 0)), (127, (.getfield 33, 130, 0, 0)), (130, (.iconst 0, 131, 0, 0)), (131, (.aload_n 0, 132, 0, 0)), (132, (.getfield 33, 135, 0, 0)), (135, (.iconst 0, 136, 0, 0)), (136, (.iconst 4, 137, 0, 4)), (137, (.invokestatic 46, 140, 0, 0)), (140, (.return_, 141, 0, 0))]
def vtb54 : List (Nat × vI) := [(0, (.aload_n 0, 1, 0, 0)), (1, (.getfield 43, 4, 0, 0)), (4, (.istore 4, 6, 0, 0)), (6, (.iload 4, 8, 0, 0)), (8, (.ifCond .lt 10, 11, 18, 0)), (11, (.iload 4, 13, 0, 0)), (13, (.bipush 6, 15, 0, 6)), (15, (.if_icmp .lt 6, 18, 21, 0)), (18, (.bipush (-4), 20, 0, (-4))), (20, (.ireturn, 21, 0, 0)), (21, (.aload_n 0, 22, 0, 0)), (22, (.getfield 9, 25, 0, 0)), (25, (.iload 4, 27, 0, 0)), (27, (.iload_n 1, 28, 0, 0)), (28, (.iastore, 29, 0, 0)), (29, (.aload_n 0, 30, 0, 0)), (30, (.getfield 15, 33, 0, 0)), (33, (.iload 4, 35, 0, 0)), (35, (.iload_n 2, 36, 0, 0)), (36, (.iastore, 37, 0, 0)), (37, (.aload_n 0, 38, 0, 0)), (38, (.getfield 18, 41, 0, 0)), (41, (.iload 4, 43, 0, 0)), (43, (.iload_n 3, 44, 0, 0)), (44, (.iastore, 45, 0, 0)), (45, (.iconst 0, 46, 0, 0)), (46, (.istore 5, 48, 0, 0)), (48, (.iload 5, 50, 0, 0)), (50, (.iconst 5, 51, 0, 5)), (51, (.if_icmp .ge 23, 54, 74, 0)), (54, (.aload_n 0, 55, 0, 0)), (55, (.getfield 21, 58, 0, 0)), (58, (.iload 5, 60, 0, 0)), (60, (.bipush 6, 62, 0, 6)), (62, (.imul, 63, 0, 0)), (63, (.iload 4, 65, 0, 0)), (65, (.iadd, 66, 0, 0)), (66, (.iconst 0, 67, 0, 0)), (67, (.iastore, 68, 0, 0)), (68, (.iinc 5 1, 71, 0, 1)), (71, (.goto (-23), 74, 48, 0)), (74, (.aload_n 0, 75, 0, 0)), (75, (.iload 4, 77, 0, 0)), (77, (.iconst 1, 78, 0, 1)), (78, (.iadd, 79, 0, 0)), (79, (.putfield 43, 82, 0, 0)), (82, (.iload 4, 84, 0, 0)), (84, (.ireturn, 85, 0, 0))]
def vtb55 : List (Nat × vI) := [(0, (.iconst 0, 1, 0, 0)), (1, (.istore_n 1, 2, 0, 0)), (2, (.iconst 0, 3, 0, 0)), (3, (.istore_n 2, 4, 0, 0)), (4, (.iload_n 2, 5, 0, 0)), (5, (.iconst 4, 6, 0, 4)), (6, (.if_icmp .ge 18, 9, 24, 0)), (9, (.iload_n 1, 10, 0, 0)), (10, (.aload_n 0, 11, 0, 0)), (11, (.getfield 33, 14, 0, 0)), (14, (.iload_n 2, 15, 0, 0)), (15, (.iaload, 16, 0, 0)), (16, (.iadd, 17, 0, 0)), (17, (.istore_n 1, 18, 0, 0)), (18, (.iinc 2 1, 21, 0, 1)), (21, (.goto (-17), 24, 4, 0)), (24, (.iload_n 1, 25, 0, 0)), (25, (.ireturn, 26, 0, 0))]
def vtb56 : List (Nat × vI) := [(0, (.iconst 0, 1, 0, 0)), (1, (.istore_n 1, 2, 0, 0)), (2, (.iconst 0, 3, 0, 0)), (3, (.istore_n 2, 4, 0, 0)), (4, (.iload_n 2, 5, 0, 0)), (5, (.iconst 4, 6, 0, 4)), (6, (.if_icmp .ge 25, 9, 31, 0)), (9, (.iload_n 1, 10, 0, 0)), (10, (.aload_n 0, 11, 0, 0)), (11, (.getfield 30, 14, 0, 0)), (14, (.iload_n 2, 15, 0, 0)), (15, (.iaload, 16, 0, 0)), (16, (.aload_n 0, 17, 0, 0)), (17, (.getfield 33, 20, 0, 0)), (20, (.iload_n 2, 21, 0, 0)), (21, (.iaload, 22, 0, 0)), (22, (.imul, 23, 0, 0)), (23, (.iadd, 24, 0, 0)), (24, (.istore_n 1, 25, 0, 0)), (25, (.iinc 2 1, 28, 0, 1)), (28, (.goto (-24), 31, 4, 0)), (31, (.iload_n 1, 32, 0, 0)), (32, (.ireturn, 33, 0, 0))]
def vtb57 : List (Nat × vI) := [(0, (.aload_n 0, 1, 0, 0)), (1, (.invokespecial 1, 4, 0, 0)), (4, (.aload_n 0, 5, 0, 0)), (5, (.new 7, 8, 0, 0)), (8, (.dup, 9, 0, 0)), (9, (.invokespecial 9, 12, 0, 0)), (12, (.putfield 10, 15, 0, 0)), (15, (.aload_n 0, 16, 0, 0)), (16, (.new 7, 19, 0, 0)), (19, (.dup, 20, 0, 0)), (20, (.invokespecial 9, 23, 0, 0)), (23, (.putfield 16, 26, 0, 0)), (26, (.aload_n 0, 27, 0, 0)), (27, (.bipush 6, 29, 0, 6)), (29, (.anewarray 19, 32, 0, 0)), (32, (.putfield 21, 35, 0, 0)), (35, (.aload_n 0, 36, 0, 0)), (36, (.new 25, 39, 0, 0)), (39, (.dup, 40, 0, 0)), (40, (.invokespecial 27, 43, 0, 0)), (43, (.putfield 28, 46, 0, 0)), (46, (.aload_n 0, 47, 0, 0)), (47, (.iconst 4, 48, 0, 4)), (48, (.anewarray 32, 51, 0, 0)), (51, (.putfield 34, 54, 0, 0)), (54, (.iconst 0, 55, 0, 0)), (55, (.istore_n 1, 56, 0, 0)), (56, (.iload_n 1, 57, 0, 0)), (57, (.aload_n 0, 58, 0, 0)), (58, (.getfield 21, 61, 0, 0)), (61, (.arraylength, 62, 0, 0)), (62, (.if_icmp .ge 22, 65, 84, 0)), (65, (.aload_n 0, 66, 0, 0)), (66, (.getfield 21, 69, 0, 0)), (69, (.iload_n 1, 70, 0, 0)), (70, (.new 19, 73, 0, 0)), (73, (.dup, 74, 0, 0)), (74, (.invokespecial 38, 77, 0, 0)), (77, (.aastore, 78, 0, 0)), (78, (.iinc 1 1, 81, 0, 1)), (81, (.goto (-25), 84, 56, 0)), (84, (.iconst 0, 85, 0, 0)), (85, (.istore_n 1, 86, 0, 0)), (86, (.iload_n 1, 87, 0, 0)), (87, (.aload_n 0, 88, 0, 0)), (88, (.getfield 34, 91, 0, 0)), (91, (.arraylength, 92, 0, 0)), (92, (.if_icmp .ge 22, 95, 114, 0)), (95, (.aload_n 0, 96, 0, 0)), (96, (.getfield 34, 99, 0, 0)), (99, (.iload_n 1, 100, 0, 0)), (100, (.new 32, 103, 0, 0)), (103, (.dup, 104, 0, 0)), (104, (.invokespecial 39, 107, 0, 0)), (107, (.aastore, 108, 0, 0)), (108, (.iinc 1 1, 111, 0, 1)), (111, (.goto (-25), 114, 86, 0)), (114, (.aload_n 0, 115, 0, 0)), (115, (.getfield 10, 118, 0, 0)), (118, (.getfield 40, 121, 0, 0)), (121, (.iconst 0, 122, 0, 0)), (122, (.iconst 1, 123, 0, 1)), (123, (.iastore, 124, 0, 0)), (124, (.aload_n 0, 125, 0, 0)), (125, (.getfield 10, 128, 0, 0)), (128, (.getfield 40, 131, 0, 0)), (131, (.iconst 1, 132, 0, 1)), (132, (.iconst 5, 133, 0, 5)), (133, (.iastore, 134, 0, 0)), (134, (.aload_n 0, 135, 0, 0)), (135, (.getfield 10, 138, 0, 0)), (138, (.getfield 40, 141, 0, 0)), (141, (.iconst 2, 142, 0, 2)), (142, (.bipush 10, 144, 0, 10)), (144, (.iastore, 145, 0, 0)), (145, (.aload_n 0, 146, 0, 0)), (146, (.getfield 10, 149, 0, 0)), (149, (.getfield 40, 152, 0, 0)), (152, (.iconst 3, 153, 0, 3)), (153, (.bipush 50, 155, 0, 50)), (155, (.iastore, 156, 0, 0)), (156, (.aload_n 0, 157, 0, 0)), (157, (.new 44, 160, 0, 0)), (160, (.dup, 161, 0, 0)), (161, (.aload_n 0, 162, 0, 0)), (162, (.getfield 21, 165, 0, 0)), (165, (.iconst 0, 166, 0, 0)), (166, (.aaload, 167, 0, 0)), (167, (.invokespecial 46, 170, 0, 0)), (170, (.putfield 49, 173, 0, 0)), (173, (.aload_n 0, 174, 0, 0)), (174, (.new 53, 177, 0, 0)), (177, (.dup, 178, 0, 0)), (178, (.aload_n 0, 179, 0, 0)), (179, (.getfield 21, 182, 0, 0)), (182, (.iconst 0, 183, 0, 0)), (183, (.aaload, 184, 0, 0)), (184, (.invokespecial 55, 187, 0, 0)), (187, (.putfield 56, 190, 0, 0)), (190, (.iconst 0, 191, 0, 0)), (191, (.istore_n 1, 192, 0, 0)), (192, (.iload_n 1, 193, 0, 0)), (193, (.ldc 60, 195, 0, 0)), (195, (.invokevirtual 62, 198, 0, 0)), (198, (.if_icmp .ge 22, 201, 220, 0)), (201, (.aload_n 0, 202, 0, 0)), (202, (.getfield 49, 205, 0, 0)), (205, (.ldc 60, 207, 0, 0)), (207, (.iload_n 1, 208, 0, 0)), (208, (.invokevirtual 68, 211, 0, 0)), (211, (.invokevirtual 72, 214, 0, 0)), (214, (.iinc 1 1, 217, 0, 1)), (217, (.goto (-25), 220, 192, 0)), (220, (.aload_n 0, 221, 0, 0)), (221, (.getfield 49, 224, 0, 0)), (224, (.aload_n 0, 225, 0, 0)), (225, (.getfield 21, 228, 0, 0)), (228, (.iconst 0, 229, 0, 0)), (229, (.aaload, 230, 0, 0)), (230, (.invokevirtual 76, 233, 0, 0)), (233, (.pop, 234, 0, 0)), (234, (.aload_n 0, 235, 0, 0)), (235, (.getfield 49, 238, 0, 0)), (238, (.invokevirtual 80, 241, 0, 0)), (241, (.aload_n 0, 242, 0, 0)), (242, (.iconst 1, 243, 0, 1)), (243, (.putfield 83, 246, 0, 0)), (246, (.return_, 247, 0, 0))]
def vtb58 : List (Nat × vI) := [(0, (.iload_n 1, 1, 0, 0)), (1, (.ifCond .lt 19, 4, 20, 0)), (4, (.iload_n 1, 5, 0, 0)), (5, (.getstatic 87, 8, 0, 0)), (8, (.arraylength, 9, 0, 0)), (9, (.if_icmp .ge 11, 12, 20, 0)), (12, (.iload_n 1, 13, 0, 0)), (13, (.getstatic 90, 16, 0, 0)), (16, (.arraylength, 17, 0, 0)), (17, (.if_icmp .lt 6, 20, 23, 0)), (20, (.bipush (-2), 22, 0, (-2))), (22, (.ireturn, 23, 0, 0)), (23, (.iload_n 3, 24, 0, 0)), (24, (.getstatic 90, 27, 0, 0)), (27, (.iload_n 1, 28, 0, 0)), (28, (.iaload, 29, 0, 0)), (29, (.if_icmp .lt 12, 32, 41, 0)), (32, (.iload_n 3, 33, 0, 0)), (33, (.getstatic 87, 36, 0, 0)), (36, (.iload_n 1, 37, 0, 0)), (37, (.iaload, 38, 0, 0)), (38, (.if_icmp .le 6, 41, 44, 0)), (41, (.bipush (-2), 43, 0, (-2))), (43, (.ireturn, 44, 0, 0)), (44, (.iload_n 1, 45, 0, 0)), (45, (.ifCond .ne 23, 48, 68, 0)), (48, (.aload_n 0, 49, 0, 0)), (49, (.getfield 10, 52, 0, 0)), (52, (.getfield 93, 55, 0, 0)), (55, (.istore 4, 57, 0, 0)), (57, (.aload_n 0, 58, 0, 0)), (58, (.getfield 10, 61, 0, 0)), (61, (.iload_n 3, 62, 0, 0)), (62, (.putfield 93, 65, 0, 0)), (65, (.iload 4, 67, 0, 0)), (67, (.ireturn, 68, 0, 0)), (68, (.aload_n 0, 69, 0, 0)), (69, (.iload_n 1, 70, 0, 0)), (70, (.invokevirtual 96, 73, 0, 0)), (73, (.astore 4, 75, 0, 0)), (75, (.aload 4, 77, 0, 0)), (77, (.ifnull 23, 80, 100, 0)), (80, (.iload_n 2, 81, 0, 0)), (81, (.ifCond .lt 19, 84, 100, 0)), (84, (.iload_n 2, 85, 0, 0)), (85, (.aload_n 0, 86, 0, 0)), (86, (.iload_n 1, 87, 0, 0)), (87, (.invokevirtual 100, 90, 0, 0)), (90, (.if_icmp .ge 10, 93, 100, 0)), (93, (.iload_n 2, 94, 0, 0)), (94, (.aload 4, 96, 0, 0)), (96, (.arraylength, 97, 0, 0)), (97, (.if_icmp .lt 6, 100, 103, 0)), (100, (.bipush (-2), 102, 0, (-2))), (102, (.ireturn, 103, 0, 0)), (103, (.aload 4, 105, 0, 0)), (105, (.iload_n 2, 106, 0, 0)), (106, (.iaload, 107, 0, 0)), (107, (.istore 5, 109, 0, 0)), (109, (.aload 4, 111, 0, 0)), (111, (.iload_n 2, 112, 0, 0)), (112, (.iload_n 3, 113, 0, 0)), (113, (.iastore, 114, 0, 0)), (114, (.iload 5, 116, 0, 0)), (116, (.ireturn, 117, 0, 0))]
def vtb59 : List (Nat × vI) := [(0, (.iload_n 1, 1, 0, 0)), (1, (.iconst 0, 2, 0, 0)), (2, (.iconst 5, 3, 0, 5)), (3, (.invokestatic 104, 6, 0, 0)), (6, (.ifCond .eq 24, 9, 30, 0)), (9, (.iload_n 2, 10, 0, 0)), (10, (.iconst 0, 11, 0, 0)), (11, (.bipush 9, 13, 0, 9)), (13, (.invokestatic 104, 16, 0, 0)), (16, (.ifCond .eq 14, 19, 30, 0)), (19, (.iload_n 3, 20, 0, 0)), (20, (.iconst 1, 21, 0, 1)), (21, (.sipush 999, 24, 0, 999)), (24, (.invokestatic 104, 27, 0, 0)), (27, (.ifCond .ne 6, 30, 33, 0)), (30, (.bipush (-2), 32, 0, (-2))), (32, (.ireturn, 33, 0, 0)), (33, (.aload_n 0, 34, 0, 0)), (34, (.getfield 10, 37, 0, 0)), (37, (.iload_n 1, 38, 0, 0)), (38, (.iload_n 2, 39, 0, 0)), (39, (.iload_n 3, 40, 0, 0)), (40, (.invokevirtual 108, 43, 0, 0)), (43, (.ireturn, 44, 0, 0))]
def vtb60 : List (Nat × vI) := [(0, (.iload_n 1, 1, 0, 0)), (1, (.invokestatic 112, 4, 0, 0)), (4, (.ifCond .eq 22, 7, 26, 0)), (7, (.aload_n 0, 8, 0, 0)), (8, (.iload_n 2, 9, 0, 0)), (9, (.invokevirtual 116, 12, 0, 0)), (12, (.ifCond .eq 14, 15, 26, 0)), (15, (.iload_n 3, 16, 0, 0)), (16, (.iconst 0, 17, 0, 0)), (17, (.sipush 4095, 20, 0, 4095)), (20, (.invokestatic 104, 23, 0, 0)), (23, (.ifCond .ne 6, 26, 29, 0)), (26, (.bipush (-2), 28, 0, (-2))), (28, (.ireturn, 29, 0, 0)), (29, (.iload_n 1, 30, 0, 0)), (30, (.bipush 6, 32, 0, 6)), (32, (.imul, 33, 0, 0)), (33, (.iload_n 2, 34, 0, 0)), (34, (.iadd, 35, 0, 0)), (35, (.istore 4, 37, 0, 0)), (37, (.aload_n 0, 38, 0, 0)), (38, (.getfield 10, 41, 0, 0)), (41, (.getfield 119, 44, 0, 0)), (44, (.iload 4, 46, 0, 0)), (46, (.iaload, 47, 0, 0)), (47, (.istore 5, 49, 0, 0)), (49, (.aload_n 0, 50, 0, 0)), (50, (.getfield 10, 53, 0, 0)), (53, (.getfield 119, 56, 0, 0)), (56, (.iload 4, 58, 0, 0)), (58, (.iload_n 3, 59, 0, 0)), (59, (.iastore, 60, 0, 0)), (60, (.iload 5, 62, 0, 0)), (62, (.ireturn, 63, 0, 0))]
def vtb61 : List (Nat × vI) := [(0, (.iload_n 2, 1, 0, 0)), (1, (.ifCond .ne 11, 4, 12, 0)), (4, (.aload_n 0, 5, 0, 0)), (5, (.getfield 10, 8, 0, 0)), (8, (.getfield 93, 11, 0, 0)), (11, (.ireturn, 12, 0, 0)), (12, (.iload_n 2, 13, 0, 0)), (13, (.bipush 7, 15, 0, 7)), (15, (.if_icmp .lt 10, 18, 25, 0)), (18, (.aload_n 0, 19, 0, 0)), (19, (.iload_n 1, 20, 0, 0)), (20, (.iload_n 2, 21, 0, 0)), (21, (.invokevirtual 122, 24, 0, 0)), (24, (.ireturn, 25, 0, 0)), (25, (.aload_n 0, 26, 0, 0)), (26, (.iload_n 2, 27, 0, 0)), (27, (.invokevirtual 96, 30, 0, 0)), (30, (.astore_n 3, 31, 0, 0)), (31, (.aload_n 3, 32, 0, 0)), (32, (.ifnull 22, 35, 54, 0)), (35, (.iload_n 1, 36, 0, 0)), (36, (.ifCond .lt 18, 39, 54, 0)), (39, (.iload_n 1, 40, 0, 0)), (40, (.aload_n 0, 41, 0, 0)), (41, (.iload_n 2, 42, 0, 0)), (42, (.invokevirtual 100, 45, 0, 0)), (45, (.if_icmp .ge 9, 48, 54, 0)), (48, (.iload_n 1, 49, 0, 0)), (49, (.aload_n 3, 50, 0, 0)), (50, (.arraylength, 51, 0, 0)), (51, (.if_icmp .lt 6, 54, 57, 0)), (54, (.bipush (-2), 56, 0, (-2))), (56, (.ireturn, 57, 0, 0)), (57, (.aload_n 3, 58, 0, 0)), (58, (.iload_n 1, 59, 0, 0)), (59, (.iaload, 60, 0, 0)), (60, (.ireturn, 61, 0, 0))]
def vtb62 : List (Nat × vI) := [(0, (.iload_n 1, 1, 0, 0)), (1, (.invokestatic 112, 4, 0, 0)), (4, (.ifCond .ne 6, 7, 10, 0)), (7, (.bipush (-2), 9, 0, (-2))), (9, (.ireturn, 10, 0, 0)), (10, (.iload_n 2, 11, 0, 0)), (11, (.tableswitch 61 7 9 #[25, 35, 48], 36, 0, 0)), (36, (.aload_n 0, 37, 0, 0)), (37, (.getfield 10, 40, 0, 0)), (40, (.getfield 126, 43, 0, 0)), (43, (.iload_n 1, 44, 0, 0)), (44, (.iaload, 45, 0, 0)), (45, (.ireturn, 46, 0, 0)), (46, (.aload_n 0, 47, 0, 0)), (47, (.iload_n 1, 48, 0, 0)), (48, (.aload_n 0, 49, 0, 0)), (49, (.getfield 10, 52, 0, 0)), (52, (.getfield 93, 55, 0, 0)), (55, (.invokevirtual 129, 58, 0, 0)), (58, (.ireturn, 59, 0, 0)), (59, (.aload_n 0, 60, 0, 0)), (60, (.iload_n 1, 61, 0, 0)), (61, (.invokevirtual 132, 64, 0, 0)), (64, (.aload_n 0, 65, 0, 0)), (65, (.getfield 56, 68, 0, 0)), (68, (.invokevirtual 135, 71, 0, 0)), (71, (.ireturn, 72, 0, 0)), (72, (.bipush (-2), 74, 0, (-2))), (74, (.ireturn, 75, 0, 0))]
def vtb63 : List (Nat × vI) := [(0, (.iload_n 1, 1, 0, 0)), (1, (.tableswitch 87 1 6 #[39, 47, 55, 63, 71, 79], 40, 0, 0)), (40, (.aload_n 0, 41, 0, 0)), (41, (.getfield 10, 44, 0, 0)), (44, (.getfield 138, 47, 0, 0)), (47, (.areturn, 48, 0, 0)), (48, (.aload_n 0, 49, 0, 0)), (49, (.getfield 10, 52, 0, 0)), (52, (.getfield 141, 55, 0, 0)), (55, (.areturn, 56, 0, 0)), (56, (.aload_n 0, 57, 0, 0)), (57, (.getfield 10, 60, 0, 0)), (60, (.getfield 144, 63, 0, 0)), (63, (.areturn, 64, 0, 0)), (64, (.aload_n 0, 65, 0, 0)), (65, (.getfield 10, 68, 0, 0)), (68, (.getfield 40, 71, 0, 0)), (71, (.areturn, 72, 0, 0)), (72, (.aload_n 0, 73, 0, 0)), (73, (.getfield 10, 76, 0, 0)), (76, (.getfield 147, 79, 0, 0)), (79, (.areturn, 80, 0, 0)), (80, (.aload_n 0, 81, 0, 0)), (81, (.getfield 10, 84, 0, 0)), (84, (.getfield 150, 87, 0, 0)), (87, (.areturn, 88, 0, 0)), (88, (.aconst_null, 89, 0, 0)), (89, (.areturn, 90, 0, 0))]
def vtb64 : List (Nat × vI) := [(0, (.iload_n 1, 1, 0, 0)), (1, (.tableswitch 31 3 5 #[27, 29, 29], 28, 0, 0)), (28, (.iconst 5, 29, 0, 5)), (29, (.ireturn, 30, 0, 0)), (30, (.iconst 4, 31, 0, 4)), (31, (.ireturn, 32, 0, 0)), (32, (.aload_n 0, 33, 0, 0)), (33, (.getfield 10, 36, 0, 0)), (36, (.getfield 153, 39, 0, 0)), (39, (.ireturn, 40, 0, 0))]
def vtb65 : List (Nat × vI) := [(0, (.iload_n 1, 1, 0, 0)), (1, (.iconst 0, 2, 0, 0)), (2, (.sipush 255, 5, 0, 255)), (5, (.invokestatic 104, 8, 0, 0)), (8, (.ifCond .ne 6, 11, 14, 0)), (11, (.bipush (-2), 13, 0, (-2))), (13, (.ireturn, 14, 0, 0)), (14, (.aload_n 0, 15, 0, 0)), (15, (.getfield 49, 18, 0, 0)), (18, (.getfield 156, 21, 0, 0)), (21, (.sipush 160, 24, 0, 160)), (24, (.if_icmp .lt 6, 27, 30, 0)), (27, (.bipush (-4), 29, 0, (-4))), (29, (.ireturn, 30, 0, 0)), (30, (.aload_n 0, 31, 0, 0)), (31, (.getfield 49, 34, 0, 0)), (34, (.iload_n 1, 35, 0, 0)), (35, (.invokevirtual 72, 38, 0, 0)), (38, (.aload_n 0, 39, 0, 0)), (39, (.getfield 49, 42, 0, 0)), (42, (.getfield 156, 45, 0, 0)), (45, (.ireturn, 46, 0, 0))]
def vtb66 : List (Nat × vI) := [(0, (.aload_n 0, 1, 0, 0)), (1, (.getfield 83, 4, 0, 0)), (4, (.aload_n 0, 5, 0, 0)), (5, (.getfield 21, 8, 0, 0)), (8, (.arraylength, 9, 0, 0)), (9, (.if_icmp .lt 6, 12, 15, 0)), (12, (.bipush (-4), 14, 0, (-4))), (14, (.ireturn, 15, 0, 0)), (15, (.aload_n 0, 16, 0, 0)), (16, (.getfield 49, 19, 0, 0)), (19, (.aload_n 0, 20, 0, 0)), (20, (.getfield 21, 23, 0, 0)), (23, (.aload_n 0, 24, 0, 0)), (24, (.getfield 83, 27, 0, 0)), (27, (.aaload, 28, 0, 0)), (28, (.invokevirtual 76, 31, 0, 0)), (31, (.istore_n 1, 32, 0, 0)), (32, (.aload_n 0, 33, 0, 0)), (33, (.getfield 49, 36, 0, 0)), (36, (.invokevirtual 80, 39, 0, 0)), (39, (.iload_n 1, 40, 0, 0)), (40, (.ifCond .lt 8, 43, 48, 0)), (43, (.bipush (-100), 45, 0, (-100))), (45, (.iload_n 1, 46, 0, 0)), (46, (.isub, 47, 0, 0)), (47, (.ireturn, 48, 0, 0)), (48, (.aload_n 0, 49, 0, 0)), (49, (.dup, 50, 0, 0)), (50, (.getfield 83, 53, 0, 0)), (53, (.iconst 1, 54, 0, 1)), (54, (.iadd, 55, 0, 0)), (55, (.putfield 83, 58, 0, 0)), (58, (.aload_n 0, 59, 0, 0)), (59, (.getfield 83, 62, 0, 0)), (62, (.iconst 1, 63, 0, 1)), (63, (.isub, 64, 0, 0)), (64, (.ireturn, 65, 0, 0))]
def vtb67 : List (Nat × vI) := [(0, (.iload_n 1, 1, 0, 0)), (1, (.iconst 0, 2, 0, 0)), (2, (.aload_n 0, 3, 0, 0)), (3, (.getfield 83, 6, 0, 0)), (6, (.iconst 1, 7, 0, 1)), (7, (.isub, 8, 0, 0)), (8, (.invokestatic 104, 11, 0, 0)), (11, (.ifCond .ne 6, 14, 17, 0)), (14, (.bipush (-2), 16, 0, (-2))), (16, (.ireturn, 17, 0, 0)), (17, (.aload_n 0, 18, 0, 0)), (18, (.getfield 10, 21, 0, 0)), (21, (.getfield 159, 24, 0, 0)), (24, (.istore_n 2, 25, 0, 0)), (25, (.aload_n 0, 26, 0, 0)), (26, (.getfield 10, 29, 0, 0)), (29, (.iload_n 1, 30, 0, 0)), (30, (.putfield 159, 33, 0, 0)), (33, (.iload_n 2, 34, 0, 0)), (34, (.ireturn, 35, 0, 0))]
def vtb68 : List (Nat × vI) := [(0, (.iload_n 1, 1, 0, 0)), (1, (.invokestatic 112, 4, 0, 0)), (4, (.ifCond .eq 11, 7, 15, 0)), (7, (.aload_n 0, 8, 0, 0)), (8, (.iload_n 2, 9, 0, 0)), (9, (.invokevirtual 116, 12, 0, 0)), (12, (.ifCond .ne 6, 15, 18, 0)), (15, (.bipush (-2), 17, 0, (-2))), (17, (.ireturn, 18, 0, 0)), (18, (.aload_n 0, 19, 0, 0)), (19, (.iload_n 1, 20, 0, 0)), (20, (.invokevirtual 132, 23, 0, 0)), (23, (.iload_n 3, 24, 0, 0)), (24, (.ifCond .ne 12, 27, 36, 0)), (27, (.aload_n 0, 28, 0, 0)), (28, (.getfield 56, 31, 0, 0)), (31, (.iload_n 2, 32, 0, 0)), (32, (.invokevirtual 162, 35, 0, 0)), (35, (.ireturn, 36, 0, 0)), (36, (.iload_n 3, 37, 0, 0)), (37, (.iconst 1, 38, 0, 1)), (38, (.if_icmp .ne 12, 41, 50, 0)), (41, (.aload_n 0, 42, 0, 0)), (42, (.getfield 56, 45, 0, 0)), (45, (.iload_n 2, 46, 0, 0)), (46, (.invokevirtual 165, 49, 0, 0)), (49, (.ireturn, 50, 0, 0)), (50, (.iload_n 3, 51, 0, 0)), (51, (.bipush 10, 53, 0, 10)), (53, (.bipush 21, 55, 0, 21)), (55, (.invokestatic 104, 58, 0, 0)), (58, (.ifCond .ne 6, 61, 64, 0)), (61, (.bipush (-2), 63, 0, (-2))), (63, (.ireturn, 64, 0, 0)), (64, (.aload_n 0, 65, 0, 0)), (65, (.getfield 56, 68, 0, 0)), (68, (.iload_n 2, 69, 0, 0)), (69, (.iload_n 3, 70, 0, 0)), (70, (.bipush 10, 72, 0, 10)), (72, (.isub, 73, 0, 0)), (73, (.invokevirtual 168, 76, 0, 0)), (76, (.ireturn, 77, 0, 0))]
def vtb69 : List (Nat × vI) := [(0, (.iload_n 1, 1, 0, 0)), (1, (.tableswitch 52 0 2 #[27, 39, 44], 28, 0, 0)), (28, (.aload_n 0, 29, 0, 0)), (29, (.aload_n 0, 30, 0, 0)), (30, (.getfield 10, 33, 0, 0)), (33, (.getfield 93, 36, 0, 0)), (36, (.invokevirtual 171, 39, 0, 0)), (39, (.ireturn, 40, 0, 0)), (40, (.aload_n 0, 41, 0, 0)), (41, (.invokevirtual 174, 44, 0, 0)), (44, (.ireturn, 45, 0, 0)), (45, (.aload_n 0, 46, 0, 0)), (46, (.getfield 10, 49, 0, 0)), (49, (.invokevirtual 177, 52, 0, 0)), (52, (.ireturn, 53, 0, 0)), (53, (.bipush (-2), 55, 0, (-2))), (55, (.ireturn, 56, 0, 0))]
def vtb70 : List (Nat × vI) := [(0, (.iload_n 1, 1, 0, 0)), (1, (.iconst 0, 2, 0, 0)), (2, (.sipush 999, 5, 0, 999)), (5, (.invokestatic 104, 8, 0, 0)), (8, (.ifCond .eq 12, 11, 20, 0)), (11, (.iload_n 2, 12, 0, 0)), (12, (.iconst 0, 13, 0, 0)), (13, (.iconst 2, 14, 0, 2)), (14, (.invokestatic 104, 17, 0, 0)), (17, (.ifCond .ne 6, 20, 23, 0)), (20, (.bipush (-2), 22, 0, (-2))), (22, (.ireturn, 23, 0, 0)), (23, (.aload_n 0, 24, 0, 0)), (24, (.getfield 28, 27, 0, 0)), (27, (.iload_n 1, 28, 0, 0)), (28, (.aload_n 0, 29, 0, 0)), (29, (.getfield 10, 32, 0, 0)), (32, (.getfield 40, 35, 0, 0)), (35, (.aload_n 0, 36, 0, 0)), (36, (.getfield 10, 39, 0, 0)), (39, (.getfield 147, 42, 0, 0)), (42, (.invokevirtual 180, 45, 0, 0)), (45, (.iload_n 2, 46, 0, 0)), (46, (.ifCond .ne 19, 49, 65, 0)), (49, (.aload_n 0, 50, 0, 0)), (50, (.getfield 28, 53, 0, 0)), (53, (.getfield 184, 56, 0, 0)), (56, (.ifCond .lt 7, 59, 63, 0)), (59, (.iconst 1, 60, 0, 1)), (60, (.goto 4, 63, 64, 0)), (63, (.iconst 0, 64, 0, 0)), (64, (.ireturn, 65, 0, 0)), (65, (.iload_n 2, 66, 0, 0)), (66, (.iconst 1, 67, 0, 1)), (67, (.if_icmp .ne 13, 70, 80, 0)), (70, (.aload_n 0, 71, 0, 0)), (71, (.getfield 28, 74, 0, 0)), (74, (.getfield 184, 77, 0, 0)), (77, (.goto 12, 80, 89, 0)), (80, (.iload_n 1, 81, 0, 0)), (81, (.aload_n 0, 82, 0, 0)), (82, (.getfield 28, 85, 0, 0)), (85, (.getfield 187, 88, 0, 0)), (88, (.isub, 89, 0, 0)), (89, (.ireturn, 90, 0, 0))]
def vtb71 : List (Nat × vI) := [(0, (.iload_n 1, 1, 0, 0)), (1, (.invokestatic 112, 4, 0, 0)), (4, (.ifCond .ne 6, 7, 10, 0)), (7, (.bipush (-2), 9, 0, (-2))), (9, (.ireturn, 10, 0, 0)), (10, (.aload_n 0, 11, 0, 0)), (11, (.iload_n 1, 12, 0, 0)), (12, (.aload_n 0, 13, 0, 0)), (13, (.getfield 10, 16, 0, 0)), (16, (.getfield 93, 19, 0, 0)), (19, (.invokevirtual 129, 22, 0, 0)), (22, (.istore_n 2, 23, 0, 0)), (23, (.iload_n 2, 24, 0, 0)), (24, (.sipush 999, 27, 0, 999)), (27, (.if_icmp .le 6, 30, 33, 0)), (30, (.bipush (-3), 32, 0, (-3))), (32, (.ireturn, 33, 0, 0)), (33, (.aload_n 0, 34, 0, 0)), (34, (.getfield 28, 37, 0, 0)), (37, (.iload_n 2, 38, 0, 0)), (38, (.aload_n 0, 39, 0, 0)), (39, (.getfield 10, 42, 0, 0)), (42, (.getfield 40, 45, 0, 0)), (45, (.aload_n 0, 46, 0, 0)), (46, (.getfield 10, 49, 0, 0)), (49, (.getfield 147, 52, 0, 0)), (52, (.invokevirtual 180, 55, 0, 0)), (55, (.aload_n 0, 56, 0, 0)), (56, (.getfield 28, 59, 0, 0)), (59, (.getfield 184, 62, 0, 0)), (62, (.ifCond .ge 6, 65, 68, 0)), (65, (.bipush (-3), 67, 0, (-3))), (67, (.ireturn, 68, 0, 0)), (68, (.iconst 0, 69, 0, 0)), (69, (.istore_n 3, 70, 0, 0)), (70, (.iload_n 3, 71, 0, 0)), (71, (.iconst 4, 72, 0, 4)), (72, (.if_icmp .ge 30, 75, 102, 0)), (75, (.aload_n 0, 76, 0, 0)), (76, (.getfield 10, 79, 0, 0)), (79, (.getfield 147, 82, 0, 0)), (82, (.iload_n 3, 83, 0, 0)), (83, (.dup2, 84, 0, 0)), (84, (.iaload, 85, 0, 0)), (85, (.aload_n 0, 86, 0, 0)), (86, (.getfield 28, 89, 0, 0)), (89, (.getfield 190, 92, 0, 0)), (92, (.iload_n 3, 93, 0, 0)), (93, (.iaload, 94, 0, 0)), (94, (.isub, 95, 0, 0)), (95, (.iastore, 96, 0, 0)), (96, (.iinc 3 1, 99, 0, 1)), (99, (.goto (-29), 102, 70, 0)), (102, (.aload_n 0, 103, 0, 0)), (103, (.getfield 10, 106, 0, 0)), (106, (.getfield 126, 109, 0, 0)), (109, (.iload_n 1, 110, 0, 0)), (110, (.dup2, 111, 0, 0)), (111, (.iaload, 112, 0, 0)), (112, (.iload_n 2, 113, 0, 0)), (113, (.iadd, 114, 0, 0)), (114, (.iastore, 115, 0, 0)), (115, (.aload_n 0, 116, 0, 0)), (116, (.getfield 28, 119, 0, 0)), (119, (.getfield 184, 122, 0, 0)), (122, (.ireturn, 123, 0, 0))]
def vtb72 : List (Nat × vI) := [(0, (.iconst 0, 1, 0, 0)), (1, (.istore_n 1, 2, 0, 0)), (2, (.aload_n 0, 3, 0, 0)), (3, (.iconst 0, 4, 0, 0)), (4, (.aload_n 0, 5, 0, 0)), (5, (.getfield 10, 8, 0, 0)), (8, (.getfield 93, 11, 0, 0)), (11, (.invokevirtual 129, 14, 0, 0)), (14, (.istore_n 2, 15, 0, 0)), (15, (.iconst 1, 16, 0, 1)), (16, (.istore_n 3, 17, 0, 0)), (17, (.iload_n 3, 18, 0, 0)), (18, (.iconst 5, 19, 0, 5)), (19, (.if_icmp .ge 34, 22, 53, 0)), (22, (.aload_n 0, 23, 0, 0)), (23, (.iload_n 3, 24, 0, 0)), (24, (.aload_n 0, 25, 0, 0)), (25, (.getfield 10, 28, 0, 0)), (28, (.getfield 93, 31, 0, 0)), (31, (.invokevirtual 129, 34, 0, 0)), (34, (.istore 4, 36, 0, 0)), (36, (.iload 4, 38, 0, 0)), (38, (.iload_n 2, 39, 0, 0)), (39, (.if_icmp .le 8, 42, 47, 0)), (42, (.iload_n 3, 43, 0, 0)), (43, (.istore_n 1, 44, 0, 0)), (44, (.iload 4, 46, 0, 0)), (46, (.istore_n 2, 47, 0, 0)), (47, (.iinc 3 1, 50, 0, 1)), (50, (.goto (-33), 53, 17, 0)), (53, (.iload_n 1, 54, 0, 0)), (54, (.ireturn, 55, 0, 0))]
def vtb73 : List (Nat × vI) := [(0, (.iload_n 1, 1, 0, 0)), (1, (.invokestatic 112, 4, 0, 0)), (4, (.ifCond .eq 20, 7, 24, 0)), (7, (.aload_n 0, 8, 0, 0)), (8, (.iload_n 2, 9, 0, 0)), (9, (.invokevirtual 116, 12, 0, 0)), (12, (.ifCond .eq 12, 15, 24, 0)), (15, (.iload_n 3, 16, 0, 0)), (16, (.iconst 0, 17, 0, 0)), (17, (.iconst 1, 18, 0, 1)), (18, (.invokestatic 104, 21, 0, 0)), (21, (.ifCond .ne 6, 24, 27, 0)), (24, (.bipush (-2), 26, 0, (-2))), (26, (.ireturn, 27, 0, 0)), (27, (.aload_n 0, 28, 0, 0)), (28, (.iload_n 1, 29, 0, 0)), (29, (.invokevirtual 132, 32, 0, 0)), (32, (.aload_n 0, 33, 0, 0)), (33, (.getfield 56, 36, 0, 0)), (36, (.getfield 193, 39, 0, 0)), (39, (.iload_n 2, 40, 0, 0)), (40, (.iaload, 41, 0, 0)), (41, (.istore 4, 43, 0, 0)), (43, (.iload 4, 45, 0, 0)), (45, (.aload_n 0, 46, 0, 0)), (46, (.getfield 56, 49, 0, 0)), (49, (.getfield 194, 52, 0, 0)), (52, (.ior, 53, 0, 0)), (53, (.istore 5, 55, 0, 0)), (55, (.iconst (-1), 56, 0, (-1))), (56, (.istore 6, 58, 0, 0)), (58, (.iconst (-1), 59, 0, (-1))), (59, (.istore 7, 61, 0, 0)), (61, (.iconst 0, 62, 0, 0)), (62, (.istore 8, 64, 0, 0)), (64, (.iload 8, 66, 0, 0)), (66, (.bipush 12, 68, 0, 12)), (68, (.if_icmp .ge 65, 71, 133, 0)), (71, (.iload 5, 73, 0, 0)), (73, (.iload 8, 75, 0, 0)), (75, (.ishr, 76, 0, 0)), (76, (.iconst 1, 77, 0, 1)), (77, (.iand, 78, 0, 0)), (78, (.ifCond .ne 49, 81, 127, 0)), (81, (.aload_n 0, 82, 0, 0)), (82, (.getfield 56, 85, 0, 0)), (85, (.getfield 193, 88, 0, 0)), (88, (.iload_n 2, 89, 0, 0)), (89, (.iload 4, 91, 0, 0)), (91, (.iconst 1, 92, 0, 1)), (92, (.iload 8, 94, 0, 0)), (94, (.ishl, 95, 0, 0)), (95, (.ior, 96, 0, 0)), (96, (.iastore, 97, 0, 0)), (97, (.aload_n 0, 98, 0, 0)), (98, (.getfield 56, 101, 0, 0)), (101, (.invokevirtual 195, 104, 0, 0)), (104, (.istore 9, 106, 0, 0)), (106, (.iload 6, 108, 0, 0)), (108, (.iconst (-1), 109, 0, (-1))), (109, (.if_icmp .eq 10, 112, 119, 0)), (112, (.iload 9, 114, 0, 0)), (114, (.iload 7, 116, 0, 0)), (116, (.if_icmp .ge 11, 119, 127, 0)), (119, (.iload 8, 121, 0, 0)), (121, (.istore 6, 123, 0, 0)), (123, (.iload 9, 125, 0, 0)), (125, (.istore 7, 127, 0, 0)), (127, (.iinc 8 1, 130, 0, 1)), (130, (.goto (-66), 133, 64, 0)), (133, (.iload_n 3, 134, 0, 0)), (134, (.ifCond .ne 8, 137, 142, 0)), (137, (.iload 6, 139, 0, 0)), (139, (.goto 5, 142, 144, 0)), (142, (.iload 7, 144, 0, 0)), (144, (.ireturn, 145, 0, 0))]
def vtb74 : List (Nat × vI) := [(0, (.iload_n 1, 1, 0, 0)), (1, (.invokestatic 112, 4, 0, 0)), (4, (.ifCond .eq 12, 7, 16, 0)), (7, (.iload_n 2, 8, 0, 0)), (8, (.iconst 0, 9, 0, 0)), (9, (.iconst 1, 10, 0, 1)), (10, (.invokestatic 104, 13, 0, 0)), (13, (.ifCond .ne 6, 16, 19, 0)), (16, (.bipush (-2), 18, 0, (-2))), (18, (.ireturn, 19, 0, 0)), (19, (.aload_n 0, 20, 0, 0)), (20, (.iload_n 1, 21, 0, 0)), (21, (.invokevirtual 132, 24, 0, 0)), (24, (.iconst (-1), 25, 0, (-1))), (25, (.istore_n 3, 26, 0, 0)), (26, (.aload_n 0, 27, 0, 0)), (27, (.getfield 56, 30, 0, 0)), (30, (.invokevirtual 195, 33, 0, 0)), (33, (.istore 4, 35, 0, 0)), (35, (.iconst 0, 36, 0, 0)), (36, (.istore 5, 38, 0, 0)), (38, (.iload 5, 40, 0, 0)), (40, (.aload_n 0, 41, 0, 0)), (41, (.getfield 10, 44, 0, 0)), (44, (.getfield 153, 47, 0, 0)), (47, (.if_icmp .ge 74, 50, 121, 0)), (50, (.iload 5, 52, 0, 0)), (52, (.bipush 6, 54, 0, 6)), (54, (.if_icmp .ge 67, 57, 121, 0)), (57, (.aload_n 0, 58, 0, 0)), (58, (.getfield 56, 61, 0, 0)), (61, (.getfield 193, 64, 0, 0)), (64, (.iload 5, 66, 0, 0)), (66, (.iaload, 67, 0, 0)), (67, (.istore 6, 69, 0, 0)), (69, (.aload_n 0, 70, 0, 0)), (70, (.getfield 56, 73, 0, 0)), (73, (.getfield 193, 76, 0, 0)), (76, (.iload 5, 78, 0, 0)), (78, (.iconst 0, 79, 0, 0)), (79, (.iastore, 80, 0, 0)), (80, (.aload_n 0, 81, 0, 0)), (81, (.getfield 56, 84, 0, 0)), (84, (.invokevirtual 195, 87, 0, 0)), (87, (.istore 7, 89, 0, 0)), (89, (.aload_n 0, 90, 0, 0)), (90, (.getfield 56, 93, 0, 0)), (93, (.getfield 193, 96, 0, 0)), (96, (.iload 5, 98, 0, 0)), (98, (.iload 6, 100, 0, 0)), (100, (.iastore, 101, 0, 0)), (101, (.iload 7, 103, 0, 0)), (103, (.iload 4, 105, 0, 0)), (105, (.if_icmp .ge 10, 108, 115, 0)), (108, (.iload 5, 110, 0, 0)), (110, (.istore_n 3, 111, 0, 0)), (111, (.iload 7, 113, 0, 0)), (113, (.istore 4, 115, 0, 0)), (115, (.iinc 5 1, 118, 0, 1)), (118, (.goto (-80), 121, 38, 0)), (121, (.iload_n 2, 122, 0, 0)), (122, (.ifCond .ne 7, 125, 129, 0)), (125, (.iload_n 3, 126, 0, 0)), (126, (.goto 5, 129, 131, 0)), (129, (.iload 4, 131, 0, 0)), (131, (.ireturn, 132, 0, 0))]
def vtb75 : List (Nat × vI) := [(0, (.iload_n 1, 1, 0, 0)), (1, (.invokestatic 112, 4, 0, 0)), (4, (.ifCond .eq 13, 7, 17, 0)), (7, (.iload_n 2, 8, 0, 0)), (8, (.iconst 0, 9, 0, 0)), (9, (.ldc 198, 11, 0, 0)), (11, (.invokestatic 104, 14, 0, 0)), (14, (.ifCond .ne 6, 17, 20, 0)), (17, (.bipush (-2), 19, 0, (-2))), (19, (.ireturn, 20, 0, 0)), (20, (.iconst 0, 21, 0, 0)), (21, (.istore_n 3, 22, 0, 0)), (22, (.iload_n 3, 23, 0, 0)), (23, (.bipush 12, 25, 0, 12)), (25, (.if_icmp .ge 39, 28, 64, 0)), (28, (.aload_n 0, 29, 0, 0)), (29, (.iload_n 1, 30, 0, 0)), (30, (.invokevirtual 132, 33, 0, 0)), (33, (.aload_n 0, 34, 0, 0)), (34, (.getfield 56, 37, 0, 0)), (37, (.iconst 2, 38, 0, 2)), (38, (.iload_n 3, 39, 0, 0)), (39, (.ishl, 40, 0, 0)), (40, (.iconst 1, 41, 0, 1)), (41, (.isub, 42, 0, 0)), (42, (.invokevirtual 199, 45, 0, 0)), (45, (.aload_n 0, 46, 0, 0)), (46, (.getfield 56, 49, 0, 0)), (49, (.invokevirtual 195, 52, 0, 0)), (52, (.iload_n 2, 53, 0, 0)), (53, (.if_icmp .lt 5, 56, 58, 0)), (56, (.iload_n 3, 57, 0, 0)), (57, (.ireturn, 58, 0, 0)), (58, (.iinc 3 1, 61, 0, 1)), (61, (.goto (-39), 64, 22, 0)), (64, (.iconst (-1), 65, 0, (-1))), (65, (.ireturn, 66, 0, 0))]
def vtb76 : List (Nat × vI) := [(0, (.iload_n 1, 1, 0, 0)), (1, (.iconst 0, 2, 0, 0)), (2, (.bipush 99, 4, 0, 99)), (4, (.invokestatic 104, 7, 0, 0)), (7, (.ifCond .eq 22, 10, 29, 0)), (10, (.iload_n 2, 11, 0, 0)), (11, (.iconst 0, 12, 0, 0)), (12, (.ldc 198, 14, 0, 0)), (14, (.invokestatic 104, 17, 0, 0)), (17, (.ifCond .eq 12, 20, 29, 0)), (20, (.iload_n 3, 21, 0, 0)), (21, (.iconst 0, 22, 0, 0)), (22, (.iconst 2, 23, 0, 2)), (23, (.invokestatic 104, 26, 0, 0)), (26, (.ifCond .ne 6, 29, 32, 0)), (29, (.bipush (-2), 31, 0, (-2))), (31, (.ireturn, 32, 0, 0)), (32, (.aload_n 0, 33, 0, 0)), (33, (.iload_n 2, 34, 0, 0)), (34, (.invokevirtual 202, 37, 0, 0)), (37, (.istore 4, 39, 0, 0)), (39, (.iload_n 3, 40, 0, 0)), (40, (.iconst 2, 41, 0, 2)), (41, (.if_icmp .ne 9, 44, 50, 0)), (44, (.iload 4, 46, 0, 0)), (46, (.invokestatic 205, 49, 0, 0)), (49, (.ireturn, 50, 0, 0)), (50, (.iload 4, 52, 0, 0)), (52, (.ifCond .ne 13, 55, 65, 0)), (55, (.iload_n 3, 56, 0, 0)), (56, (.ifCond .ne 7, 59, 63, 0)), (59, (.iconst 0, 60, 0, 0)), (60, (.goto 4, 63, 64, 0)), (63, (.iconst (-1), 64, 0, (-1))), (64, (.ireturn, 65, 0, 0)), (65, (.bipush 99, 67, 0, 99)), (67, (.istore 5, 69, 0, 0)), (69, (.iconst 0, 70, 0, 0)), (70, (.istore 6, 72, 0, 0)), (72, (.iconst 0, 73, 0, 0)), (73, (.istore 7, 75, 0, 0)), (75, (.iload 7, 77, 0, 0)), (77, (.iconst 5, 78, 0, 5)), (78, (.if_icmp .ge 54, 81, 132, 0)), (81, (.iload 4, 83, 0, 0)), (83, (.iload 7, 85, 0, 0)), (85, (.ishr, 86, 0, 0)), (86, (.iconst 1, 87, 0, 1)), (87, (.iand, 88, 0, 0)), (88, (.iconst 1, 89, 0, 1)), (89, (.if_icmp .ne 37, 92, 126, 0)), (92, (.iload 5, 94, 0, 0)), (94, (.aload_n 0, 95, 0, 0)), (95, (.getfield 10, 98, 0, 0)), (98, (.getfield 144, 101, 0, 0)), (101, (.iload 7, 103, 0, 0)), (103, (.iaload, 104, 0, 0)), (104, (.invokestatic 210, 107, 0, 0)), (107, (.istore 5, 109, 0, 0)), (109, (.iload 6, 111, 0, 0)), (111, (.aload_n 0, 112, 0, 0)), (112, (.getfield 10, 115, 0, 0)), (115, (.getfield 144, 118, 0, 0)), (118, (.iload 7, 120, 0, 0)), (120, (.iaload, 121, 0, 0)), (121, (.invokestatic 215, 124, 0, 0)), (124, (.istore 6, 126, 0, 0)), (126, (.iinc 7 1, 129, 0, 1)), (129, (.goto (-54), 132, 75, 0)), (132, (.iload_n 1, 133, 0, 0)), (133, (.iload 5, 135, 0, 0)), (135, (.isub, 136, 0, 0)), (136, (.invokestatic 218, 139, 0, 0)), (139, (.istore 7, 141, 0, 0)), (141, (.iload_n 1, 142, 0, 0)), (142, (.iload 6, 144, 0, 0)), (144, (.isub, 145, 0, 0)), (145, (.invokestatic 218, 148, 0, 0)), (148, (.istore 8, 150, 0, 0)), (150, (.iload_n 3, 151, 0, 0)), (151, (.ifCond .ne 17, 154, 168, 0)), (154, (.iload 7, 156, 0, 0)), (156, (.iload 8, 158, 0, 0)), (158, (.invokestatic 210, 161, 0, 0)), (161, (.iload 6, 163, 0, 0)), (163, (.iadd, 164, 0, 0)), (164, (.iload 5, 166, 0, 0)), (166, (.isub, 167, 0, 0)), (167, (.ireturn, 168, 0, 0)), (168, (.aload_n 0, 169, 0, 0)), (169, (.iload 7, 171, 0, 0)), (171, (.iload 8, 173, 0, 0)), (173, (.if_icmp .gt 8, 176, 181, 0)), (176, (.iload 5, 178, 0, 0)), (178, (.goto 5, 181, 183, 0)), (181, (.iload 6, 183, 0, 0)), (183, (.iload 4, 185, 0, 0)), (185, (.invokevirtual 221, 188, 0, 0)), (188, (.ireturn, 189, 0, 0))]
def vtb77 : List (Nat × vI) := [(0, (.iconst 0, 1, 0, 0)), (1, (.istore_n 2, 2, 0, 0)), (2, (.iconst 0, 3, 0, 0)), (3, (.istore_n 3, 4, 0, 0)), (4, (.iload_n 3, 5, 0, 0)), (5, (.iconst 5, 6, 0, 5)), (6, (.if_icmp .ge 31, 9, 37, 0)), (9, (.aload_n 0, 10, 0, 0)), (10, (.iload_n 3, 11, 0, 0)), (11, (.aload_n 0, 12, 0, 0)), (12, (.getfield 10, 15, 0, 0)), (15, (.getfield 93, 18, 0, 0)), (18, (.invokevirtual 129, 21, 0, 0)), (21, (.iload_n 1, 22, 0, 0)), (22, (.if_icmp .lt 9, 25, 31, 0)), (25, (.iload_n 2, 26, 0, 0)), (26, (.iconst 1, 27, 0, 1)), (27, (.iload_n 3, 28, 0, 0)), (28, (.ishl, 29, 0, 0)), (29, (.ior, 30, 0, 0)), (30, (.istore_n 2, 31, 0, 0)), (31, (.iinc 3 1, 34, 0, 1)), (34, (.goto (-30), 37, 4, 0)), (37, (.iload_n 2, 38, 0, 0)), (38, (.ireturn, 39, 0, 0))]
def vtb78 : List (Nat × vI) := [(0, (.iconst 0, 1, 0, 0)), (1, (.istore_n 3, 2, 0, 0)), (2, (.iload_n 3, 3, 0, 0)), (3, (.iconst 5, 4, 0, 5)), (4, (.if_icmp .ge 33, 7, 37, 0)), (7, (.iload_n 2, 8, 0, 0)), (8, (.iload_n 3, 9, 0, 0)), (9, (.ishr, 10, 0, 0)), (10, (.iconst 1, 11, 0, 1)), (11, (.iand, 12, 0, 0)), (12, (.iconst 1, 13, 0, 1)), (13, (.if_icmp .ne 18, 16, 31, 0)), (16, (.aload_n 0, 17, 0, 0)), (17, (.getfield 10, 20, 0, 0)), (20, (.getfield 144, 23, 0, 0)), (23, (.iload_n 3, 24, 0, 0)), (24, (.iaload, 25, 0, 0)), (25, (.iload_n 1, 26, 0, 0)), (26, (.if_icmp .ne 5, 29, 31, 0)), (29, (.iload_n 3, 30, 0, 0)), (30, (.ireturn, 31, 0, 0)), (31, (.iinc 3 1, 34, 0, 1)), (34, (.goto (-32), 37, 2, 0)), (37, (.iconst (-1), 38, 0, (-1))), (38, (.ireturn, 39, 0, 0))]
def vtb79 : List (Nat × vI) := [(0, (.iload_n 3, 1, 0, 0)), (1, (.bipush 10, 3, 0, 10)), (3, (.bipush 49, 5, 0, 49)), (5, (.invokestatic 104, 8, 0, 0)), (8, (.istore 4, 10, 0, 0)), (10, (.iload_n 1, 11, 0, 0)), (11, (.invokestatic 224, 14, 0, 0)), (14, (.ifCond .eq 24, 17, 38, 0)), (17, (.iload_n 2, 18, 0, 0)), (18, (.invokestatic 112, 21, 0, 0)), (21, (.ifCond .eq 17, 24, 38, 0)), (24, (.iload 4, 26, 0, 0)), (26, (.ifCond .ne 15, 29, 41, 0)), (29, (.iload_n 3, 30, 0, 0)), (30, (.iconst 0, 31, 0, 0)), (31, (.iconst 2, 32, 0, 2)), (32, (.invokestatic 104, 35, 0, 0)), (35, (.ifCond .ne 6, 38, 41, 0)), (38, (.bipush (-2), 40, 0, (-2))), (40, (.ireturn, 41, 0, 0)), (41, (.iload 4, 43, 0, 0)), (43, (.ifCond .eq 17, 46, 60, 0)), (46, (.aload_n 0, 47, 0, 0)), (47, (.iload_n 3, 48, 0, 0)), (48, (.bipush 10, 50, 0, 10)), (50, (.irem, 51, 0, 0)), (51, (.invokevirtual 116, 54, 0, 0)), (54, (.ifCond .ne 6, 57, 60, 0)), (57, (.bipush (-2), 59, 0, (-2))), (59, (.ireturn, 60, 0, 0)), (60, (.aload_n 0, 61, 0, 0)), (61, (.getfield 34, 64, 0, 0)), (64, (.iload_n 1, 65, 0, 0)), (65, (.aaload, 66, 0, 0)), (66, (.astore 5, 68, 0, 0)), (68, (.aload 5, 70, 0, 0)), (70, (.getfield 227, 73, 0, 0)), (73, (.iconst (-1), 74, 0, (-1))), (74, (.if_icmp .ne 6, 77, 80, 0)), (77, (.bipush (-11), 79, 0, (-11))), (79, (.ireturn, 80, 0, 0)), (80, (.aload 5, 82, 0, 0)), (82, (.getfield 230, 85, 0, 0)), (85, (.aload_n 0, 86, 0, 0)), (86, (.getfield 10, 89, 0, 0)), (89, (.getfield 153, 92, 0, 0)), (92, (.if_icmp .eq 6, 95, 98, 0)), (95, (.bipush (-2), 97, 0, (-2))), (97, (.ireturn, 98, 0, 0)), (98, (.aload_n 0, 99, 0, 0)), (99, (.iload_n 2, 100, 0, 0)), (100, (.invokevirtual 132, 103, 0, 0)), (103, (.iload_n 3, 104, 0, 0)), (104, (.tableswitch 53 0 2 #[28, 39, 46], 132, 0, 0)), (132, (.aload_n 0, 133, 0, 0)), (133, (.getfield 56, 136, 0, 0)), (136, (.aload 5, 138, 0, 0)), (138, (.iconst (-1), 139, 0, (-1))), (139, (.invokevirtual 231, 142, 0, 0)), (142, (.ireturn, 143, 0, 0)), (143, (.aload_n 0, 144, 0, 0)), (144, (.aload 5, 146, 0, 0)), (146, (.invokevirtual 235, 149, 0, 0)), (149, (.ireturn, 150, 0, 0)), (150, (.aload_n 0, 151, 0, 0)), (151, (.aload 5, 153, 0, 0)), (153, (.invokevirtual 239, 156, 0, 0)), (156, (.ireturn, 157, 0, 0)), (157, (.aload_n 0, 158, 0, 0)), (158, (.aload 5, 160, 0, 0)), (160, (.iload_n 3, 161, 0, 0)), (161, (.bipush 10, 163, 0, 10)), (163, (.irem, 164, 0, 0)), (164, (.iload_n 3, 165, 0, 0)), (165, (.bipush 10, 167, 0, 10)), (167, (.idiv, 168, 0, 0)), (168, (.invokevirtual 242, 171, 0, 0)), (171, (.ireturn, 172, 0, 0))]
def vtb80 : List (Nat × vI) := [(0, (.iconst 0, 1, 0, 0)), (1, (.istore_n 2, 2, 0, 0)), (2, (.iconst 0, 3, 0, 0)), (3, (.istore_n 3, 4, 0, 0)), (4, (.iload_n 3, 5, 0, 0)), (5, (.aload_n 0, 6, 0, 0)), (6, (.getfield 83, 9, 0, 0)), (9, (.if_icmp .ge 40, 12, 49, 0)), (12, (.aload_n 0, 13, 0, 0)), (13, (.getfield 56, 16, 0, 0)), (16, (.aload_n 0, 17, 0, 0)), (17, (.iload_n 3, 18, 0, 0)), (18, (.invokevirtual 246, 21, 0, 0)), (21, (.putfield 250, 24, 0, 0)), (24, (.aload_n 0, 25, 0, 0)), (25, (.getfield 56, 28, 0, 0)), (28, (.aload_n 1, 29, 0, 0)), (29, (.iconst (-1), 30, 0, (-1))), (30, (.invokevirtual 231, 33, 0, 0)), (33, (.iconst (-1), 34, 0, (-1))), (34, (.if_icmp .ne 9, 37, 43, 0)), (37, (.iload_n 2, 38, 0, 0)), (38, (.iconst 1, 39, 0, 1)), (39, (.iload_n 3, 40, 0, 0)), (40, (.ishl, 41, 0, 0)), (41, (.ior, 42, 0, 0)), (42, (.istore_n 2, 43, 0, 0)), (43, (.iinc 3 1, 46, 0, 1)), (46, (.goto (-42), 49, 4, 0)), (49, (.iload_n 2, 50, 0, 0)), (50, (.ireturn, 51, 0, 0))]
def vtb81 : List (Nat × vI) := [(0, (.iconst 0, 1, 0, 0)), (1, (.istore_n 2, 2, 0, 0)), (2, (.iconst 0, 3, 0, 0)), (3, (.istore_n 3, 4, 0, 0)), (4, (.iload_n 3, 5, 0, 0)), (5, (.bipush 12, 7, 0, 12)), (7, (.if_icmp .gt 48, 10, 55, 0)), (10, (.aload_n 0, 11, 0, 0)), (11, (.getfield 56, 14, 0, 0)), (14, (.iload_n 3, 15, 0, 0)), (15, (.bipush 12, 17, 0, 12)), (17, (.if_icmp .ne 7, 20, 24, 0)), (20, (.iconst 0, 21, 0, 0)), (21, (.goto 6, 24, 27, 0)), (24, (.iconst 1, 25, 0, 1)), (25, (.iload_n 3, 26, 0, 0)), (26, (.ishl, 27, 0, 0)), (27, (.putfield 194, 30, 0, 0)), (30, (.aload_n 0, 31, 0, 0)), (31, (.getfield 56, 34, 0, 0)), (34, (.aload_n 1, 35, 0, 0)), (35, (.iconst (-1), 36, 0, (-1))), (36, (.invokevirtual 231, 39, 0, 0)), (39, (.iconst (-1), 40, 0, (-1))), (40, (.if_icmp .ne 9, 43, 49, 0)), (43, (.iload_n 2, 44, 0, 0)), (44, (.iconst 1, 45, 0, 1)), (45, (.iload_n 3, 46, 0, 0)), (46, (.ishl, 47, 0, 0)), (47, (.ior, 48, 0, 0)), (48, (.istore_n 2, 49, 0, 0)), (49, (.iinc 3 1, 52, 0, 1)), (52, (.goto (-48), 55, 4, 0)), (55, (.iload_n 2, 56, 0, 0)), (56, (.ireturn, 57, 0, 0))]
def vtb82 : List (Nat × vI) := [(0, (.iload_n 3, 1, 0, 0)), (1, (.iconst 1, 2, 0, 1)), (2, (.if_icmp .ne 13, 5, 15, 0)), (5, (.aload_n 0, 6, 0, 0)), (6, (.getfield 56, 9, 0, 0)), (9, (.getfield 253, 12, 0, 0)), (12, (.goto 25, 15, 37, 0)), (15, (.iload_n 3, 16, 0, 0)), (16, (.iconst 2, 17, 0, 2)), (17, (.if_icmp .ne 13, 20, 30, 0)), (20, (.aload_n 0, 21, 0, 0)), (21, (.getfield 56, 24, 0, 0)), (24, (.getfield 254, 27, 0, 0)), (27, (.goto 10, 30, 37, 0)), (30, (.aload_n 0, 31, 0, 0)), (31, (.getfield 56, 34, 0, 0)), (34, (.getfield 255, 37, 0, 0)), (37, (.astore 4, 39, 0, 0)), (39, (.iload_n 3, 40, 0, 0)), (40, (.iconst 2, 41, 0, 2)), (41, (.if_icmp .gt 7, 44, 48, 0)), (44, (.iconst 0, 45, 0, 0)), (45, (.goto 4, 48, 49, 0)), (48, (.iconst 1, 49, 0, 1)), (49, (.istore 5, 51, 0, 0)), (51, (.iload_n 3, 52, 0, 0)), (52, (.iconst 1, 53, 0, 1)), (53, (.if_icmp .ne 7, 56, 60, 0)), (56, (.iconst 5, 57, 0, 5)), (57, (.goto 16, 60, 73, 0)), (60, (.iload_n 3, 61, 0, 0)), (61, (.iconst 2, 62, 0, 2)), (62, (.if_icmp .ne 8, 65, 70, 0)), (65, (.bipush 9, 67, 0, 9)), (67, (.goto 6, 70, 73, 0)), (70, (.sipush 999, 73, 0, 999)), (73, (.istore 6, 75, 0, 0)), (75, (.iconst 0, 76, 0, 0)), (76, (.istore 7, 78, 0, 0)), (78, (.iconst 0, 79, 0, 0)), (79, (.istore 8, 81, 0, 0)), (81, (.iconst (-1), 82, 0, (-1))), (82, (.istore 9, 84, 0, 0)), (84, (.aload_n 0, 85, 0, 0)), (85, (.getfield 56, 88, 0, 0)), (88, (.aload_n 1, 89, 0, 0)), (89, (.iload_n 2, 90, 0, 0)), (90, (.invokevirtual 231, 93, 0, 0)), (93, (.iconst (-1), 94, 0, (-1))), (94, (.if_icmp .ne 7, 97, 101, 0)), (97, (.iconst 1, 98, 0, 1)), (98, (.goto 4, 101, 102, 0)), (101, (.iconst 0, 102, 0, 0)), (102, (.istore 10, 104, 0, 0)), (104, (.iload 5, 106, 0, 0)), (106, (.istore 11, 108, 0, 0)), (108, (.iload 10, 110, 0, 0)), (110, (.ifCond .eq 80, 113, 190, 0)), (113, (.iload_n 2, 114, 0, 0)), (114, (.aload 4, 116, 0, 0)), (116, (.arraylength, 117, 0, 0)), (117, (.if_icmp .ge 73, 120, 190, 0)), (120, (.iload 11, 122, 0, 0)), (122, (.iload 6, 124, 0, 0)), (124, (.if_icmp .gt 66, 127, 190, 0)), (127, (.aload 4, 129, 0, 0)), (129, (.iload_n 2, 130, 0, 0)), (130, (.iload 11, 132, 0, 0)), (132, (.iastore, 133, 0, 0)), (133, (.aload_n 0, 134, 0, 0)), (134, (.getfield 56, 137, 0, 0)), (137, (.iload_n 2, 138, 0, 0)), (138, (.invokevirtual 162, 141, 0, 0)), (141, (.aload_n 1, 142, 0, 0)), (142, (.iload_n 2, 143, 0, 0)), (143, (.invokevirtual 256, 146, 0, 0)), (146, (.if_icmp .ne 38, 149, 184, 0)), (149, (.iload 7, 151, 0, 0)), (151, (.iload_n 3, 152, 0, 0)), (152, (.iconst 2, 153, 0, 2)), (153, (.if_icmp .gt 10, 156, 163, 0)), (156, (.iconst 1, 157, 0, 1)), (157, (.iload 11, 159, 0, 0)), (159, (.ishl, 160, 0, 0)), (160, (.goto 4, 163, 164, 0)), (163, (.iconst 0, 164, 0, 0)), (164, (.ior, 165, 0, 0)), (165, (.istore 7, 167, 0, 0)), (167, (.iload 8, 169, 0, 0)), (169, (.ifCond .ne 8, 172, 177, 0)), (172, (.iload 11, 174, 0, 0)), (174, (.goto 5, 177, 179, 0)), (177, (.iload 9, 179, 0, 0)), (179, (.istore 9, 181, 0, 0)), (181, (.iinc 8 1, 184, 0, 1)), (184, (.iinc 11 1, 187, 0, 1)), (187, (.goto (-79), 190, 108, 0)), (190, (.iload_n 3, 191, 0, 0)), (191, (.iconst 2, 192, 0, 2)), (192, (.if_icmp .gt 8, 195, 200, 0)), (195, (.iload 7, 197, 0, 0)), (197, (.goto 15, 200, 212, 0)), (200, (.iload_n 3, 201, 0, 0)), (201, (.iconst 3, 202, 0, 3)), (202, (.if_icmp .ne 8, 205, 210, 0)), (205, (.iload 8, 207, 0, 0)), (207, (.goto 5, 210, 212, 0)), (210, (.iload 9, 212, 0, 0)), (212, (.ireturn, 213, 0, 0))]
def vtb83 : List (Nat × vI) := [(0, (.iload_n 1, 1, 0, 0)), (1, (.invokestatic 224, 4, 0, 0)), (4, (.ifCond .eq 10, 7, 14, 0)), (7, (.iload_n 2, 8, 0, 0)), (8, (.invokestatic 112, 11, 0, 0)), (11, (.ifCond .ne 6, 14, 17, 0)), (14, (.bipush (-2), 16, 0, (-2))), (16, (.ireturn, 17, 0, 0)), (17, (.aload_n 0, 18, 0, 0)), (18, (.getfield 34, 21, 0, 0)), (21, (.iload_n 1, 22, 0, 0)), (22, (.aaload, 23, 0, 0)), (23, (.astore_n 3, 24, 0, 0)), (24, (.aload_n 3, 25, 0, 0)), (25, (.iconst 2, 26, 0, 2)), (26, (.aload_n 0, 27, 0, 0)), (27, (.getfield 10, 30, 0, 0)), (30, (.getfield 153, 33, 0, 0)), (33, (.invokevirtual 259, 36, 0, 0)), (36, (.aload_n 0, 37, 0, 0)), (37, (.iload_n 2, 38, 0, 0)), (38, (.invokevirtual 132, 41, 0, 0)), (41, (.iconst 0, 42, 0, 0)), (42, (.istore 4, 44, 0, 0)), (44, (.iload 4, 46, 0, 0)), (46, (.aload_n 0, 47, 0, 0)), (47, (.getfield 10, 50, 0, 0)), (50, (.getfield 153, 53, 0, 0)), (53, (.if_icmp .ge 24, 56, 77, 0)), (56, (.aload_n 3, 57, 0, 0)), (57, (.iload 4, 59, 0, 0)), (59, (.aload_n 0, 60, 0, 0)), (60, (.getfield 56, 63, 0, 0)), (63, (.iload 4, 65, 0, 0)), (65, (.invokevirtual 162, 68, 0, 0)), (68, (.invokevirtual 263, 71, 0, 0)), (71, (.iinc 4 1, 74, 0, 1)), (74, (.goto (-30), 77, 44, 0)), (77, (.aload_n 0, 78, 0, 0)), (78, (.getfield 10, 81, 0, 0)), (81, (.getfield 153, 84, 0, 0)), (84, (.ireturn, 85, 0, 0))]
def vtb84 : List (Nat × vI) := [(0, (.aload_n 0, 1, 0, 0)), (1, (.iload_n 1, 2, 0, 0)), (2, (.invokestatic 266, 5, 0, 0)), (5, (.invokevirtual 171, 8, 0, 0)), (8, (.ireturn, 9, 0, 0))]
def vtb85 : List (Nat × vI) := [(0, (.iload_n 2, 1, 0, 0)), (1, (.iconst 1, 2, 0, 1)), (2, (.bipush 20, 4, 0, 20)), (4, (.invokestatic 104, 7, 0, 0)), (7, (.ifCond .eq 23, 10, 30, 0)), (10, (.iload_n 3, 11, 0, 0)), (11, (.iconst 0, 12, 0, 0)), (12, (.ldc 198, 14, 0, 0)), (14, (.invokestatic 104, 17, 0, 0)), (17, (.ifCond .eq 13, 20, 30, 0)), (20, (.iload 4, 22, 0, 0)), (22, (.iconst 0, 23, 0, 0)), (23, (.iconst 1, 24, 0, 1)), (24, (.invokestatic 104, 27, 0, 0)), (27, (.ifCond .ne 7, 30, 34, 0)), (30, (.ldc2_w 269, 33, 0, 0)), (33, (.lreturn, 34, 0, 0)), (34, (.iconst 0, 35, 0, 0)), (35, (.istore 5, 37, 0, 0)), (37, (.iconst 0, 38, 0, 0)), (38, (.istore 6, 40, 0, 0)), (40, (.iload 6, 42, 0, 0)), (42, (.iload_n 2, 43, 0, 0)), (43, (.if_icmp .ge 27, 46, 70, 0)), (46, (.aload_n 0, 47, 0, 0)), (47, (.iload_n 1, 48, 0, 0)), (48, (.iload 6, 50, 0, 0)), (50, (.iadd, 51, 0, 0)), (51, (.invokestatic 266, 54, 0, 0)), (54, (.invokevirtual 171, 57, 0, 0)), (57, (.iload_n 3, 58, 0, 0)), (58, (.if_icmp .lt 6, 61, 64, 0)), (61, (.iinc 5 1, 64, 0, 1)), (64, (.iinc 6 1, 67, 0, 1)), (67, (.goto (-27), 70, 40, 0)), (70, (.iload 5, 72, 0, 0)), (72, (.iload_n 2, 73, 0, 0)), (73, (.invokestatic 271, 76, 0, 0)), (76, (.istore 6, 78, 0, 0)), (78, (.iload 4, 80, 0, 0)), (80, (.ifCond .ne 8, 83, 88, 0)), (83, (.iload 5, 85, 0, 0)), (85, (.goto 4, 88, 89, 0)), (88, (.iload_n 2, 89, 0, 0)), (89, (.iload 6, 91, 0, 0)), (91, (.idiv, 92, 0, 0)), (92, (.i2l, 93, 0, 0)), (93, (.lreturn, 94, 0, 0))]
def vtb86 : List (Nat × vI) := [(0, (.iload_n 0, 1, 0, 0)), (1, (.istore_n 1, 2, 0, 0)), (2, (.iconst 0, 3, 0, 0)), (3, (.istore_n 2, 4, 0, 0)), (4, (.iconst 0, 5, 0, 0)), (5, (.istore_n 3, 6, 0, 0)), (6, (.iload_n 3, 7, 0, 0)), (7, (.bipush 12, 9, 0, 12)), (9, (.if_icmp .ge 34, 12, 43, 0)), (12, (.iload_n 1, 13, 0, 0)), (13, (.ldc_w 274, 16, 0, 0)), (16, (.imul, 17, 0, 0)), (17, (.sipush 12345, 20, 0, 12345)), (20, (.iadd, 21, 0, 0)), (21, (.istore_n 1, 22, 0, 0)), (22, (.iload_n 1, 23, 0, 0)), (23, (.bipush 9, 25, 0, 9)), (25, (.iushr, 26, 0, 0)), (26, (.iconst 3, 27, 0, 3)), (27, (.irem, 28, 0, 0)), (28, (.ifCond .ne 9, 31, 37, 0)), (31, (.iload_n 2, 32, 0, 0)), (32, (.iconst 1, 33, 0, 1)), (33, (.iload_n 3, 34, 0, 0)), (34, (.ishl, 35, 0, 0)), (35, (.ior, 36, 0, 0)), (36, (.istore_n 2, 37, 0, 0)), (37, (.iinc 3 1, 40, 0, 1)), (40, (.goto (-34), 43, 6, 0)), (43, (.iload_n 2, 44, 0, 0)), (44, (.ireturn, 45, 0, 0))]
def vtb87 : List (Nat × vI) := [(0, (.iload_n 0, 1, 0, 0)), (1, (.iload_n 1, 2, 0, 0)), (2, (.invokestatic 215, 5, 0, 0)), (5, (.istore_n 2, 6, 0, 0)), (6, (.iload_n 2, 7, 0, 0)), (7, (.iconst 1, 8, 0, 1)), (8, (.if_icmp .le 23, 11, 31, 0)), (11, (.iload_n 0, 12, 0, 0)), (12, (.iload_n 2, 13, 0, 0)), (13, (.irem, 14, 0, 0)), (14, (.ifCond .ne 11, 17, 25, 0)), (17, (.iload_n 1, 18, 0, 0)), (18, (.iload_n 2, 19, 0, 0)), (19, (.irem, 20, 0, 0)), (20, (.ifCond .ne 5, 23, 25, 0)), (23, (.iload_n 2, 24, 0, 0)), (24, (.ireturn, 25, 0, 0)), (25, (.iinc 2 (-1), 28, 0, (-1))), (28, (.goto (-22), 31, 6, 0)), (31, (.iconst 1, 32, 0, 1)), (32, (.ireturn, 33, 0, 0))]
def vtb88 : List (Nat × vI) := [(0, (.aload_n 0, 1, 0, 0)), (1, (.getfield 16, 4, 0, 0)), (4, (.aload_n 0, 5, 0, 0)), (5, (.getfield 10, 8, 0, 0)), (8, (.invokevirtual 275, 11, 0, 0)), (11, (.aload_n 0, 12, 0, 0)), (12, (.iconst 1, 13, 0, 1)), (13, (.putfield 278, 16, 0, 0)), (16, (.aload_n 0, 17, 0, 0)), (17, (.getfield 10, 20, 0, 0)), (20, (.getfield 153, 23, 0, 0)), (23, (.ireturn, 24, 0, 0))]
def vtb89 : List (Nat × vI) := [(0, (.aload_n 0, 1, 0, 0)), (1, (.getfield 278, 4, 0, 0)), (4, (.ifCond .ne 6, 7, 10, 0)), (7, (.bipush (-3), 9, 0, (-3))), (9, (.ireturn, 10, 0, 0)), (10, (.aload_n 0, 11, 0, 0)), (11, (.getfield 10, 14, 0, 0)), (14, (.aload_n 0, 15, 0, 0)), (15, (.getfield 16, 18, 0, 0)), (18, (.invokevirtual 275, 21, 0, 0)), (21, (.aload_n 0, 22, 0, 0)), (22, (.getfield 10, 25, 0, 0)), (25, (.getfield 153, 28, 0, 0)), (28, (.ireturn, 29, 0, 0))]
def vtb90 : List (Nat × vI) := [(0, (.iload_n 1, 1, 0, 0)), (1, (.tableswitch 87 0 5 #[39, 47, 58, 66, 71, 79], 40, 0, 0)), (40, (.aload_n 0, 41, 0, 0)), (41, (.getfield 10, 44, 0, 0)), (44, (.getfield 153, 47, 0, 0)), (47, (.ireturn, 48, 0, 0)), (48, (.aload_n 0, 49, 0, 0)), (49, (.getfield 10, 52, 0, 0)), (52, (.getfield 93, 55, 0, 0)), (55, (.invokestatic 205, 58, 0, 0)), (58, (.ireturn, 59, 0, 0)), (59, (.aload_n 0, 60, 0, 0)), (60, (.getfield 10, 63, 0, 0)), (63, (.invokevirtual 282, 66, 0, 0)), (66, (.ireturn, 67, 0, 0)), (67, (.aload_n 0, 68, 0, 0)), (68, (.getfield 83, 71, 0, 0)), (71, (.ireturn, 72, 0, 0)), (72, (.aload_n 0, 73, 0, 0)), (73, (.getfield 49, 76, 0, 0)), (76, (.getfield 156, 79, 0, 0)), (79, (.ireturn, 80, 0, 0)), (80, (.aload_n 0, 81, 0, 0)), (81, (.getfield 10, 84, 0, 0)), (84, (.getfield 159, 87, 0, 0)), (87, (.ireturn, 88, 0, 0)), (88, (.bipush (-2), 90, 0, (-2))), (90, (.ireturn, 91, 0, 0))]
def vtb91 : List (Nat × vI) := [(0, (.iload_n 1, 1, 0, 0)), (1, (.invokestatic 224, 4, 0, 0)), (4, (.ifCond .eq 12, 7, 16, 0)), (7, (.iload_n 2, 8, 0, 0)), (8, (.iconst (-1), 9, 0, (-1))), (9, (.iconst 2, 10, 0, 2)), (10, (.invokestatic 104, 13, 0, 0)), (13, (.ifCond .ne 6, 16, 19, 0)), (16, (.bipush (-2), 18, 0, (-2))), (18, (.ireturn, 19, 0, 0)), (19, (.iload_n 2, 20, 0, 0)), (20, (.iconst (-1), 21, 0, (-1))), (21, (.if_icmp .ne 16, 24, 37, 0)), (24, (.aload_n 0, 25, 0, 0)), (25, (.getfield 34, 28, 0, 0)), (28, (.iload_n 1, 29, 0, 0)), (29, (.aaload, 30, 0, 0)), (30, (.iconst (-1), 31, 0, (-1))), (31, (.iconst 0, 32, 0, 0)), (32, (.invokevirtual 259, 35, 0, 0)), (35, (.iconst 1, 36, 0, 1)), (36, (.ireturn, 37, 0, 0)), (37, (.iload_n 3, 38, 0, 0)), (38, (.bipush 40, 40, 0, 40)), (40, (.if_icmp .le 6, 43, 46, 0)), (43, (.bipush (-2), 45, 0, (-2))), (45, (.ireturn, 46, 0, 0)), (46, (.iload_n 3, 47, 0, 0)), (47, (.ifCond .ge 6, 50, 53, 0)), (50, (.bipush (-14), 52, 0, (-14))), (52, (.ireturn, 53, 0, 0)), (53, (.aload_n 0, 54, 0, 0)), (54, (.getfield 34, 57, 0, 0)), (57, (.iload_n 1, 58, 0, 0)), (58, (.aaload, 59, 0, 0)), (59, (.iload_n 2, 60, 0, 0)), (60, (.iload_n 3, 61, 0, 0)), (61, (.invokevirtual 259, 64, 0, 0)), (64, (.iconst 1, 65, 0, 1)), (65, (.ireturn, 66, 0, 0))]
def vtb92 : List (Nat × vI) := [(0, (.iload_n 1, 1, 0, 0)), (1, (.invokestatic 224, 4, 0, 0)), (4, (.ifCond .ne 6, 7, 10, 0)), (7, (.bipush (-2), 9, 0, (-2))), (9, (.ireturn, 10, 0, 0)), (10, (.aload_n 0, 11, 0, 0)), (11, (.getfield 34, 14, 0, 0)), (14, (.iload_n 1, 15, 0, 0)), (15, (.aaload, 16, 0, 0)), (16, (.astore 4, 18, 0, 0)), (18, (.aload 4, 20, 0, 0)), (20, (.getfield 227, 23, 0, 0)), (23, (.iconst (-1), 24, 0, (-1))), (24, (.if_icmp .ne 6, 27, 30, 0)), (27, (.bipush (-11), 29, 0, (-11))), (29, (.ireturn, 30, 0, 0)), (30, (.iload_n 2, 31, 0, 0)), (31, (.ifCond .lt 12, 34, 43, 0)), (34, (.iload_n 2, 35, 0, 0)), (35, (.aload 4, 37, 0, 0)), (37, (.getfield 230, 40, 0, 0)), (40, (.if_icmp .lt 6, 43, 46, 0)), (43, (.bipush (-12), 45, 0, (-12))), (45, (.ireturn, 46, 0, 0)), (46, (.aload 4, 48, 0, 0)), (48, (.iload_n 2, 49, 0, 0)), (49, (.iload_n 3, 50, 0, 0)), (50, (.invokevirtual 263, 53, 0, 0)), (53, (.iconst 1, 54, 0, 1)), (54, (.ireturn, 55, 0, 0))]
def vtb93 : List (Nat × vI) := [(0, (.iload_n 1, 1, 0, 0)), (1, (.invokestatic 224, 4, 0, 0)), (4, (.ifCond .eq 10, 7, 14, 0)), (7, (.iload_n 3, 8, 0, 0)), (8, (.invokestatic 224, 11, 0, 0)), (11, (.ifCond .ne 6, 14, 17, 0)), (14, (.bipush (-2), 16, 0, (-2))), (16, (.ireturn, 17, 0, 0)), (17, (.aload_n 0, 18, 0, 0)), (18, (.getfield 34, 21, 0, 0)), (21, (.iload_n 1, 22, 0, 0)), (22, (.aaload, 23, 0, 0)), (23, (.astore 6, 25, 0, 0)), (25, (.aload_n 0, 26, 0, 0)), (26, (.getfield 34, 29, 0, 0)), (29, (.iload_n 3, 30, 0, 0)), (30, (.aaload, 31, 0, 0)), (31, (.astore 7, 33, 0, 0)), (33, (.aload 6, 35, 0, 0)), (35, (.getfield 227, 38, 0, 0)), (38, (.iconst (-1), 39, 0, (-1))), (39, (.if_icmp .eq 12, 42, 51, 0)), (42, (.aload 7, 44, 0, 0)), (44, (.getfield 227, 47, 0, 0)), (47, (.iconst (-1), 48, 0, (-1))), (48, (.if_icmp .ne 6, 51, 54, 0)), (51, (.bipush (-11), 53, 0, (-11))), (53, (.ireturn, 54, 0, 0)), (54, (.aload 6, 56, 0, 0)), (56, (.getfield 227, 59, 0, 0)), (59, (.aload 7, 61, 0, 0)), (61, (.getfield 227, 64, 0, 0)), (64, (.if_icmp .eq 6, 67, 70, 0)), (67, (.bipush (-13), 69, 0, (-13))), (69, (.ireturn, 70, 0, 0)), (70, (.aload 6, 72, 0, 0)), (72, (.iload_n 2, 73, 0, 0)), (73, (.iload 5, 75, 0, 0)), (75, (.invokevirtual 285, 78, 0, 0)), (78, (.ifCond .eq 15, 81, 93, 0)), (81, (.aload 7, 83, 0, 0)), (83, (.iload 4, 85, 0, 0)), (85, (.iload 5, 87, 0, 0)), (87, (.invokevirtual 285, 90, 0, 0)), (90, (.ifCond .ne 6, 93, 96, 0)), (93, (.bipush (-12), 95, 0, (-12))), (95, (.ireturn, 96, 0, 0)), (96, (.aload 6, 98, 0, 0)), (98, (.getfield 289, 101, 0, 0)), (101, (.iload_n 2, 102, 0, 0)), (102, (.aload 7, 104, 0, 0)), (104, (.getfield 289, 107, 0, 0)), (107, (.iload 4, 109, 0, 0)), (109, (.iload 5, 111, 0, 0)), (111, (.invokestatic 292, 114, 0, 0)), (114, (.iload 5, 116, 0, 0)), (116, (.ireturn, 117, 0, 0))]
def vtb94 : List (Nat × vI) := [(0, (.iload_n 1, 1, 0, 0)), (1, (.invokestatic 224, 4, 0, 0)), (4, (.ifCond .eq 23, 7, 27, 0)), (7, (.iload_n 2, 8, 0, 0)), (8, (.iconst 0, 9, 0, 0)), (9, (.iconst 2, 10, 0, 2)), (10, (.invokestatic 104, 13, 0, 0)), (13, (.ifCond .eq 14, 16, 27, 0)), (16, (.iload 4, 18, 0, 0)), (18, (.iconst 0, 19, 0, 0)), (19, (.bipush 6, 21, 0, 6)), (21, (.invokestatic 104, 24, 0, 0)), (24, (.ifCond .ne 6, 27, 30, 0)), (27, (.bipush (-2), 29, 0, (-2))), (29, (.ireturn, 30, 0, 0)), (30, (.aload_n 0, 31, 0, 0)), (31, (.getfield 34, 34, 0, 0)), (34, (.iload_n 1, 35, 0, 0)), (35, (.aaload, 36, 0, 0)), (36, (.astore 5, 38, 0, 0)), (38, (.aload 5, 40, 0, 0)), (40, (.getfield 227, 43, 0, 0)), (43, (.iconst (-1), 44, 0, (-1))), (44, (.if_icmp .eq 15, 47, 59, 0)), (47, (.aload 5, 49, 0, 0)), (49, (.getfield 227, 52, 0, 0)), (52, (.iload_n 2, 53, 0, 0)), (53, (.if_icmp .eq 6, 56, 59, 0)), (56, (.bipush (-13), 58, 0, (-13))), (58, (.ireturn, 59, 0, 0)), (59, (.aload 5, 61, 0, 0)), (61, (.getfield 227, 64, 0, 0)), (64, (.iconst (-1), 65, 0, (-1))), (65, (.if_icmp .ne 6, 68, 71, 0)), (68, (.bipush (-11), 70, 0, (-11))), (70, (.ireturn, 71, 0, 0)), (71, (.iconst 0, 72, 0, 0)), (72, (.istore 6, 74, 0, 0)), (74, (.iconst 0, 75, 0, 0)), (75, (.istore 7, 77, 0, 0)), (77, (.iload 7, 79, 0, 0)), (79, (.iload 4, 81, 0, 0)), (81, (.if_icmp .ge 66, 84, 147, 0)), (84, (.iload_n 3, 85, 0, 0)), (85, (.iconst 3, 86, 0, 3)), (86, (.iload 7, 88, 0, 0)), (88, (.imul, 89, 0, 0)), (89, (.iadd, 90, 0, 0)), (90, (.istore 8, 92, 0, 0)), (92, (.aload 5, 94, 0, 0)), (94, (.iload 8, 96, 0, 0)), (96, (.iconst 3, 97, 0, 3)), (97, (.invokevirtual 285, 100, 0, 0)), (100, (.ifCond .ne 6, 103, 106, 0)), (103, (.bipush (-12), 105, 0, (-12))), (105, (.ireturn, 106, 0, 0)), (106, (.aload_n 0, 107, 0, 0)), (107, (.aload 5, 109, 0, 0)), (109, (.iload 8, 111, 0, 0)), (111, (.invokevirtual 256, 114, 0, 0)), (114, (.aload 5, 116, 0, 0)), (116, (.iload 8, 118, 0, 0)), (118, (.iconst 1, 119, 0, 1)), (119, (.iadd, 120, 0, 0)), (120, (.invokevirtual 256, 123, 0, 0)), (123, (.aload 5, 125, 0, 0)), (125, (.iload 8, 127, 0, 0)), (127, (.iconst 2, 128, 0, 2)), (128, (.iadd, 129, 0, 0)), (129, (.invokevirtual 256, 132, 0, 0)), (132, (.invokevirtual 298, 135, 0, 0)), (135, (.ifCond .lt 6, 138, 141, 0)), (138, (.iinc 6 1, 141, 0, 1)), (141, (.iinc 7 1, 144, 0, 1)), (144, (.goto (-67), 147, 77, 0)), (147, (.iload 6, 149, 0, 0)), (149, (.ireturn, 150, 0, 0))]
def vtb95 : List (Nat × vI) := [(0, (.iload_n 2, 1, 0, 0)), (1, (.iconst 0, 2, 0, 0)), (2, (.iconst 5, 3, 0, 5)), (3, (.invokestatic 104, 6, 0, 0)), (6, (.ifCond .ne 6, 9, 12, 0)), (9, (.bipush (-2), 11, 0, (-2))), (11, (.ireturn, 12, 0, 0)), (12, (.aload_n 0, 13, 0, 0)), (13, (.iload_n 1, 14, 0, 0)), (14, (.invokevirtual 116, 17, 0, 0)), (17, (.ifCond .ne 6, 20, 23, 0)), (20, (.bipush (-11), 22, 0, (-11))), (22, (.ireturn, 23, 0, 0)), (23, (.aload_n 0, 24, 0, 0)), (24, (.getfield 10, 27, 0, 0)), (27, (.getfield 150, 30, 0, 0)), (30, (.iload_n 1, 31, 0, 0)), (31, (.iaload, 32, 0, 0)), (32, (.istore_n 3, 33, 0, 0)), (33, (.iconst 0, 34, 0, 0)), (34, (.istore 4, 36, 0, 0)), (36, (.iload 4, 38, 0, 0)), (38, (.bipush 6, 40, 0, 6)), (40, (.if_icmp .ge 42, 43, 82, 0)), (43, (.iload_n 3, 44, 0, 0)), (44, (.ifCond .lt 38, 47, 82, 0)), (47, (.iload_n 3, 48, 0, 0)), (48, (.getstatic 301, 51, 0, 0)), (51, (.arraylength, 52, 0, 0)), (52, (.if_icmp .ge 30, 55, 82, 0)), (55, (.iload_n 3, 56, 0, 0)), (56, (.iload_n 2, 57, 0, 0)), (57, (.if_icmp .ne 13, 60, 70, 0)), (60, (.aload_n 0, 61, 0, 0)), (61, (.getfield 10, 64, 0, 0)), (64, (.getfield 138, 67, 0, 0)), (67, (.iload_n 1, 68, 0, 0)), (68, (.iaload, 69, 0, 0)), (69, (.ireturn, 70, 0, 0)), (70, (.getstatic 301, 73, 0, 0)), (73, (.iload_n 3, 74, 0, 0)), (74, (.iaload, 75, 0, 0)), (75, (.istore_n 3, 76, 0, 0)), (76, (.iinc 4 1, 79, 0, 1)), (79, (.goto (-43), 82, 36, 0)), (82, (.bipush (-13), 84, 0, (-13))), (84, (.ireturn, 85, 0, 0))]
def vtb96 : List (Nat × vI) := [(0, (.iload_n 0, 1, 0, 0)), (1, (.iload_n 1, 2, 0, 0)), (2, (.if_icmp .lt 12, 5, 14, 0)), (5, (.iload_n 0, 6, 0, 0)), (6, (.iload_n 2, 7, 0, 0)), (7, (.if_icmp .gt 7, 10, 14, 0)), (10, (.iconst 1, 11, 0, 1)), (11, (.goto 4, 14, 15, 0)), (14, (.iconst 0, 15, 0, 0)), (15, (.ireturn, 16, 0, 0))]
def vtb97 : List (Nat × vI) := [(0, (.iload_n 0, 1, 0, 0)), (1, (.ifCond .lt 12, 4, 13, 0)), (4, (.iload_n 0, 5, 0, 0)), (5, (.iconst 5, 6, 0, 5)), (6, (.if_icmp .ge 7, 9, 13, 0)), (9, (.iconst 1, 10, 0, 1)), (10, (.goto 4, 13, 14, 0)), (13, (.iconst 0, 14, 0, 0)), (14, (.ireturn, 15, 0, 0))]
def vtb98 : List (Nat × vI) := [(0, (.iload_n 0, 1, 0, 0)), (1, (.ifCond .lt 12, 4, 13, 0)), (4, (.iload_n 0, 5, 0, 0)), (5, (.iconst 4, 6, 0, 4)), (6, (.if_icmp .ge 7, 9, 13, 0)), (9, (.iconst 1, 10, 0, 1)), (10, (.goto 4, 13, 14, 0)), (13, (.iconst 0, 14, 0, 0)), (14, (.ireturn, 15, 0, 0))]
def vtb99 : List (Nat × vI) := [(0, (.iload_n 1, 1, 0, 0)), (1, (.ifCond .lt 24, 4, 25, 0)), (4, (.iload_n 1, 5, 0, 0)), (5, (.aload_n 0, 6, 0, 0)), (6, (.getfield 10, 9, 0, 0)), (9, (.getfield 153, 12, 0, 0)), (12, (.if_icmp .ge 13, 15, 25, 0)), (15, (.iload_n 1, 16, 0, 0)), (16, (.bipush 6, 18, 0, 6)), (18, (.if_icmp .ge 7, 21, 25, 0)), (21, (.iconst 1, 22, 0, 1)), (22, (.goto 4, 25, 26, 0)), (25, (.iconst 0, 26, 0, 0)), (26, (.ireturn, 27, 0, 0))]
def vtb100 : List (Nat × vI) := [(0, (.iload_n 1, 1, 0, 0)), (1, (.ifCond .lt 21, 4, 22, 0)), (4, (.iload_n 1, 5, 0, 0)), (5, (.aload_n 0, 6, 0, 0)), (6, (.getfield 21, 9, 0, 0)), (9, (.arraylength, 10, 0, 0)), (10, (.if_icmp .ge 12, 13, 22, 0)), (13, (.aload_n 0, 14, 0, 0)), (14, (.getfield 21, 17, 0, 0)), (17, (.iload_n 1, 18, 0, 0)), (18, (.aaload, 19, 0, 0)), (19, (.goto 9, 22, 28, 0)), (22, (.aload_n 0, 23, 0, 0)), (23, (.getfield 21, 26, 0, 0)), (26, (.iconst 0, 27, 0, 0)), (27, (.aaload, 28, 0, 0)), (28, (.areturn, 29, 0, 0))]
def vtb101 : List (Nat × vI) := [(0, (.aload_n 0, 1, 0, 0)), (1, (.getfield 56, 4, 0, 0)), (4, (.aload_n 0, 5, 0, 0)), (5, (.getfield 10, 8, 0, 0)), (8, (.iload_n 1, 9, 0, 0)), (9, (.aload_n 0, 10, 0, 0)), (10, (.aload_n 0, 11, 0, 0)), (11, (.getfield 10, 14, 0, 0)), (14, (.getfield 159, 17, 0, 0)), (17, (.invokevirtual 246, 20, 0, 0)), (20, (.invokevirtual 304, 23, 0, 0)), (23, (.return_, 24, 0, 0))]
def vtb102 : List (Nat × vI) := [(0, (.aload_n 0, 1, 0, 0)), (1, (.iload_n 1, 2, 0, 0)), (2, (.invokevirtual 132, 5, 0, 0)), (5, (.aload_n 0, 6, 0, 0)), (6, (.getfield 56, 9, 0, 0)), (9, (.iload_n 2, 10, 0, 0)), (10, (.putfield 194, 13, 0, 0)), (13, (.aload_n 0, 14, 0, 0)), (14, (.getfield 56, 17, 0, 0)), (17, (.invokevirtual 195, 20, 0, 0)), (20, (.aload_n 0, 21, 0, 0)), (21, (.getfield 10, 24, 0, 0)), (24, (.getfield 126, 27, 0, 0)), (27, (.iload_n 1, 28, 0, 0)), (28, (.iaload, 29, 0, 0)), (29, (.isub, 30, 0, 0)), (30, (.iconst 0, 31, 0, 0)), (31, (.invokestatic 215, 34, 0, 0)), (34, (.ireturn, 35, 0, 0))]
def vtb103 : List (Nat × vI) := [(0, (.iconst 0, 1, 0, 0)), (1, (.istore_n 2, 2, 0, 0)), (2, (.iconst 0, 3, 0, 0)), (3, (.istore_n 3, 4, 0, 0)), (4, (.iload_n 3, 5, 0, 0)), (5, (.iconst 5, 6, 0, 5)), (6, (.if_icmp .ge 18, 9, 24, 0)), (9, (.iload_n 2, 10, 0, 0)), (10, (.aload_n 0, 11, 0, 0)), (11, (.iload_n 3, 12, 0, 0)), (12, (.iload_n 1, 13, 0, 0)), (13, (.invokevirtual 129, 16, 0, 0)), (16, (.iadd, 17, 0, 0)), (17, (.istore_n 2, 18, 0, 0)), (18, (.iinc 3 1, 21, 0, 1)), (21, (.goto (-17), 24, 4, 0)), (24, (.iload_n 2, 25, 0, 0)), (25, (.ireturn, 26, 0, 0))]
def vtb104 : List (Nat × vI) := [(0, (.lload_n 0, 1, 0, 0)), (1, (.lload_n 2, 2, 0, 0)), (2, (.lcmp, 3, 0, 0)), (3, (.ifCond .lt 14, 6, 17, 0)), (6, (.lload_n 0, 7, 0, 0)), (7, (.lload 4, 9, 0, 0)), (9, (.lcmp, 10, 0, 0)), (10, (.ifCond .gt 7, 13, 17, 0)), (13, (.iconst 1, 14, 0, 1)), (14, (.goto 4, 17, 18, 0)), (17, (.iconst 0, 18, 0, 0)), (18, (.ireturn, 19, 0, 0))]
def vtb105 : List (Nat × vI) := [(0, (.iload_n 0, 1, 0, 0)), (1, (.iload_n 1, 2, 0, 0)), (2, (.if_icmp .ge 7, 5, 9, 0)), (5, (.iload_n 1, 6, 0, 0)), (6, (.goto 13, 9, 19, 0)), (9, (.iload_n 0, 10, 0, 0)), (10, (.iload_n 2, 11, 0, 0)), (11, (.if_icmp .le 7, 14, 18, 0)), (14, (.iload_n 2, 15, 0, 0)), (15, (.goto 4, 18, 19, 0)), (18, (.iload_n 0, 19, 0, 0)), (19, (.ireturn, 20, 0, 0))]
def vtb106 : List (Nat × vI) := [(0, (.iload_n 0, 1, 0, 0)), (1, (.iload_n 1, 2, 0, 0)), (2, (.if_icmp .le 9, 5, 11, 0)), (5, (.iload_n 0, 6, 0, 0)), (6, (.iload_n 1, 7, 0, 0)), (7, (.isub, 8, 0, 0)), (8, (.goto 6, 11, 14, 0)), (11, (.iload_n 1, 12, 0, 0)), (12, (.iload_n 0, 13, 0, 0)), (13, (.isub, 14, 0, 0)), (14, (.ireturn, 15, 0, 0))]
def vtb107 : List (Nat × vI) := [(0, (.aload_n 0, 1, 0, 0)), (1, (.invokespecial 7, 4, 0, 0)), (4, (.aload_n 0, 5, 0, 0)), (5, (.sipush 960, 8, 0, 960)), (8, (.newarray .int, 10, 0, 0)), (10, (.putfield 13, 13, 0, 0)), (13, (.aload_n 0, 14, 0, 0)), (14, (.bipush 6, 16, 0, 6)), (16, (.newarray .int, 18, 0, 0)), (18, (.putfield 17, 21, 0, 0)), (21, (.aload_n 0, 22, 0, 0)), (22, (.sipush 160, 25, 0, 160)), (25, (.newarray .int, 27, 0, 0)), (27, (.putfield 20, 30, 0, 0)), (30, (.aload_n 0, 31, 0, 0)), (31, (.bipush 6, 33, 0, 6)), (33, (.newarray .int, 35, 0, 0)), (35, (.putfield 23, 38, 0, 0)), (38, (.aload_n 0, 39, 0, 0)), (39, (.bipush 6, 41, 0, 6)), (41, (.newarray .int, 43, 0, 0)), (43, (.putfield 26, 46, 0, 0)), (46, (.aload_n 0, 47, 0, 0)), (47, (.bipush 6, 49, 0, 6)), (49, (.newarray .int, 51, 0, 0)), (51, (.putfield 29, 54, 0, 0)), (54, (.aload_n 0, 55, 0, 0)), (55, (.bipush 30, 57, 0, 30)), (57, (.newarray .int, 59, 0, 0)), (59, (.putfield 32, 62, 0, 0)), (62, (.aload_n 0, 63, 0, 0)), (63, (.iconst 5, 64, 0, 5)), (64, (.newarray .int, 66, 0, 0)), (66, (.putfield 35, 69, 0, 0)), (69, (.aload_n 0, 70, 0, 0)), (70, (.iconst 5, 71, 0, 5)), (71, (.newarray .int, 73, 0, 0)), (73, (.putfield 38, 76, 0, 0)), (76, (.aload_n 0, 77, 0, 0)), (77, (.iconst 4, 78, 0, 4)), (78, (.newarray .int, 80, 0, 0)), (80, (.putfield 41, 83, 0, 0)), (83, (.aload_n 0, 84, 0, 0)), (84, (.iconst 4, 85, 0, 4)), (85, (.newarray .int, 87, 0, 0)), (87, (.putfield 44, 90, 0, 0)), (90, (.aload_n 0, 91, 0, 0)), (91, (.sipush 4000, 94, 0, 4000)), (94, (.newarray .int, 96, 0, 0)), (96, (.putfield 47, 99, 0, 0)), (99, (.aload_n 0, 100, 0, 0)), (100, (.bipush 6, 102, 0, 6)), (102, (.newarray .int, 104, 0, 0)), (104, (.putfield 50, 107, 0, 0)), (107, (.aload_n 0, 108, 0, 0)), (108, (.bipush 6, 110, 0, 6)), (110, (.newarray .int, 112, 0, 0)), (112, (.putfield 53, 115, 0, 0)), (115, (.aload_n 0, 116, 0, 0)), (116, (.bipush 6, 118, 0, 6)), (118, (.newarray .int, 120, 0, 0)), (120, (.putfield 56, 123, 0, 0)), (123, (.aload_n 0, 124, 0, 0)), (124, (.bipush 30, 126, 0, 30)), (126, (.newarray .int, 128, 0, 0)), (128, (.putfield 59, 131, 0, 0)), (131, (.aload_n 0, 132, 0, 0)), (132, (.iconst 5, 133, 0, 5)), (133, (.newarray .int, 135, 0, 0)), (135, (.putfield 62, 138, 0, 0)), (138, (.aload_n 0, 139, 0, 0)), (139, (.iconst 5, 140, 0, 5)), (140, (.newarray .int, 142, 0, 0)), (142, (.putfield 65, 145, 0, 0)), (145, (.aload_n 0, 146, 0, 0)), (146, (.iconst 4, 147, 0, 4)), (147, (.newarray .int, 149, 0, 0)), (149, (.putfield 68, 152, 0, 0)), (152, (.aload_n 0, 153, 0, 0)), (153, (.iconst 4, 154, 0, 4)), (154, (.newarray .int, 156, 0, 0)), (156, (.putfield 71, 159, 0, 0)), (159, (.aload_n 0, 160, 0, 0)), (160, (.iconst (-1), 161, 0, (-1))), (161, (.putfield 74, 164, 0, 0)), (164, (.aload_n 0, 165, 0, 0)), (165, (.iconst 4, 166, 0, 4)), (166, (.newarray .boolean, 168, 0, 0)), (168, (.putfield 77, 171, 0, 0)), (171, (.aload_n 0, 172, 0, 0)), (172, (.iconst 4, 173, 0, 4)), (173, (.newarray .int, 175, 0, 0)), (175, (.putfield 81, 178, 0, 0)), (178, (.aload_n 0, 179, 0, 0)), (179, (.iconst 4, 180, 0, 4)), (180, (.newarray .int, 182, 0, 0)), (182, (.putfield 84, 185, 0, 0)), (185, (.aload_n 0, 186, 0, 0)), (186, (.sipush 160, 189, 0, 160)), (189, (.newarray .int, 191, 0, 0)), (191, (.putfield 87, 194, 0, 0)), (194, (.aload_n 0, 195, 0, 0)), (195, (.getfield 41, 198, 0, 0)), (198, (.iconst 0, 199, 0, 0)), (199, (.iconst 1, 200, 0, 1)), (200, (.iastore, 201, 0, 0)), (201, (.aload_n 0, 202, 0, 0)), (202, (.getfield 41, 205, 0, 0)), (205, (.iconst 1, 206, 0, 1)), (206, (.iconst 5, 207, 0, 5)), (207, (.iastore, 208, 0, 0)), (208, (.aload_n 0, 209, 0, 0)), (209, (.getfield 41, 212, 0, 0)), (212, (.iconst 2, 213, 0, 2)), (213, (.bipush 10, 215, 0, 10)), (215, (.iastore, 216, 0, 0)), (216, (.aload_n 0, 217, 0, 0)), (217, (.getfield 41, 220, 0, 0)), (220, (.iconst 3, 221, 0, 3)), (221, (.bipush 50, 223, 0, 50)), (223, (.iastore, 224, 0, 0)), (224, (.aload_n 0, 225, 0, 0)), (225, (.iconst 0, 226, 0, 0)), (226, (.bipush 100, 228, 0, 100)), (228, (.bipush 117, 230, 0, 117)), (230, (.bipush 101, 232, 0, 101)), (232, (.bipush 115, 234, 0, 115)), (234, (.bipush 32, 236, 0, 32)), (236, (.bipush 121, 238, 0, 121)), (238, (.bipush 101, 240, 0, 101)), (240, (.bipush 97, 242, 0, 97)), (242, (.invokevirtual 90, 245, 0, 0)), (245, (.aload_n 0, 246, 0, 0)), (246, (.bipush 8, 248, 0, 8)), (248, (.bipush 114, 250, 0, 114)), (250, (.bipush 115, 252, 0, 115)), (252, (.bipush 32, 254, 0, 32)), (254, (.bipush 59, 256, 0, 59)), (256, (.bipush 32, 258, 0, 32)), (258, (.bipush 111, 260, 0, 111)), (260, (.bipush 102, 262, 0, 102)), (262, (.bipush 102, 264, 0, 102)), (264, (.invokevirtual 90, 267, 0, 0)), (267, (.aload_n 0, 268, 0, 0)), (268, (.bipush 16, 270, 0, 16)), (270, (.bipush 115, 272, 0, 115)), (272, (.bipush 32, 274, 0, 32)), (274, (.bipush 48, 276, 0, 48)), (276, (.bipush 32, 278, 0, 32)), (278, (.bipush 59, 280, 0, 59)), (280, (.bipush 32, 282, 0, 32)), (282, (.bipush 101, 284, 0, 101)), (284, (.bipush 120, 286, 0, 120)), (286, (.invokevirtual 90, 289, 0, 0)), (289, (.aload_n 0, 290, 0, 0)), (290, (.bipush 24, 292, 0, 24)), (292, (.bipush 116, 294, 0, 116)), (294, (.bipush 114, 296, 0, 114)), (296, (.bipush 97, 298, 0, 97)), (298, (.bipush 115, 300, 0, 115)), (300, (.bipush 32, 302, 0, 32)), (302, (.bipush 51, 304, 0, 51)), (304, (.bipush 32, 306, 0, 32)), (306, (.bipush 59, 308, 0, 59)), (308, (.invokevirtual 90, 311, 0, 0)), (311, (.aload_n 0, 312, 0, 0)), (312, (.getfield 17, 315, 0, 0)), (315, (.iconst 0, 316, 0, 0)), (316, (.bipush 32, 318, 0, 32)), (318, (.iastore, 319, 0, 0)), (319, (.aload_n 0, 320, 0, 0)), (320, (.iconst 1, 321, 0, 1)), (321, (.putfield 94, 324, 0, 0)), (324, (.return_, 325, 0, 0))]
def vtb108 : List (Nat × vI) := [(0, (.aload_n 0, 1, 0, 0)), (1, (.getfield 13, 4, 0, 0)), (4, (.iload_n 1, 5, 0, 0)), (5, (.iload_n 2, 6, 0, 0)), (6, (.iastore, 7, 0, 0)), (7, (.aload_n 0, 8, 0, 0)), (8, (.getfield 13, 11, 0, 0)), (11, (.iload_n 1, 12, 0, 0)), (12, (.iconst 1, 13, 0, 1)), (13, (.iadd, 14, 0, 0)), (14, (.iload_n 3, 15, 0, 0)), (15, (.iastore, 16, 0, 0)), (16, (.aload_n 0, 17, 0, 0)), (17, (.getfield 13, 20, 0, 0)), (20, (.iload_n 1, 21, 0, 0)), (21, (.iconst 2, 22, 0, 2)), (22, (.iadd, 23, 0, 0)), (23, (.iload 4, 25, 0, 0)), (25, (.iastore, 26, 0, 0)), (26, (.aload_n 0, 27, 0, 0)), (27, (.getfield 13, 30, 0, 0)), (30, (.iload_n 1, 31, 0, 0)), (31, (.iconst 3, 32, 0, 3)), (32, (.iadd, 33, 0, 0)), (33, (.iload 5, 35, 0, 0)), (35, (.iastore, 36, 0, 0)), (36, (.aload_n 0, 37, 0, 0)), (37, (.getfield 13, 40, 0, 0)), (40, (.iload_n 1, 41, 0, 0)), (41, (.iconst 4, 42, 0, 4)), (42, (.iadd, 43, 0, 0)), (43, (.iload 6, 45, 0, 0)), (45, (.iastore, 46, 0, 0)), (46, (.aload_n 0, 47, 0, 0)), (47, (.getfield 13, 50, 0, 0)), (50, (.iload_n 1, 51, 0, 0)), (51, (.iconst 5, 52, 0, 5)), (52, (.iadd, 53, 0, 0)), (53, (.iload 7, 55, 0, 0)), (55, (.iastore, 56, 0, 0)), (56, (.aload_n 0, 57, 0, 0)), (57, (.getfield 13, 60, 0, 0)), (60, (.iload_n 1, 61, 0, 0)), (61, (.bipush 6, 63, 0, 6)), (63, (.iadd, 64, 0, 0)), (64, (.iload 8, 66, 0, 0)), (66, (.iastore, 67, 0, 0)), (67, (.aload_n 0, 68, 0, 0)), (68, (.getfield 13, 71, 0, 0)), (71, (.iload_n 1, 72, 0, 0)), (72, (.bipush 7, 74, 0, 7)), (74, (.iadd, 75, 0, 0)), (75, (.iload 9, 77, 0, 0)), (77, (.iastore, 78, 0, 0)), (78, (.return_, 79, 0, 0))]
def vtb109 : List (Nat × vI) := [(0, (.iload_n 1, 1, 0, 0)), (1, (.i2l, 2, 0, 0)), (2, (.lconst 0, 3, 0, 0)), (3, (.aload_n 0, 4, 0, 0)), (4, (.getfield 97, 7, 0, 0)), (7, (.iconst 1, 8, 0, 1)), (8, (.isub, 9, 0, 0)), (9, (.i2l, 10, 0, 0)), (10, (.invokestatic 100, 13, 0, 0)), (13, (.ireturn, 14, 0, 0))]
def vtb110 : List (Nat × vI) := [(0, (.iload_n 0, 1, 0, 0)), (1, (.i2l, 2, 0, 0)), (2, (.lconst 0, 3, 0, 0)), (3, (.ldc2_w 104, 6, 0, 0)), (6, (.invokestatic 100, 9, 0, 0)), (9, (.ireturn, 10, 0, 0))]
def vtb111 : List (Nat × vI) := [(0, (.iload_n 1, 1, 0, 0)), (1, (.ifCond .ne 5, 4, 6, 0)), (4, (.iconst 1, 5, 0, 1)), (5, (.ireturn, 6, 0, 0)), (6, (.iload_n 1, 7, 0, 0)), (7, (.iconst 3, 8, 0, 3)), (8, (.if_icmp .lt 9, 11, 17, 0)), (11, (.iload_n 1, 12, 0, 0)), (12, (.bipush 6, 14, 0, 6)), (14, (.if_icmp .ne 11, 17, 25, 0)), (17, (.aload_n 0, 18, 0, 0)), (18, (.iload_n 2, 19, 0, 0)), (19, (.invokevirtual 106, 22, 0, 0)), (22, (.goto 29, 25, 51, 0)), (25, (.iload_n 1, 26, 0, 0)), (26, (.iconst 4, 27, 0, 4)), (27, (.if_icmp .eq 8, 30, 35, 0)), (30, (.iload_n 1, 31, 0, 0)), (31, (.iconst 5, 32, 0, 5)), (32, (.if_icmp .ne 15, 35, 47, 0)), (35, (.iload_n 2, 36, 0, 0)), (36, (.i2l, 37, 0, 0)), (37, (.lconst 0, 38, 0, 0)), (38, (.ldc2_w 110, 41, 0, 0)), (41, (.invokestatic 100, 44, 0, 0)), (44, (.goto 7, 47, 51, 0)), (47, (.iload_n 2, 48, 0, 0)), (48, (.invokestatic 112, 51, 0, 0)), (51, (.ireturn, 52, 0, 0))]
def vtb112 : List (Nat × vI) := [(0, (.iload_n 0, 1, 0, 0)), (1, (.ifCond .ne 9, 4, 10, 0)), (4, (.sipush 4095, 7, 0, 4095)), (7, (.goto 36, 10, 43, 0)), (10, (.iload_n 0, 11, 0, 0)), (11, (.iconst 1, 12, 0, 1)), (12, (.if_icmp .ne 8, 15, 20, 0)), (15, (.bipush 9, 17, 0, 9)), (17, (.goto 26, 20, 43, 0)), (20, (.iload_n 0, 21, 0, 0)), (21, (.iconst 2, 22, 0, 2)), (22, (.if_icmp .ne 9, 25, 31, 0)), (25, (.sipush 999, 28, 0, 999)), (28, (.goto 15, 31, 43, 0)), (31, (.iload_n 0, 32, 0, 0)), (32, (.iconst 5, 33, 0, 5)), (33, (.if_icmp .ne 8, 36, 41, 0)), (36, (.bipush 20, 38, 0, 20)), (38, (.goto 5, 41, 43, 0)), (41, (.bipush 99, 43, 0, 99)), (43, (.ireturn, 44, 0, 0))]
def vtb113 : List (Nat × vI) := [(0, (.iload_n 1, 1, 0, 0)), (1, (.i2l, 2, 0, 0)), (2, (.lconst 0, 3, 0, 0)), (3, (.ldc2_w 115, 6, 0, 0)), (6, (.invokestatic 100, 9, 0, 0)), (9, (.ifCond .eq 40, 12, 49, 0)), (12, (.aload_n 0, 13, 0, 0)), (13, (.iload_n 1, 14, 0, 0)), (14, (.iload_n 2, 15, 0, 0)), (15, (.invokevirtual 117, 18, 0, 0)), (18, (.ifCond .eq 31, 21, 49, 0)), (21, (.iload_n 3, 22, 0, 0)), (22, (.i2l, 23, 0, 0)), (23, (.iload_n 1, 24, 0, 0)), (24, (.iconst 2, 25, 0, 2)), (25, (.if_icmp .eq 8, 28, 33, 0)), (28, (.iload_n 1, 29, 0, 0)), (29, (.iconst 4, 30, 0, 4)), (30, (.if_icmp .ne 7, 33, 37, 0)), (33, (.lconst 1, 34, 0, 0)), (34, (.goto 4, 37, 38, 0)), (37, (.lconst 0, 38, 0, 0)), (38, (.iload_n 1, 39, 0, 0)), (39, (.invokestatic 121, 42, 0, 0)), (42, (.i2l, 43, 0, 0)), (43, (.invokestatic 100, 46, 0, 0)), (46, (.ifCond .ne 6, 49, 52, 0)), (49, (.bipush (-2), 51, 0, (-2))), (51, (.ireturn, 52, 0, 0)), (52, (.aload_n 0, 53, 0, 0)), (53, (.iload_n 2, 54, 0, 0)), (54, (.iload_n 1, 55, 0, 0)), (55, (.invokevirtual 125, 58, 0, 0)), (58, (.istore 4, 60, 0, 0)), (60, (.aload_n 0, 61, 0, 0)), (61, (.iload_n 1, 62, 0, 0)), (62, (.iload_n 2, 63, 0, 0)), (63, (.iload_n 3, 64, 0, 0)), (64, (.invokevirtual 129, 67, 0, 0)), (67, (.iload 4, 69, 0, 0)), (69, (.ireturn, 70, 0, 0))]
def vtb114 : List (Nat × vI) := [(0, (.iload_n 1, 1, 0, 0)), (1, (.ifCond .ne 11, 4, 12, 0)), (4, (.aload_n 0, 5, 0, 0)), (5, (.iload_n 3, 6, 0, 0)), (6, (.putfield 133, 9, 0, 0)), (9, (.goto 99, 12, 108, 0)), (12, (.iload_n 1, 13, 0, 0)), (13, (.iconst 1, 14, 0, 1)), (14, (.if_icmp .ne 13, 17, 27, 0)), (17, (.aload_n 0, 18, 0, 0)), (18, (.getfield 26, 21, 0, 0)), (21, (.iload_n 2, 22, 0, 0)), (22, (.iload_n 3, 23, 0, 0)), (23, (.iastore, 24, 0, 0)), (24, (.goto 84, 27, 108, 0)), (27, (.iload_n 1, 28, 0, 0)), (28, (.iconst 2, 29, 0, 2)), (29, (.if_icmp .ne 13, 32, 42, 0)), (32, (.aload_n 0, 33, 0, 0)), (33, (.getfield 29, 36, 0, 0)), (36, (.iload_n 2, 37, 0, 0)), (37, (.iload_n 3, 38, 0, 0)), (38, (.iastore, 39, 0, 0)), (39, (.goto 69, 42, 108, 0)), (42, (.iload_n 1, 43, 0, 0)), (43, (.iconst 3, 44, 0, 3)), (44, (.if_icmp .ne 13, 47, 57, 0)), (47, (.aload_n 0, 48, 0, 0)), (48, (.getfield 35, 51, 0, 0)), (51, (.iload_n 2, 52, 0, 0)), (52, (.iload_n 3, 53, 0, 0)), (53, (.iastore, 54, 0, 0)), (54, (.goto 54, 57, 108, 0)), (57, (.iload_n 1, 58, 0, 0)), (58, (.iconst 4, 59, 0, 4)), (59, (.if_icmp .ne 13, 62, 72, 0)), (62, (.aload_n 0, 63, 0, 0)), (63, (.getfield 41, 66, 0, 0)), (66, (.iload_n 2, 67, 0, 0)), (67, (.iload_n 3, 68, 0, 0)), (68, (.iastore, 69, 0, 0)), (69, (.goto 39, 72, 108, 0)), (72, (.iload_n 1, 73, 0, 0)), (73, (.iconst 5, 74, 0, 5)), (74, (.if_icmp .ne 13, 77, 87, 0)), (77, (.aload_n 0, 78, 0, 0)), (78, (.getfield 44, 81, 0, 0)), (81, (.iload_n 2, 82, 0, 0)), (82, (.iload_n 3, 83, 0, 0)), (83, (.iastore, 84, 0, 0)), (84, (.goto 24, 87, 108, 0)), (87, (.iload_n 1, 88, 0, 0)), (88, (.bipush 6, 90, 0, 6)), (90, (.if_icmp .ne 13, 93, 103, 0)), (93, (.aload_n 0, 94, 0, 0)), (94, (.getfield 23, 97, 0, 0)), (97, (.iload_n 2, 98, 0, 0)), (98, (.iload_n 3, 99, 0, 0)), (99, (.iastore, 100, 0, 0)), (100, (.goto 8, 103, 108, 0)), (103, (.aload_n 0, 104, 0, 0)), (104, (.iload_n 3, 105, 0, 0)), (105, (.putfield 136, 108, 0, 0)), (108, (.return_, 109, 0, 0))]
def vtb115 : List (Nat × vI) := [(0, (.iload_n 1, 1, 0, 0)), (1, (.i2l, 2, 0, 0)), (2, (.lconst 0, 3, 0, 0)), (3, (.ldc2_w 115, 6, 0, 0)), (6, (.invokestatic 100, 9, 0, 0)), (9, (.ifCond .eq 27, 12, 36, 0)), (12, (.iload_n 2, 13, 0, 0)), (13, (.i2l, 14, 0, 0)), (14, (.lconst 0, 15, 0, 0)), (15, (.ldc2_w 139, 18, 0, 0)), (18, (.invokestatic 100, 21, 0, 0)), (21, (.ifCond .eq 15, 24, 36, 0)), (24, (.iload_n 3, 25, 0, 0)), (25, (.i2l, 26, 0, 0)), (26, (.lconst 1, 27, 0, 0)), (27, (.ldc2_w 141, 30, 0, 0)), (30, (.invokestatic 100, 33, 0, 0)), (33, (.ifCond .ne 6, 36, 39, 0)), (36, (.bipush (-2), 38, 0, (-2))), (38, (.ireturn, 39, 0, 0)), (39, (.aload_n 0, 40, 0, 0)), (40, (.getfield 97, 43, 0, 0)), (43, (.bipush 6, 45, 0, 6)), (45, (.if_icmp .ne 6, 48, 51, 0)), (48, (.bipush (-4), 50, 0, (-4))), (50, (.ireturn, 51, 0, 0)), (51, (.aload_n 0, 52, 0, 0)), (52, (.getfield 23, 55, 0, 0)), (55, (.aload_n 0, 56, 0, 0)), (56, (.getfield 97, 59, 0, 0)), (59, (.iload_n 1, 60, 0, 0)), (60, (.iastore, 61, 0, 0)), (61, (.aload_n 0, 62, 0, 0)), (62, (.getfield 26, 65, 0, 0)), (65, (.aload_n 0, 66, 0, 0)), (66, (.getfield 97, 69, 0, 0)), (69, (.iload_n 2, 70, 0, 0)), (70, (.iastore, 71, 0, 0)), (71, (.aload_n 0, 72, 0, 0)), (72, (.getfield 29, 75, 0, 0)), (75, (.aload_n 0, 76, 0, 0)), (76, (.getfield 97, 79, 0, 0)), (79, (.iload_n 3, 80, 0, 0)), (80, (.iastore, 81, 0, 0)), (81, (.iconst 0, 82, 0, 0)), (82, (.istore 4, 84, 0, 0)), (84, (.iload 4, 86, 0, 0)), (86, (.iconst 5, 87, 0, 5)), (87, (.if_icmp .ge 25, 90, 112, 0)), (90, (.aload_n 0, 91, 0, 0)), (91, (.getfield 32, 94, 0, 0)), (94, (.bipush 6, 96, 0, 6)), (96, (.iload 4, 98, 0, 0)), (98, (.imul, 99, 0, 0)), (99, (.aload_n 0, 100, 0, 0)), (100, (.getfield 97, 103, 0, 0)), (103, (.iadd, 104, 0, 0)), (104, (.iconst 0, 105, 0, 0)), (105, (.iastore, 106, 0, 0)), (106, (.iinc 4 1, 109, 0, 1)), (109, (.goto (-25), 112, 84, 0)), (112, (.aload_n 0, 113, 0, 0)), (113, (.dup, 114, 0, 0)), (114, (.getfield 97, 117, 0, 0)), (117, (.iconst 1, 118, 0, 1)), (118, (.iadd, 119, 0, 0)), (119, (.putfield 97, 122, 0, 0)), (122, (.aload_n 0, 123, 0, 0)), (123, (.getfield 97, 126, 0, 0)), (126, (.iconst 1, 127, 0, 1)), (127, (.isub, 128, 0, 0)), (128, (.ireturn, 129, 0, 0))]
def vtb116 : List (Nat × vI) := [(0, (.iload_n 1, 1, 0, 0)), (1, (.invokestatic 112, 4, 0, 0)), (4, (.ifCond .eq 23, 7, 27, 0)), (7, (.aload_n 0, 8, 0, 0)), (8, (.iload_n 2, 9, 0, 0)), (9, (.invokevirtual 106, 12, 0, 0)), (12, (.ifCond .eq 15, 15, 27, 0)), (15, (.iload_n 3, 16, 0, 0)), (16, (.i2l, 17, 0, 0)), (17, (.lconst 0, 18, 0, 0)), (18, (.ldc2_w 143, 21, 0, 0)), (21, (.invokestatic 100, 24, 0, 0)), (24, (.ifCond .ne 6, 27, 30, 0)), (27, (.bipush (-2), 29, 0, (-2))), (29, (.ireturn, 30, 0, 0)), (30, (.aload_n 0, 31, 0, 0)), (31, (.getfield 32, 34, 0, 0)), (34, (.bipush 6, 36, 0, 6)), (36, (.iload_n 1, 37, 0, 0)), (37, (.imul, 38, 0, 0)), (38, (.iload_n 2, 39, 0, 0)), (39, (.iadd, 40, 0, 0)), (40, (.iaload, 41, 0, 0)), (41, (.istore 4, 43, 0, 0)), (43, (.aload_n 0, 44, 0, 0)), (44, (.getfield 32, 47, 0, 0)), (47, (.bipush 6, 49, 0, 6)), (49, (.iload_n 1, 50, 0, 0)), (50, (.imul, 51, 0, 0)), (51, (.iload_n 2, 52, 0, 0)), (52, (.iadd, 53, 0, 0)), (53, (.iload_n 3, 54, 0, 0)), (54, (.iastore, 55, 0, 0)), (55, (.iload 4, 57, 0, 0)), (57, (.ireturn, 58, 0, 0))]
def vtb117 : List (Nat × vI) := [(0, (.iload_n 2, 1, 0, 0)), (1, (.i2l, 2, 0, 0)), (2, (.lconst 0, 3, 0, 0)), (3, (.ldc2_w 139, 6, 0, 0)), (6, (.invokestatic 100, 9, 0, 0)), (9, (.ifCond .eq 12, 12, 21, 0)), (12, (.aload_n 0, 13, 0, 0)), (13, (.iload_n 2, 14, 0, 0)), (14, (.iload_n 1, 15, 0, 0)), (15, (.invokevirtual 117, 18, 0, 0)), (18, (.ifCond .ne 6, 21, 24, 0)), (21, (.bipush (-2), 23, 0, (-2))), (23, (.ireturn, 24, 0, 0)), (24, (.iload_n 2, 25, 0, 0)), (25, (.iconst 4, 26, 0, 4)), (26, (.if_icmp .ge 49, 29, 75, 0)), (29, (.iload_n 2, 30, 0, 0)), (30, (.ifCond .ne 10, 33, 40, 0)), (33, (.aload_n 0, 34, 0, 0)), (34, (.getfield 133, 37, 0, 0)), (37, (.goto 37, 40, 74, 0)), (40, (.iload_n 2, 41, 0, 0)), (41, (.iconst 1, 42, 0, 1)), (42, (.if_icmp .ne 12, 45, 54, 0)), (45, (.aload_n 0, 46, 0, 0)), (46, (.getfield 26, 49, 0, 0)), (49, (.iload_n 1, 50, 0, 0)), (50, (.iaload, 51, 0, 0)), (51, (.goto 23, 54, 74, 0)), (54, (.iload_n 2, 55, 0, 0)), (55, (.iconst 2, 56, 0, 2)), (56, (.if_icmp .ne 12, 59, 68, 0)), (59, (.aload_n 0, 60, 0, 0)), (60, (.getfield 29, 63, 0, 0)), (63, (.iload_n 1, 64, 0, 0)), (64, (.iaload, 65, 0, 0)), (65, (.goto 9, 68, 74, 0)), (68, (.aload_n 0, 69, 0, 0)), (69, (.getfield 35, 72, 0, 0)), (72, (.iload_n 1, 73, 0, 0)), (73, (.iaload, 74, 0, 0)), (74, (.ireturn, 75, 0, 0)), (75, (.iload_n 2, 76, 0, 0)), (76, (.bipush 7, 78, 0, 7)), (78, (.if_icmp .ge 38, 81, 116, 0)), (81, (.iload_n 2, 82, 0, 0)), (82, (.iconst 4, 83, 0, 4)), (83, (.if_icmp .ne 12, 86, 95, 0)), (86, (.aload_n 0, 87, 0, 0)), (87, (.getfield 41, 90, 0, 0)), (90, (.iload_n 1, 91, 0, 0)), (91, (.iaload, 92, 0, 0)), (92, (.goto 23, 95, 115, 0)), (95, (.iload_n 2, 96, 0, 0)), (96, (.iconst 5, 97, 0, 5)), (97, (.if_icmp .ne 12, 100, 109, 0)), (100, (.aload_n 0, 101, 0, 0)), (101, (.getfield 44, 104, 0, 0)), (104, (.iload_n 1, 105, 0, 0)), (105, (.iaload, 106, 0, 0)), (106, (.goto 9, 109, 115, 0)), (109, (.aload_n 0, 110, 0, 0)), (110, (.getfield 23, 113, 0, 0)), (113, (.iload_n 1, 114, 0, 0)), (114, (.iaload, 115, 0, 0)), (115, (.ireturn, 116, 0, 0)), (116, (.iload_n 2, 117, 0, 0)), (117, (.bipush 7, 119, 0, 7)), (119, (.if_icmp .ne 12, 122, 131, 0)), (122, (.aload_n 0, 123, 0, 0)), (123, (.getfield 38, 126, 0, 0)), (126, (.iload_n 1, 127, 0, 0)), (127, (.iaload, 128, 0, 0)), (128, (.goto 22, 131, 150, 0)), (131, (.iload_n 2, 132, 0, 0)), (132, (.bipush 8, 134, 0, 8)), (134, (.if_icmp .ne 11, 137, 145, 0)), (137, (.aload_n 0, 138, 0, 0)), (138, (.iload_n 1, 139, 0, 0)), (139, (.invokevirtual 145, 142, 0, 0)), (142, (.goto 8, 145, 150, 0)), (145, (.aload_n 0, 146, 0, 0)), (146, (.iload_n 1, 147, 0, 0)), (147, (.invokevirtual 148, 150, 0, 0)), (150, (.ireturn, 151, 0, 0))]
def vtb118 : List (Nat × vI) := [(0, (.iload_n 1, 1, 0, 0)), (1, (.i2l, 2, 0, 0)), (2, (.lconst 0, 3, 0, 0)), (3, (.ldc2_w 151, 6, 0, 0)), (6, (.invokestatic 100, 9, 0, 0)), (9, (.ifCond .ne 6, 12, 15, 0)), (12, (.bipush (-2), 14, 0, (-2))), (14, (.ireturn, 15, 0, 0)), (15, (.aload_n 0, 16, 0, 0)), (16, (.getfield 153, 19, 0, 0)), (19, (.sipush 160, 22, 0, 160)), (22, (.if_icmp .ne 6, 25, 28, 0)), (25, (.bipush (-4), 27, 0, (-4))), (27, (.ireturn, 28, 0, 0)), (28, (.aload_n 0, 29, 0, 0)), (29, (.getfield 20, 32, 0, 0)), (32, (.aload_n 0, 33, 0, 0)), (33, (.getfield 153, 36, 0, 0)), (36, (.iload_n 1, 37, 0, 0)), (37, (.iastore, 38, 0, 0)), (38, (.aload_n 0, 39, 0, 0)), (39, (.dup, 40, 0, 0)), (40, (.getfield 153, 43, 0, 0)), (43, (.iconst 1, 44, 0, 1)), (44, (.iadd, 45, 0, 0)), (45, (.putfield 153, 48, 0, 0)), (48, (.aload_n 0, 49, 0, 0)), (49, (.getfield 153, 52, 0, 0)), (52, (.ireturn, 53, 0, 0))]
def vtb119 : List (Nat × vI) := [(0, (.iload_n 1, 1, 0, 0)), (1, (.aload_n 0, 2, 0, 0)), (2, (.getfield 156, 5, 0, 0)), (5, (.if_icmp .ge 17, 8, 22, 0)), (8, (.aload_n 0, 9, 0, 0)), (9, (.getfield 13, 12, 0, 0)), (12, (.aload_n 0, 13, 0, 0)), (13, (.getfield 159, 16, 0, 0)), (16, (.iload_n 1, 17, 0, 0)), (17, (.iadd, 18, 0, 0)), (18, (.iaload, 19, 0, 0)), (19, (.goto 4, 22, 23, 0)), (22, (.iconst (-1), 23, 0, (-1))), (23, (.ireturn, 24, 0, 0))]
def vtb120 : List (Nat × vI) := [(0, (.aload_n 0, 1, 0, 0)), (1, (.aload_n 0, 2, 0, 0)), (2, (.getfield 162, 5, 0, 0)), (5, (.invokevirtual 165, 8, 0, 0)), (8, (.bipush 32, 10, 0, 32)), (10, (.if_icmp .eq 16, 13, 26, 0)), (13, (.aload_n 0, 14, 0, 0)), (14, (.aload_n 0, 15, 0, 0)), (15, (.getfield 162, 18, 0, 0)), (18, (.invokevirtual 165, 21, 0, 0)), (21, (.bipush 10, 23, 0, 10)), (23, (.if_icmp .ne 16, 26, 39, 0)), (26, (.aload_n 0, 27, 0, 0)), (27, (.dup, 28, 0, 0)), (28, (.getfield 162, 31, 0, 0)), (31, (.iconst 1, 32, 0, 1)), (32, (.iadd, 33, 0, 0)), (33, (.putfield 162, 36, 0, 0)), (36, (.goto (-36), 39, 0, 0)), (39, (.aload_n 0, 40, 0, 0)), (40, (.aload_n 0, 41, 0, 0)), (41, (.getfield 162, 44, 0, 0)), (44, (.putfield 168, 47, 0, 0)), (47, (.aload_n 0, 48, 0, 0)), (48, (.aload_n 0, 49, 0, 0)), (49, (.getfield 162, 52, 0, 0)), (52, (.invokevirtual 165, 55, 0, 0)), (55, (.istore_n 1, 56, 0, 0)), (56, (.aload_n 0, 57, 0, 0)), (57, (.iconst 4, 58, 0, 4)), (58, (.putfield 171, 61, 0, 0)), (61, (.iload_n 1, 62, 0, 0)), (62, (.ifCond .ge 19, 65, 81, 0)), (65, (.aload_n 0, 66, 0, 0)), (66, (.iconst 0, 67, 0, 0)), (67, (.putfield 171, 70, 0, 0)), (70, (.aload_n 0, 71, 0, 0)), (71, (.aload_n 0, 72, 0, 0)), (72, (.getfield 156, 75, 0, 0)), (75, (.putfield 168, 78, 0, 0)), (78, (.goto 243, 81, 321, 0)), (81, (.iload_n 1, 82, 0, 0)), (82, (.i2l, 83, 0, 0)), (83, (.ldc2_w 174, 86, 0, 0)), (86, (.ldc2_w 176, 89, 0, 0)), (89, (.invokestatic 100, 92, 0, 0)), (92, (.ifCond .eq 42, 95, 134, 0)), (95, (.aload_n 0, 96, 0, 0)), (96, (.iconst 1, 97, 0, 1)), (97, (.putfield 171, 100, 0, 0)), (100, (.aload_n 0, 101, 0, 0)), (101, (.aload_n 0, 102, 0, 0)), (102, (.getfield 162, 105, 0, 0)), (105, (.invokevirtual 165, 108, 0, 0)), (108, (.i2l, 109, 0, 0)), (109, (.ldc2_w 174, 112, 0, 0)), (112, (.ldc2_w 176, 115, 0, 0)), (115, (.invokestatic 100, 118, 0, 0)), (118, (.ifCond .eq 203, 121, 321, 0)), (121, (.aload_n 0, 122, 0, 0)), (122, (.dup, 123, 0, 0)), (123, (.getfield 162, 126, 0, 0)), (126, (.iconst 1, 127, 0, 1)), (127, (.iadd, 128, 0, 0)), (128, (.putfield 162, 131, 0, 0)), (131, (.goto (-31), 134, 100, 0)), (134, (.iload_n 1, 135, 0, 0)), (135, (.i2l, 136, 0, 0)), (136, (.ldc2_w 178, 139, 0, 0)), (139, (.ldc2_w 180, 142, 0, 0)), (142, (.invokestatic 100, 145, 0, 0)), (145, (.ifCond .eq 107, 148, 252, 0)), (148, (.aload_n 0, 149, 0, 0)), (149, (.iconst 2, 150, 0, 2)), (150, (.putfield 171, 153, 0, 0)), (153, (.aload_n 0, 154, 0, 0)), (154, (.lconst 0, 155, 0, 0)), (155, (.putfield 182, 158, 0, 0)), (158, (.iconst 0, 159, 0, 0)), (159, (.istore_n 2, 160, 0, 0)), (160, (.aload_n 0, 161, 0, 0)), (161, (.aload_n 0, 162, 0, 0)), (162, (.getfield 162, 165, 0, 0)), (165, (.invokevirtual 165, 168, 0, 0)), (168, (.i2l, 169, 0, 0)), (169, (.ldc2_w 178, 172, 0, 0)), (172, (.ldc2_w 180, 175, 0, 0)), (175, (.invokestatic 100, 178, 0, 0)), (178, (.ifCond .eq 57, 181, 235, 0)), (181, (.aload_n 0, 182, 0, 0)), (182, (.iload_n 2, 183, 0, 0)), (183, (.iconst 4, 184, 0, 4)), (184, (.if_icmp .ge 28, 187, 212, 0)), (187, (.ldc2_w 186, 190, 0, 0)), (190, (.aload_n 0, 191, 0, 0)), (191, (.getfield 182, 194, 0, 0)), (194, (.lmul, 195, 0, 0)), (195, (.aload_n 0, 196, 0, 0)), (196, (.aload_n 0, 197, 0, 0)), (197, (.getfield 162, 200, 0, 0)), (200, (.invokevirtual 165, 203, 0, 0)), (203, (.i2l, 204, 0, 0)), (204, (.ladd, 205, 0, 0)), (205, (.ldc2_w 178, 208, 0, 0)), (208, (.lsub, 209, 0, 0)), (209, (.goto 7, 212, 216, 0)), (212, (.aload_n 0, 213, 0, 0)), (213, (.getfield 182, 216, 0, 0)), (216, (.putfield 182, 219, 0, 0)), (219, (.iinc 2 1, 222, 0, 1)), (222, (.aload_n 0, 223, 0, 0)), (223, (.dup, 224, 0, 0)), (224, (.getfield 162, 227, 0, 0)), (227, (.iconst 1, 228, 0, 1)), (228, (.iadd, 229, 0, 0)), (229, (.putfield 162, 232, 0, 0)), (232, (.goto (-72), 235, 160, 0)), (235, (.aload_n 0, 236, 0, 0)), (236, (.iload_n 2, 237, 0, 0)), (237, (.iconst 4, 238, 0, 4)), (238, (.if_icmp .le 7, 241, 245, 0)), (241, (.iconst 4, 242, 0, 4)), (242, (.goto 4, 245, 246, 0)), (245, (.iconst 2, 246, 0, 2)), (246, (.putfield 171, 249, 0, 0)), (249, (.goto 72, 252, 321, 0)), (252, (.iload_n 1, 253, 0, 0)), (253, (.bipush 40, 255, 0, 40)), (255, (.if_icmp .eq 45, 258, 300, 0)), (258, (.iload_n 1, 259, 0, 0)), (259, (.bipush 41, 261, 0, 41)), (261, (.if_icmp .eq 39, 264, 300, 0)), (264, (.iload_n 1, 265, 0, 0)), (265, (.bipush 59, 267, 0, 59)), (267, (.if_icmp .eq 33, 270, 300, 0)), (270, (.iload_n 1, 271, 0, 0)), (271, (.bipush 43, 273, 0, 43)), (273, (.if_icmp .eq 27, 276, 300, 0)), (276, (.iload_n 1, 277, 0, 0)), (277, (.bipush 45, 279, 0, 45)), (279, (.if_icmp .eq 21, 282, 300, 0)), (282, (.iload_n 1, 283, 0, 0)), (283, (.bipush 42, 285, 0, 42)), (285, (.if_icmp .eq 15, 288, 300, 0)), (288, (.iload_n 1, 289, 0, 0)), (289, (.bipush 60, 291, 0, 60)), (291, (.if_icmp .eq 9, 294, 300, 0)), (294, (.iload_n 1, 295, 0, 0)), (295, (.bipush 61, 297, 0, 61)), (297, (.if_icmp .ne 24, 300, 321, 0)), (300, (.aload_n 0, 301, 0, 0)), (301, (.iconst 3, 302, 0, 3)), (302, (.putfield 171, 305, 0, 0)), (305, (.aload_n 0, 306, 0, 0)), (306, (.iload_n 1, 307, 0, 0)), (307, (.i2l, 308, 0, 0)), (308, (.putfield 182, 311, 0, 0)), (311, (.aload_n 0, 312, 0, 0)), (312, (.dup, 313, 0, 0)), (313, (.getfield 162, 316, 0, 0)), (316, (.iconst 1, 317, 0, 1)), (317, (.iadd, 318, 0, 0)), (318, (.putfield 162, 321, 0, 0)), (321, (.return_, 322, 0, 0))]
def vtb121 : List (Nat × vI) := [(0, (.aload_n 0, 1, 0, 0)), (1, (.getfield 188, 4, 0, 0)), (4, (.ifCond .ne 16, 7, 20, 0)), (7, (.aload_n 0, 8, 0, 0)), (8, (.iconst 1, 9, 0, 1)), (9, (.putfield 188, 12, 0, 0)), (12, (.aload_n 0, 13, 0, 0)), (13, (.aload_n 0, 14, 0, 0)), (14, (.getfield 168, 17, 0, 0)), (17, (.putfield 192, 20, 0, 0)), (20, (.return_, 21, 0, 0))]
def vtb122 : List (Nat × vI) := [(0, (.aload_n 0, 1, 0, 0)), (1, (.getfield 168, 4, 0, 0)), (4, (.iload_n 1, 5, 0, 0)), (5, (.iadd, 6, 0, 0)), (6, (.aload_n 0, 7, 0, 0)), (7, (.getfield 162, 10, 0, 0)), (10, (.if_icmp .ge 25, 13, 35, 0)), (13, (.aload_n 0, 14, 0, 0)), (14, (.aload_n 0, 15, 0, 0)), (15, (.getfield 168, 18, 0, 0)), (18, (.iload_n 1, 19, 0, 0)), (19, (.iadd, 20, 0, 0)), (20, (.invokevirtual 165, 23, 0, 0)), (23, (.iload_n 2, 24, 0, 0)), (24, (.if_icmp .ne 7, 27, 31, 0)), (27, (.iconst 1, 28, 0, 1)), (28, (.goto 16, 31, 44, 0)), (31, (.iconst 0, 32, 0, 0)), (32, (.goto 12, 35, 44, 0)), (35, (.iload_n 2, 36, 0, 0)), (36, (.ifCond .ne 7, 39, 43, 0)), (39, (.iconst 1, 40, 0, 1)), (40, (.goto 4, 43, 44, 0)), (43, (.iconst 0, 44, 0, 0)), (44, (.ireturn, 45, 0, 0))]
def vtb123 : List (Nat × vI) := [(0, (.aload_n 0, 1, 0, 0)), (1, (.getfield 188, 4, 0, 0)), (4, (.ifCond .ne 108, 7, 112, 0)), (7, (.aload_n 0, 8, 0, 0)), (8, (.getfield 171, 11, 0, 0)), (11, (.iconst 1, 12, 0, 1)), (12, (.if_icmp .ne 100, 15, 112, 0)), (15, (.aload_n 0, 16, 0, 0)), (16, (.getfield 162, 19, 0, 0)), (19, (.aload_n 0, 20, 0, 0)), (20, (.getfield 168, 23, 0, 0)), (23, (.bipush 8, 25, 0, 8)), (25, (.iadd, 26, 0, 0)), (26, (.if_icmp .gt 86, 29, 112, 0)), (29, (.aload_n 0, 30, 0, 0)), (30, (.iconst 0, 31, 0, 0)), (31, (.iload_n 1, 32, 0, 0)), (32, (.invokevirtual 195, 35, 0, 0)), (35, (.ifCond .eq 77, 38, 112, 0)), (38, (.aload_n 0, 39, 0, 0)), (39, (.iconst 1, 40, 0, 1)), (40, (.iload_n 2, 41, 0, 0)), (41, (.invokevirtual 195, 44, 0, 0)), (44, (.ifCond .eq 68, 47, 112, 0)), (47, (.aload_n 0, 48, 0, 0)), (48, (.iconst 2, 49, 0, 2)), (49, (.iload_n 3, 50, 0, 0)), (50, (.invokevirtual 195, 53, 0, 0)), (53, (.ifCond .eq 59, 56, 112, 0)), (56, (.aload_n 0, 57, 0, 0)), (57, (.iconst 3, 58, 0, 3)), (58, (.iload 4, 60, 0, 0)), (60, (.invokevirtual 195, 63, 0, 0)), (63, (.ifCond .eq 49, 66, 112, 0)), (66, (.aload_n 0, 67, 0, 0)), (67, (.iconst 4, 68, 0, 4)), (68, (.iload 5, 70, 0, 0)), (70, (.invokevirtual 195, 73, 0, 0)), (73, (.ifCond .eq 39, 76, 112, 0)), (76, (.aload_n 0, 77, 0, 0)), (77, (.iconst 5, 78, 0, 5)), (78, (.iload 6, 80, 0, 0)), (80, (.invokevirtual 195, 83, 0, 0)), (83, (.ifCond .eq 29, 86, 112, 0)), (86, (.aload_n 0, 87, 0, 0)), (87, (.bipush 6, 89, 0, 6)), (89, (.iload 7, 91, 0, 0)), (91, (.invokevirtual 195, 94, 0, 0)), (94, (.ifCond .eq 18, 97, 112, 0)), (97, (.aload_n 0, 98, 0, 0)), (98, (.bipush 7, 100, 0, 7)), (100, (.iload 8, 102, 0, 0)), (102, (.invokevirtual 195, 105, 0, 0)), (105, (.ifCond .eq 7, 108, 112, 0)), (108, (.iconst 1, 109, 0, 1)), (109, (.goto 4, 112, 113, 0)), (112, (.iconst 0, 113, 0, 0)), (113, (.ireturn, 114, 0, 0))]
def vtb124 : List (Nat × vI) := [(0, (.aload_n 0, 1, 0, 0)), (1, (.getfield 188, 4, 0, 0)), (4, (.ifCond .ne 25, 7, 29, 0)), (7, (.aload_n 0, 8, 0, 0)), (8, (.getfield 171, 11, 0, 0)), (11, (.iconst 3, 12, 0, 3)), (12, (.if_icmp .ne 17, 15, 29, 0)), (15, (.aload_n 0, 16, 0, 0)), (16, (.getfield 182, 19, 0, 0)), (19, (.iload_n 1, 20, 0, 0)), (20, (.i2l, 21, 0, 0)), (21, (.lcmp, 22, 0, 0)), (22, (.ifCond .ne 7, 25, 29, 0)), (25, (.iconst 1, 26, 0, 1)), (26, (.goto 4, 29, 30, 0)), (29, (.iconst 0, 30, 0, 0)), (30, (.ireturn, 31, 0, 0))]
def vtb125 : List (Nat × vI) := [(0, (.aload_n 0, 1, 0, 0)), (1, (.getfield 198, 4, 0, 0)), (4, (.iconst 5, 5, 0, 5)), (5, (.if_icmp .ne 9, 8, 14, 0)), (8, (.aload_n 0, 9, 0, 0)), (9, (.invokevirtual 201, 12, 0, 0)), (12, (.iconst 0, 13, 0, 0)), (13, (.ireturn, 14, 0, 0)), (14, (.aload_n 0, 15, 0, 0)), (15, (.dup, 16, 0, 0)), (16, (.getfield 198, 19, 0, 0)), (19, (.iconst 1, 20, 0, 1)), (20, (.iadd, 21, 0, 0)), (21, (.putfield 198, 24, 0, 0)), (24, (.aload_n 0, 25, 0, 0)), (25, (.invokevirtual 204, 28, 0, 0)), (28, (.iconst 1, 29, 0, 1)), (29, (.ireturn, 30, 0, 0))]
def vtb126 : List (Nat × vI) := [(0, (.aload_n 0, 1, 0, 0)), (1, (.bipush 121, 3, 0, 121)), (3, (.bipush 101, 5, 0, 101)), (5, (.bipush 97, 7, 0, 97)), (7, (.bipush 114, 9, 0, 114)), (9, (.bipush 115, 11, 0, 115)), (11, (.iconst 0, 12, 0, 0)), (12, (.iconst 0, 13, 0, 0)), (13, (.iconst 0, 14, 0, 0)), (14, (.invokevirtual 207, 17, 0, 0)), (17, (.ifCond .eq 8, 20, 25, 0)), (20, (.aload_n 0, 21, 0, 0)), (21, (.getfield 211, 24, 0, 0)), (24, (.ireturn, 25, 0, 0)), (25, (.aload_n 0, 26, 0, 0)), (26, (.bipush 110, 28, 0, 110)), (28, (.bipush 105, 30, 0, 105)), (30, (.bipush 103, 32, 0, 103)), (32, (.bipush 104, 34, 0, 104)), (34, (.bipush 116, 36, 0, 116)), (36, (.bipush 115, 38, 0, 115)), (38, (.iconst 0, 39, 0, 0)), (39, (.iconst 0, 40, 0, 0)), (40, (.invokevirtual 207, 43, 0, 0)), (43, (.ifCond .eq 8, 46, 51, 0)), (46, (.aload_n 0, 47, 0, 0)), (47, (.getfield 214, 50, 0, 0)), (50, (.ireturn, 51, 0, 0)), (51, (.aload_n 0, 52, 0, 0)), (52, (.bipush 110, 54, 0, 110)), (54, (.bipush 117, 56, 0, 117)), (56, (.bipush 109, 58, 0, 109)), (58, (.bipush 98, 60, 0, 98)), (60, (.bipush 101, 62, 0, 101)), (62, (.bipush 114, 64, 0, 114)), (64, (.iconst 0, 65, 0, 0)), (65, (.iconst 0, 66, 0, 0)), (66, (.invokevirtual 207, 69, 0, 0)), (69, (.ifCond .eq 8, 72, 77, 0)), (72, (.aload_n 0, 73, 0, 0)), (73, (.getfield 217, 76, 0, 0)), (76, (.ireturn, 77, 0, 0)), (77, (.aload_n 0, 78, 0, 0)), (78, (.bipush 110, 80, 0, 110)), (80, (.bipush 105, 82, 0, 105)), (82, (.bipush 103, 84, 0, 103)), (84, (.bipush 104, 86, 0, 104)), (86, (.bipush 116, 88, 0, 116)), (88, (.iconst 0, 89, 0, 0)), (89, (.iconst 0, 90, 0, 0)), (90, (.iconst 0, 91, 0, 0)), (91, (.invokevirtual 207, 94, 0, 0)), (94, (.ifCond .eq 8, 97, 102, 0)), (97, (.aload_n 0, 98, 0, 0)), (98, (.getfield 220, 101, 0, 0)), (101, (.ireturn, 102, 0, 0)), (102, (.aload_n 0, 103, 0, 0)), (103, (.bipush 99, 105, 0, 99)), (105, (.bipush 108, 107, 0, 108)), (107, (.bipush 111, 109, 0, 111)), (109, (.bipush 117, 111, 0, 117)), (111, (.bipush 100, 113, 0, 100)), (113, (.bipush 121, 115, 0, 121)), (115, (.iconst 0, 116, 0, 0)), (116, (.iconst 0, 117, 0, 0)), (117, (.invokevirtual 207, 120, 0, 0)), (120, (.ifCond .eq 8, 123, 128, 0)), (123, (.aload_n 0, 124, 0, 0)), (124, (.getfield 223, 127, 0, 0)), (127, (.ireturn, 128, 0, 0)), (128, (.aload_n 0, 129, 0, 0)), (129, (.bipush 108, 131, 0, 108)), (131, (.bipush 105, 133, 0, 105)), (133, (.bipush 103, 135, 0, 103)), (135, (.bipush 104, 137, 0, 104)), (137, (.bipush 116, 139, 0, 116)), (139, (.bipush 115, 141, 0, 115)), (141, (.iconst 0, 142, 0, 0)), (142, (.iconst 0, 143, 0, 0)), (143, (.invokevirtual 207, 146, 0, 0)), (146, (.ifCond .eq 8, 149, 154, 0)), (149, (.aload_n 0, 150, 0, 0)), (150, (.getfield 226, 153, 0, 0)), (153, (.ireturn, 154, 0, 0)), (154, (.aload_n 0, 155, 0, 0)), (155, (.invokevirtual 201, 158, 0, 0)), (158, (.iconst 0, 159, 0, 0)), (159, (.ireturn, 160, 0, 0))]
def vtb127 : List (Nat × vI) := [(0, (.iconst 0, 1, 0, 0)), (1, (.istore_n 1, 2, 0, 0)), (2, (.aload_n 0, 3, 0, 0)), (3, (.bipush 45, 5, 0, 45)), (5, (.invokevirtual 229, 8, 0, 0)), (8, (.ifCond .eq 11, 11, 19, 0)), (11, (.aload_n 0, 12, 0, 0)), (12, (.invokevirtual 232, 15, 0, 0)), (15, (.pop, 16, 0, 0)), (16, (.goto 86, 19, 102, 0)), (19, (.aload_n 0, 20, 0, 0)), (20, (.bipush 40, 22, 0, 40)), (22, (.invokevirtual 229, 25, 0, 0)), (25, (.ifCond .eq 11, 28, 36, 0)), (28, (.aload_n 0, 29, 0, 0)), (29, (.invokevirtual 232, 32, 0, 0)), (32, (.pop, 33, 0, 0)), (33, (.goto 69, 36, 102, 0)), (36, (.aload_n 0, 37, 0, 0)), (37, (.getfield 188, 40, 0, 0)), (40, (.ifCond .ne 24, 43, 64, 0)), (43, (.aload_n 0, 44, 0, 0)), (44, (.getfield 171, 47, 0, 0)), (47, (.iconst 2, 48, 0, 2)), (48, (.if_icmp .ne 16, 51, 64, 0)), (51, (.aload_n 0, 52, 0, 0)), (52, (.getfield 182, 55, 0, 0)), (55, (.l2i, 56, 0, 0)), (56, (.istore_n 1, 57, 0, 0)), (57, (.aload_n 0, 58, 0, 0)), (58, (.invokevirtual 204, 61, 0, 0)), (61, (.goto 41, 64, 102, 0)), (64, (.aload_n 0, 65, 0, 0)), (65, (.getfield 188, 68, 0, 0)), (68, (.ifCond .ne 30, 71, 98, 0)), (71, (.aload_n 0, 72, 0, 0)), (72, (.getfield 171, 75, 0, 0)), (75, (.iconst 1, 76, 0, 1)), (76, (.if_icmp .ne 22, 79, 98, 0)), (79, (.aload_n 0, 80, 0, 0)), (80, (.invokevirtual 236, 83, 0, 0)), (83, (.istore_n 1, 84, 0, 0)), (84, (.aload_n 0, 85, 0, 0)), (85, (.getfield 188, 88, 0, 0)), (88, (.ifCond .ne 14, 91, 102, 0)), (91, (.aload_n 0, 92, 0, 0)), (92, (.invokevirtual 204, 95, 0, 0)), (95, (.goto 7, 98, 102, 0)), (98, (.aload_n 0, 99, 0, 0)), (99, (.invokevirtual 201, 102, 0, 0)), (102, (.iload_n 1, 103, 0, 0)), (103, (.ireturn, 104, 0, 0))]
def vtb128 : List (Nat × vI) := [(0, (.aload_n 0, 1, 0, 0)), (1, (.invokevirtual 240, 4, 0, 0)), (4, (.istore_n 1, 5, 0, 0)), (5, (.aload_n 0, 6, 0, 0)), (6, (.bipush 42, 8, 0, 42)), (8, (.invokevirtual 229, 11, 0, 0)), (11, (.ifCond .eq 17, 14, 28, 0)), (14, (.aload_n 0, 15, 0, 0)), (15, (.invokevirtual 204, 18, 0, 0)), (18, (.iload_n 1, 19, 0, 0)), (19, (.aload_n 0, 20, 0, 0)), (20, (.invokevirtual 240, 23, 0, 0)), (23, (.imul, 24, 0, 0)), (24, (.istore_n 1, 25, 0, 0)), (25, (.goto (-20), 28, 5, 0)), (28, (.iload_n 1, 29, 0, 0)), (29, (.ireturn, 30, 0, 0))]
def vtb129 : List (Nat × vI) := [(0, (.aload_n 0, 1, 0, 0)), (1, (.invokevirtual 243, 4, 0, 0)), (4, (.istore_n 1, 5, 0, 0)), (5, (.aload_n 0, 6, 0, 0)), (6, (.bipush 43, 8, 0, 43)), (8, (.invokevirtual 229, 11, 0, 0)), (11, (.ifCond .ne 12, 14, 23, 0)), (14, (.aload_n 0, 15, 0, 0)), (15, (.bipush 45, 17, 0, 45)), (17, (.invokevirtual 229, 20, 0, 0)), (20, (.ifCond .eq 46, 23, 66, 0)), (23, (.aload_n 0, 24, 0, 0)), (24, (.getfield 182, 27, 0, 0)), (27, (.ldc2_w 246, 30, 0, 0)), (30, (.lcmp, 31, 0, 0)), (31, (.ifCond .ne 7, 34, 38, 0)), (34, (.iconst 1, 35, 0, 1)), (35, (.goto 4, 38, 39, 0)), (38, (.iconst 0, 39, 0, 0)), (39, (.istore_n 2, 40, 0, 0)), (40, (.aload_n 0, 41, 0, 0)), (41, (.invokevirtual 204, 44, 0, 0)), (44, (.aload_n 0, 45, 0, 0)), (45, (.invokevirtual 243, 48, 0, 0)), (48, (.istore_n 3, 49, 0, 0)), (49, (.iload_n 2, 50, 0, 0)), (50, (.ifCond .eq 9, 53, 59, 0)), (53, (.iload_n 1, 54, 0, 0)), (54, (.iload_n 3, 55, 0, 0)), (55, (.iadd, 56, 0, 0)), (56, (.goto 6, 59, 62, 0)), (59, (.iload_n 1, 60, 0, 0)), (60, (.iload_n 3, 61, 0, 0)), (61, (.isub, 62, 0, 0)), (62, (.istore_n 1, 63, 0, 0)), (63, (.goto (-58), 66, 5, 0)), (66, (.iload_n 1, 67, 0, 0)), (67, (.ireturn, 68, 0, 0))]
def vtb130 : List (Nat × vI) := [(0, (.aload_n 0, 1, 0, 0)), (1, (.bipush 110, 3, 0, 110)), (3, (.bipush 111, 5, 0, 111)), (5, (.bipush 116, 7, 0, 116)), (7, (.iconst 0, 8, 0, 0)), (8, (.iconst 0, 9, 0, 0)), (9, (.iconst 0, 10, 0, 0)), (10, (.iconst 0, 11, 0, 0)), (11, (.iconst 0, 12, 0, 0)), (12, (.invokevirtual 207, 15, 0, 0)), (15, (.ifCond .eq 10, 18, 25, 0)), (18, (.aload_n 0, 19, 0, 0)), (19, (.invokevirtual 232, 22, 0, 0)), (22, (.pop, 23, 0, 0)), (23, (.iconst 0, 24, 0, 0)), (24, (.ireturn, 25, 0, 0)), (25, (.aload_n 0, 26, 0, 0)), (26, (.invokevirtual 248, 29, 0, 0)), (29, (.istore_n 1, 30, 0, 0)), (30, (.aload_n 0, 31, 0, 0)), (31, (.bipush 60, 33, 0, 60)), (33, (.invokevirtual 229, 36, 0, 0)), (36, (.ifCond .ne 14, 39, 50, 0)), (39, (.aload_n 0, 40, 0, 0)), (40, (.bipush 61, 42, 0, 61)), (42, (.invokevirtual 229, 45, 0, 0)), (45, (.ifCond .ne 5, 48, 50, 0)), (48, (.iload_n 1, 49, 0, 0)), (49, (.ireturn, 50, 0, 0)), (50, (.aload_n 0, 51, 0, 0)), (51, (.getfield 182, 54, 0, 0)), (54, (.ldc2_w 251, 57, 0, 0)), (57, (.lcmp, 58, 0, 0)), (58, (.ifCond .ne 7, 61, 65, 0)), (61, (.iconst 1, 62, 0, 1)), (62, (.goto 4, 65, 66, 0)), (65, (.iconst 0, 66, 0, 0)), (66, (.istore_n 2, 67, 0, 0)), (67, (.aload_n 0, 68, 0, 0)), (68, (.invokevirtual 204, 71, 0, 0)), (71, (.aload_n 0, 72, 0, 0)), (72, (.invokevirtual 248, 75, 0, 0)), (75, (.istore_n 3, 76, 0, 0)), (76, (.iload_n 2, 77, 0, 0)), (77, (.ifCond .eq 11, 80, 88, 0)), (80, (.iload_n 1, 81, 0, 0)), (81, (.iload_n 3, 82, 0, 0)), (82, (.if_icmp .ge 15, 85, 97, 0)), (85, (.goto 8, 88, 93, 0)), (88, (.iload_n 1, 89, 0, 0)), (89, (.iload_n 3, 90, 0, 0)), (90, (.if_icmp .ne 7, 93, 97, 0)), (93, (.iconst 1, 94, 0, 1)), (94, (.goto 4, 97, 98, 0)), (97, (.iconst 0, 98, 0, 0)), (98, (.ireturn, 99, 0, 0))]
def vtb131 : List (Nat × vI) := [(0, (.aload_n 0, 1, 0, 0)), (1, (.invokevirtual 253, 4, 0, 0)), (4, (.istore_n 1, 5, 0, 0)), (5, (.aload_n 0, 6, 0, 0)), (6, (.bipush 97, 8, 0, 97)), (8, (.bipush 110, 10, 0, 110)), (10, (.bipush 100, 12, 0, 100)), (12, (.iconst 0, 13, 0, 0)), (13, (.iconst 0, 14, 0, 0)), (14, (.iconst 0, 15, 0, 0)), (15, (.iconst 0, 16, 0, 0)), (16, (.iconst 0, 17, 0, 0)), (17, (.invokevirtual 207, 20, 0, 0)), (20, (.ifCond .eq 29, 23, 49, 0)), (23, (.aload_n 0, 24, 0, 0)), (24, (.invokevirtual 204, 27, 0, 0)), (27, (.aload_n 0, 28, 0, 0)), (28, (.invokevirtual 253, 31, 0, 0)), (31, (.istore_n 2, 32, 0, 0)), (32, (.iload_n 1, 33, 0, 0)), (33, (.ifCond .eq 11, 36, 44, 0)), (36, (.iload_n 2, 37, 0, 0)), (37, (.ifCond .eq 7, 40, 44, 0)), (40, (.iconst 1, 41, 0, 1)), (41, (.goto 4, 44, 45, 0)), (44, (.iconst 0, 45, 0, 0)), (45, (.istore_n 1, 46, 0, 0)), (46, (.goto (-41), 49, 5, 0)), (49, (.iload_n 1, 50, 0, 0)), (50, (.ireturn, 51, 0, 0))]
def vtb132 : List (Nat × vI) := [(0, (.aload_n 0, 1, 0, 0)), (1, (.invokevirtual 256, 4, 0, 0)), (4, (.istore_n 1, 5, 0, 0)), (5, (.aload_n 0, 6, 0, 0)), (6, (.bipush 111, 8, 0, 111)), (8, (.bipush 114, 10, 0, 114)), (10, (.iconst 0, 11, 0, 0)), (11, (.iconst 0, 12, 0, 0)), (12, (.iconst 0, 13, 0, 0)), (13, (.iconst 0, 14, 0, 0)), (14, (.iconst 0, 15, 0, 0)), (15, (.iconst 0, 16, 0, 0)), (16, (.invokevirtual 207, 19, 0, 0)), (19, (.ifCond .eq 29, 22, 48, 0)), (22, (.aload_n 0, 23, 0, 0)), (23, (.invokevirtual 204, 26, 0, 0)), (26, (.aload_n 0, 27, 0, 0)), (27, (.invokevirtual 256, 30, 0, 0)), (30, (.istore_n 2, 31, 0, 0)), (31, (.iload_n 1, 32, 0, 0)), (32, (.ifCond .ne 7, 35, 39, 0)), (35, (.iload_n 2, 36, 0, 0)), (36, (.ifCond .eq 7, 39, 43, 0)), (39, (.iconst 1, 40, 0, 1)), (40, (.goto 4, 43, 44, 0)), (43, (.iconst 0, 44, 0, 0)), (44, (.istore_n 1, 45, 0, 0)), (45, (.goto (-40), 48, 5, 0)), (48, (.iload_n 1, 49, 0, 0)), (49, (.ireturn, 50, 0, 0))]
def vtb133 : List (Nat × vI) := [(0, (.iconst 0, 1, 0, 0)), (1, (.istore_n 1, 2, 0, 0)), (2, (.aload_n 0, 3, 0, 0)), (3, (.bipush 45, 5, 0, 45)), (5, (.invokevirtual 229, 8, 0, 0)), (8, (.ifCond .eq 29, 11, 37, 0)), (11, (.aload_n 0, 12, 0, 0)), (12, (.invokevirtual 232, 15, 0, 0)), (15, (.ifCond .eq 146, 18, 161, 0)), (18, (.aload_n 0, 19, 0, 0)), (19, (.invokevirtual 240, 22, 0, 0)), (22, (.ineg, 23, 0, 0)), (23, (.istore_n 1, 24, 0, 0)), (24, (.aload_n 0, 25, 0, 0)), (25, (.dup, 26, 0, 0)), (26, (.getfield 198, 29, 0, 0)), (29, (.iconst 1, 30, 0, 1)), (30, (.isub, 31, 0, 0)), (31, (.putfield 198, 34, 0, 0)), (34, (.goto 127, 37, 161, 0)), (37, (.aload_n 0, 38, 0, 0)), (38, (.bipush 40, 40, 0, 40)), (40, (.invokevirtual 229, 43, 0, 0)), (43, (.ifCond .eq 52, 46, 95, 0)), (46, (.aload_n 0, 47, 0, 0)), (47, (.invokevirtual 232, 50, 0, 0)), (50, (.ifCond .eq 111, 53, 161, 0)), (53, (.aload_n 0, 54, 0, 0)), (54, (.invokevirtual 259, 57, 0, 0)), (57, (.istore_n 1, 58, 0, 0)), (58, (.aload_n 0, 59, 0, 0)), (59, (.bipush 41, 61, 0, 41)), (61, (.invokevirtual 229, 64, 0, 0)), (64, (.ifCond .ne 7, 67, 71, 0)), (67, (.aload_n 0, 68, 0, 0)), (68, (.invokevirtual 201, 71, 0, 0)), (71, (.aload_n 0, 72, 0, 0)), (72, (.dup, 73, 0, 0)), (73, (.getfield 198, 76, 0, 0)), (76, (.iconst 1, 77, 0, 1)), (77, (.isub, 78, 0, 0)), (78, (.putfield 198, 81, 0, 0)), (81, (.aload_n 0, 82, 0, 0)), (82, (.getfield 188, 85, 0, 0)), (85, (.ifCond .ne 76, 88, 161, 0)), (88, (.aload_n 0, 89, 0, 0)), (89, (.invokevirtual 204, 92, 0, 0)), (92, (.goto 69, 95, 161, 0)), (95, (.aload_n 0, 96, 0, 0)), (96, (.getfield 188, 99, 0, 0)), (99, (.ifCond .ne 24, 102, 123, 0)), (102, (.aload_n 0, 103, 0, 0)), (103, (.getfield 171, 106, 0, 0)), (106, (.iconst 2, 107, 0, 2)), (107, (.if_icmp .ne 16, 110, 123, 0)), (110, (.aload_n 0, 111, 0, 0)), (111, (.getfield 182, 114, 0, 0)), (114, (.l2i, 115, 0, 0)), (115, (.istore_n 1, 116, 0, 0)), (116, (.aload_n 0, 117, 0, 0)), (117, (.invokevirtual 204, 120, 0, 0)), (120, (.goto 41, 123, 161, 0)), (123, (.aload_n 0, 124, 0, 0)), (124, (.getfield 188, 127, 0, 0)), (127, (.ifCond .ne 30, 130, 157, 0)), (130, (.aload_n 0, 131, 0, 0)), (131, (.getfield 171, 134, 0, 0)), (134, (.iconst 1, 135, 0, 1)), (135, (.if_icmp .ne 22, 138, 157, 0)), (138, (.aload_n 0, 139, 0, 0)), (139, (.invokevirtual 236, 142, 0, 0)), (142, (.istore_n 1, 143, 0, 0)), (143, (.aload_n 0, 144, 0, 0)), (144, (.getfield 188, 147, 0, 0)), (147, (.ifCond .ne 14, 150, 161, 0)), (150, (.aload_n 0, 151, 0, 0)), (151, (.invokevirtual 204, 154, 0, 0)), (154, (.goto 7, 157, 161, 0)), (157, (.aload_n 0, 158, 0, 0)), (158, (.invokevirtual 201, 161, 0, 0)), (161, (.iload_n 1, 162, 0, 0)), (162, (.ireturn, 163, 0, 0))]
def vtb134 : List (Nat × vI) := [(0, (.aload_n 0, 1, 0, 0)), (1, (.invokevirtual 262, 4, 0, 0)), (4, (.istore_n 1, 5, 0, 0)), (5, (.aload_n 0, 6, 0, 0)), (6, (.bipush 42, 8, 0, 42)), (8, (.invokevirtual 229, 11, 0, 0)), (11, (.ifCond .eq 17, 14, 28, 0)), (14, (.aload_n 0, 15, 0, 0)), (15, (.invokevirtual 204, 18, 0, 0)), (18, (.iload_n 1, 19, 0, 0)), (19, (.aload_n 0, 20, 0, 0)), (20, (.invokevirtual 262, 23, 0, 0)), (23, (.imul, 24, 0, 0)), (24, (.istore_n 1, 25, 0, 0)), (25, (.goto (-20), 28, 5, 0)), (28, (.iload_n 1, 29, 0, 0)), (29, (.ireturn, 30, 0, 0))]
def vtb135 : List (Nat × vI) := [(0, (.aload_n 0, 1, 0, 0)), (1, (.invokevirtual 265, 4, 0, 0)), (4, (.istore_n 1, 5, 0, 0)), (5, (.aload_n 0, 6, 0, 0)), (6, (.bipush 43, 8, 0, 43)), (8, (.invokevirtual 229, 11, 0, 0)), (11, (.ifCond .ne 12, 14, 23, 0)), (14, (.aload_n 0, 15, 0, 0)), (15, (.bipush 45, 17, 0, 45)), (17, (.invokevirtual 229, 20, 0, 0)), (20, (.ifCond .eq 46, 23, 66, 0)), (23, (.aload_n 0, 24, 0, 0)), (24, (.getfield 182, 27, 0, 0)), (27, (.ldc2_w 246, 30, 0, 0)), (30, (.lcmp, 31, 0, 0)), (31, (.ifCond .ne 7, 34, 38, 0)), (34, (.iconst 1, 35, 0, 1)), (35, (.goto 4, 38, 39, 0)), (38, (.iconst 0, 39, 0, 0)), (39, (.istore_n 2, 40, 0, 0)), (40, (.aload_n 0, 41, 0, 0)), (41, (.invokevirtual 204, 44, 0, 0)), (44, (.aload_n 0, 45, 0, 0)), (45, (.invokevirtual 265, 48, 0, 0)), (48, (.istore_n 3, 49, 0, 0)), (49, (.iload_n 2, 50, 0, 0)), (50, (.ifCond .eq 9, 53, 59, 0)), (53, (.iload_n 1, 54, 0, 0)), (54, (.iload_n 3, 55, 0, 0)), (55, (.iadd, 56, 0, 0)), (56, (.goto 6, 59, 62, 0)), (59, (.iload_n 1, 60, 0, 0)), (60, (.iload_n 3, 61, 0, 0)), (61, (.isub, 62, 0, 0)), (62, (.istore_n 1, 63, 0, 0)), (63, (.goto (-58), 66, 5, 0)), (66, (.iload_n 1, 67, 0, 0)), (67, (.ireturn, 68, 0, 0))]
def vtb136 : List (Nat × vI) := [(0, (.aload_n 0, 1, 0, 0)), (1, (.bipush 110, 3, 0, 110)), (3, (.bipush 111, 5, 0, 111)), (5, (.bipush 116, 7, 0, 116)), (7, (.iconst 0, 8, 0, 0)), (8, (.iconst 0, 9, 0, 0)), (9, (.iconst 0, 10, 0, 0)), (10, (.iconst 0, 11, 0, 0)), (11, (.iconst 0, 12, 0, 0)), (12, (.invokevirtual 207, 15, 0, 0)), (15, (.ifCond .eq 37, 18, 52, 0)), (18, (.aload_n 0, 19, 0, 0)), (19, (.invokevirtual 232, 22, 0, 0)), (22, (.ifCond .ne 5, 25, 27, 0)), (25, (.iconst 0, 26, 0, 0)), (26, (.ireturn, 27, 0, 0)), (27, (.aload_n 0, 28, 0, 0)), (28, (.invokevirtual 253, 31, 0, 0)), (31, (.istore_n 1, 32, 0, 0)), (32, (.aload_n 0, 33, 0, 0)), (33, (.dup, 34, 0, 0)), (34, (.getfield 198, 37, 0, 0)), (37, (.iconst 1, 38, 0, 1)), (38, (.isub, 39, 0, 0)), (39, (.putfield 198, 42, 0, 0)), (42, (.iload_n 1, 43, 0, 0)), (43, (.ifCond .ne 7, 46, 50, 0)), (46, (.iconst 1, 47, 0, 1)), (47, (.goto 4, 50, 51, 0)), (50, (.iconst 0, 51, 0, 0)), (51, (.ireturn, 52, 0, 0)), (52, (.aload_n 0, 53, 0, 0)), (53, (.invokevirtual 268, 56, 0, 0)), (56, (.istore_n 1, 57, 0, 0)), (57, (.aload_n 0, 58, 0, 0)), (58, (.bipush 60, 60, 0, 60)), (60, (.invokevirtual 229, 63, 0, 0)), (63, (.ifCond .ne 14, 66, 77, 0)), (66, (.aload_n 0, 67, 0, 0)), (67, (.bipush 61, 69, 0, 61)), (69, (.invokevirtual 229, 72, 0, 0)), (72, (.ifCond .ne 5, 75, 77, 0)), (75, (.iload_n 1, 76, 0, 0)), (76, (.ireturn, 77, 0, 0)), (77, (.aload_n 0, 78, 0, 0)), (78, (.getfield 182, 81, 0, 0)), (81, (.ldc2_w 251, 84, 0, 0)), (84, (.lcmp, 85, 0, 0)), (85, (.ifCond .ne 7, 88, 92, 0)), (88, (.iconst 1, 89, 0, 1)), (89, (.goto 4, 92, 93, 0)), (92, (.iconst 0, 93, 0, 0)), (93, (.istore_n 2, 94, 0, 0)), (94, (.aload_n 0, 95, 0, 0)), (95, (.invokevirtual 204, 98, 0, 0)), (98, (.aload_n 0, 99, 0, 0)), (99, (.invokevirtual 268, 102, 0, 0)), (102, (.istore_n 3, 103, 0, 0)), (103, (.iload_n 2, 104, 0, 0)), (104, (.ifCond .eq 11, 107, 115, 0)), (107, (.iload_n 1, 108, 0, 0)), (108, (.iload_n 3, 109, 0, 0)), (109, (.if_icmp .ge 15, 112, 124, 0)), (112, (.goto 8, 115, 120, 0)), (115, (.iload_n 1, 116, 0, 0)), (116, (.iload_n 3, 117, 0, 0)), (117, (.if_icmp .ne 7, 120, 124, 0)), (120, (.iconst 1, 121, 0, 1)), (121, (.goto 4, 124, 125, 0)), (124, (.iconst 0, 125, 0, 0)), (125, (.ireturn, 126, 0, 0))]
def vtb137 : List (Nat × vI) := [(0, (.aload_n 0, 1, 0, 0)), (1, (.invokevirtual 271, 4, 0, 0)), (4, (.istore_n 1, 5, 0, 0)), (5, (.aload_n 0, 6, 0, 0)), (6, (.bipush 97, 8, 0, 97)), (8, (.bipush 110, 10, 0, 110)), (10, (.bipush 100, 12, 0, 100)), (12, (.iconst 0, 13, 0, 0)), (13, (.iconst 0, 14, 0, 0)), (14, (.iconst 0, 15, 0, 0)), (15, (.iconst 0, 16, 0, 0)), (16, (.iconst 0, 17, 0, 0)), (17, (.invokevirtual 207, 20, 0, 0)), (20, (.ifCond .eq 29, 23, 49, 0)), (23, (.aload_n 0, 24, 0, 0)), (24, (.invokevirtual 204, 27, 0, 0)), (27, (.aload_n 0, 28, 0, 0)), (28, (.invokevirtual 271, 31, 0, 0)), (31, (.istore_n 2, 32, 0, 0)), (32, (.iload_n 1, 33, 0, 0)), (33, (.ifCond .eq 11, 36, 44, 0)), (36, (.iload_n 2, 37, 0, 0)), (37, (.ifCond .eq 7, 40, 44, 0)), (40, (.iconst 1, 41, 0, 1)), (41, (.goto 4, 44, 45, 0)), (44, (.iconst 0, 45, 0, 0)), (45, (.istore_n 1, 46, 0, 0)), (46, (.goto (-41), 49, 5, 0)), (49, (.iload_n 1, 50, 0, 0)), (50, (.ireturn, 51, 0, 0))]
def vtb138 : List (Nat × vI) := [(0, (.aload_n 0, 1, 0, 0)), (1, (.invokevirtual 274, 4, 0, 0)), (4, (.istore_n 1, 5, 0, 0)), (5, (.aload_n 0, 6, 0, 0)), (6, (.bipush 111, 8, 0, 111)), (8, (.bipush 114, 10, 0, 114)), (10, (.iconst 0, 11, 0, 0)), (11, (.iconst 0, 12, 0, 0)), (12, (.iconst 0, 13, 0, 0)), (13, (.iconst 0, 14, 0, 0)), (14, (.iconst 0, 15, 0, 0)), (15, (.iconst 0, 16, 0, 0)), (16, (.invokevirtual 207, 19, 0, 0)), (19, (.ifCond .eq 29, 22, 48, 0)), (22, (.aload_n 0, 23, 0, 0)), (23, (.invokevirtual 204, 26, 0, 0)), (26, (.aload_n 0, 27, 0, 0)), (27, (.invokevirtual 274, 30, 0, 0)), (30, (.istore_n 2, 31, 0, 0)), (31, (.iload_n 1, 32, 0, 0)), (32, (.ifCond .ne 7, 35, 39, 0)), (35, (.iload_n 2, 36, 0, 0)), (36, (.ifCond .eq 7, 39, 43, 0)), (39, (.iconst 1, 40, 0, 1)), (40, (.goto 4, 43, 44, 0)), (43, (.iconst 0, 44, 0, 0)), (44, (.istore_n 1, 45, 0, 0)), (45, (.goto (-40), 48, 5, 0)), (48, (.iload_n 1, 49, 0, 0)), (49, (.ireturn, 50, 0, 0))]
def vtb139 : List (Nat × vI) := [(0, (.iconst 0, 1, 0, 0)), (1, (.istore_n 1, 2, 0, 0)), (2, (.aload_n 0, 3, 0, 0)), (3, (.bipush 45, 5, 0, 45)), (5, (.invokevirtual 229, 8, 0, 0)), (8, (.ifCond .eq 29, 11, 37, 0)), (11, (.aload_n 0, 12, 0, 0)), (12, (.invokevirtual 232, 15, 0, 0)), (15, (.ifCond .eq 146, 18, 161, 0)), (18, (.aload_n 0, 19, 0, 0)), (19, (.invokevirtual 262, 22, 0, 0)), (22, (.ineg, 23, 0, 0)), (23, (.istore_n 1, 24, 0, 0)), (24, (.aload_n 0, 25, 0, 0)), (25, (.dup, 26, 0, 0)), (26, (.getfield 198, 29, 0, 0)), (29, (.iconst 1, 30, 0, 1)), (30, (.isub, 31, 0, 0)), (31, (.putfield 198, 34, 0, 0)), (34, (.goto 127, 37, 161, 0)), (37, (.aload_n 0, 38, 0, 0)), (38, (.bipush 40, 40, 0, 40)), (40, (.invokevirtual 229, 43, 0, 0)), (43, (.ifCond .eq 52, 46, 95, 0)), (46, (.aload_n 0, 47, 0, 0)), (47, (.invokevirtual 232, 50, 0, 0)), (50, (.ifCond .eq 111, 53, 161, 0)), (53, (.aload_n 0, 54, 0, 0)), (54, (.invokevirtual 277, 57, 0, 0)), (57, (.istore_n 1, 58, 0, 0)), (58, (.aload_n 0, 59, 0, 0)), (59, (.bipush 41, 61, 0, 41)), (61, (.invokevirtual 229, 64, 0, 0)), (64, (.ifCond .ne 7, 67, 71, 0)), (67, (.aload_n 0, 68, 0, 0)), (68, (.invokevirtual 201, 71, 0, 0)), (71, (.aload_n 0, 72, 0, 0)), (72, (.dup, 73, 0, 0)), (73, (.getfield 198, 76, 0, 0)), (76, (.iconst 1, 77, 0, 1)), (77, (.isub, 78, 0, 0)), (78, (.putfield 198, 81, 0, 0)), (81, (.aload_n 0, 82, 0, 0)), (82, (.getfield 188, 85, 0, 0)), (85, (.ifCond .ne 76, 88, 161, 0)), (88, (.aload_n 0, 89, 0, 0)), (89, (.invokevirtual 204, 92, 0, 0)), (92, (.goto 69, 95, 161, 0)), (95, (.aload_n 0, 96, 0, 0)), (96, (.getfield 188, 99, 0, 0)), (99, (.ifCond .ne 24, 102, 123, 0)), (102, (.aload_n 0, 103, 0, 0)), (103, (.getfield 171, 106, 0, 0)), (106, (.iconst 2, 107, 0, 2)), (107, (.if_icmp .ne 16, 110, 123, 0)), (110, (.aload_n 0, 111, 0, 0)), (111, (.getfield 182, 114, 0, 0)), (114, (.l2i, 115, 0, 0)), (115, (.istore_n 1, 116, 0, 0)), (116, (.aload_n 0, 117, 0, 0)), (117, (.invokevirtual 204, 120, 0, 0)), (120, (.goto 41, 123, 161, 0)), (123, (.aload_n 0, 124, 0, 0)), (124, (.getfield 188, 127, 0, 0)), (127, (.ifCond .ne 30, 130, 157, 0)), (130, (.aload_n 0, 131, 0, 0)), (131, (.getfield 171, 134, 0, 0)), (134, (.iconst 1, 135, 0, 1)), (135, (.if_icmp .ne 22, 138, 157, 0)), (138, (.aload_n 0, 139, 0, 0)), (139, (.invokevirtual 236, 142, 0, 0)), (142, (.istore_n 1, 143, 0, 0)), (143, (.aload_n 0, 144, 0, 0)), (144, (.getfield 188, 147, 0, 0)), (147, (.ifCond .ne 14, 150, 161, 0)), (150, (.aload_n 0, 151, 0, 0)), (151, (.invokevirtual 204, 154, 0, 0)), (154, (.goto 7, 157, 161, 0)), (157, (.aload_n 0, 158, 0, 0)), (158, (.invokevirtual 201, 161, 0, 0)), (161, (.iload_n 1, 162, 0, 0)), (162, (.ireturn, 163, 0, 0))]
def vtb140 : List (Nat × vI) := [(0, (.aload_n 0, 1, 0, 0)), (1, (.invokevirtual 280, 4, 0, 0)), (4, (.istore_n 1, 5, 0, 0)), (5, (.aload_n 0, 6, 0, 0)), (6, (.bipush 42, 8, 0, 42)), (8, (.invokevirtual 229, 11, 0, 0)), (11, (.ifCond .eq 17, 14, 28, 0)), (14, (.aload_n 0, 15, 0, 0)), (15, (.invokevirtual 204, 18, 0, 0)), (18, (.iload_n 1, 19, 0, 0)), (19, (.aload_n 0, 20, 0, 0)), (20, (.invokevirtual 280, 23, 0, 0)), (23, (.imul, 24, 0, 0)), (24, (.istore_n 1, 25, 0, 0)), (25, (.goto (-20), 28, 5, 0)), (28, (.iload_n 1, 29, 0, 0)), (29, (.ireturn, 30, 0, 0))]
def vtb141 : List (Nat × vI) := [(0, (.aload_n 0, 1, 0, 0)), (1, (.invokevirtual 283, 4, 0, 0)), (4, (.istore_n 1, 5, 0, 0)), (5, (.aload_n 0, 6, 0, 0)), (6, (.bipush 43, 8, 0, 43)), (8, (.invokevirtual 229, 11, 0, 0)), (11, (.ifCond .ne 12, 14, 23, 0)), (14, (.aload_n 0, 15, 0, 0)), (15, (.bipush 45, 17, 0, 45)), (17, (.invokevirtual 229, 20, 0, 0)), (20, (.ifCond .eq 46, 23, 66, 0)), (23, (.aload_n 0, 24, 0, 0)), (24, (.getfield 182, 27, 0, 0)), (27, (.ldc2_w 246, 30, 0, 0)), (30, (.lcmp, 31, 0, 0)), (31, (.ifCond .ne 7, 34, 38, 0)), (34, (.iconst 1, 35, 0, 1)), (35, (.goto 4, 38, 39, 0)), (38, (.iconst 0, 39, 0, 0)), (39, (.istore_n 2, 40, 0, 0)), (40, (.aload_n 0, 41, 0, 0)), (41, (.invokevirtual 204, 44, 0, 0)), (44, (.aload_n 0, 45, 0, 0)), (45, (.invokevirtual 283, 48, 0, 0)), (48, (.istore_n 3, 49, 0, 0)), (49, (.iload_n 2, 50, 0, 0)), (50, (.ifCond .eq 9, 53, 59, 0)), (53, (.iload_n 1, 54, 0, 0)), (54, (.iload_n 3, 55, 0, 0)), (55, (.iadd, 56, 0, 0)), (56, (.goto 6, 59, 62, 0)), (59, (.iload_n 1, 60, 0, 0)), (60, (.iload_n 3, 61, 0, 0)), (61, (.isub, 62, 0, 0)), (62, (.istore_n 1, 63, 0, 0)), (63, (.goto (-58), 66, 5, 0)), (66, (.iload_n 1, 67, 0, 0)), (67, (.ireturn, 68, 0, 0))]
def vtb142 : List (Nat × vI) := [(0, (.aload_n 0, 1, 0, 0)), (1, (.bipush 110, 3, 0, 110)), (3, (.bipush 111, 5, 0, 111)), (5, (.bipush 116, 7, 0, 116)), (7, (.iconst 0, 8, 0, 0)), (8, (.iconst 0, 9, 0, 0)), (9, (.iconst 0, 10, 0, 0)), (10, (.iconst 0, 11, 0, 0)), (11, (.iconst 0, 12, 0, 0)), (12, (.invokevirtual 207, 15, 0, 0)), (15, (.ifCond .eq 37, 18, 52, 0)), (18, (.aload_n 0, 19, 0, 0)), (19, (.invokevirtual 232, 22, 0, 0)), (22, (.ifCond .ne 5, 25, 27, 0)), (25, (.iconst 0, 26, 0, 0)), (26, (.ireturn, 27, 0, 0)), (27, (.aload_n 0, 28, 0, 0)), (28, (.invokevirtual 271, 31, 0, 0)), (31, (.istore_n 1, 32, 0, 0)), (32, (.aload_n 0, 33, 0, 0)), (33, (.dup, 34, 0, 0)), (34, (.getfield 198, 37, 0, 0)), (37, (.iconst 1, 38, 0, 1)), (38, (.isub, 39, 0, 0)), (39, (.putfield 198, 42, 0, 0)), (42, (.iload_n 1, 43, 0, 0)), (43, (.ifCond .ne 7, 46, 50, 0)), (46, (.iconst 1, 47, 0, 1)), (47, (.goto 4, 50, 51, 0)), (50, (.iconst 0, 51, 0, 0)), (51, (.ireturn, 52, 0, 0)), (52, (.aload_n 0, 53, 0, 0)), (53, (.invokevirtual 286, 56, 0, 0)), (56, (.istore_n 1, 57, 0, 0)), (57, (.aload_n 0, 58, 0, 0)), (58, (.bipush 60, 60, 0, 60)), (60, (.invokevirtual 229, 63, 0, 0)), (63, (.ifCond .ne 14, 66, 77, 0)), (66, (.aload_n 0, 67, 0, 0)), (67, (.bipush 61, 69, 0, 61)), (69, (.invokevirtual 229, 72, 0, 0)), (72, (.ifCond .ne 5, 75, 77, 0)), (75, (.iload_n 1, 76, 0, 0)), (76, (.ireturn, 77, 0, 0)), (77, (.aload_n 0, 78, 0, 0)), (78, (.getfield 182, 81, 0, 0)), (81, (.ldc2_w 251, 84, 0, 0)), (84, (.lcmp, 85, 0, 0)), (85, (.ifCond .ne 7, 88, 92, 0)), (88, (.iconst 1, 89, 0, 1)), (89, (.goto 4, 92, 93, 0)), (92, (.iconst 0, 93, 0, 0)), (93, (.istore_n 2, 94, 0, 0)), (94, (.aload_n 0, 95, 0, 0)), (95, (.invokevirtual 204, 98, 0, 0)), (98, (.aload_n 0, 99, 0, 0)), (99, (.invokevirtual 286, 102, 0, 0)), (102, (.istore_n 3, 103, 0, 0)), (103, (.iload_n 2, 104, 0, 0)), (104, (.ifCond .eq 11, 107, 115, 0)), (107, (.iload_n 1, 108, 0, 0)), (108, (.iload_n 3, 109, 0, 0)), (109, (.if_icmp .ge 15, 112, 124, 0)), (112, (.goto 8, 115, 120, 0)), (115, (.iload_n 1, 116, 0, 0)), (116, (.iload_n 3, 117, 0, 0)), (117, (.if_icmp .ne 7, 120, 124, 0)), (120, (.iconst 1, 121, 0, 1)), (121, (.goto 4, 124, 125, 0)), (124, (.iconst 0, 125, 0, 0)), (125, (.ireturn, 126, 0, 0))]
def vtb143 : List (Nat × vI) := [(0, (.aload_n 0, 1, 0, 0)), (1, (.invokevirtual 289, 4, 0, 0)), (4, (.istore_n 1, 5, 0, 0)), (5, (.aload_n 0, 6, 0, 0)), (6, (.bipush 97, 8, 0, 97)), (8, (.bipush 110, 10, 0, 110)), (10, (.bipush 100, 12, 0, 100)), (12, (.iconst 0, 13, 0, 0)), (13, (.iconst 0, 14, 0, 0)), (14, (.iconst 0, 15, 0, 0)), (15, (.iconst 0, 16, 0, 0)), (16, (.iconst 0, 17, 0, 0)), (17, (.invokevirtual 207, 20, 0, 0)), (20, (.ifCond .eq 29, 23, 49, 0)), (23, (.aload_n 0, 24, 0, 0)), (24, (.invokevirtual 204, 27, 0, 0)), (27, (.aload_n 0, 28, 0, 0)), (28, (.invokevirtual 289, 31, 0, 0)), (31, (.istore_n 2, 32, 0, 0)), (32, (.iload_n 1, 33, 0, 0)), (33, (.ifCond .eq 11, 36, 44, 0)), (36, (.iload_n 2, 37, 0, 0)), (37, (.ifCond .eq 7, 40, 44, 0)), (40, (.iconst 1, 41, 0, 1)), (41, (.goto 4, 44, 45, 0)), (44, (.iconst 0, 45, 0, 0)), (45, (.istore_n 1, 46, 0, 0)), (46, (.goto (-41), 49, 5, 0)), (49, (.iload_n 1, 50, 0, 0)), (50, (.ireturn, 51, 0, 0))]
def vtb144 : List (Nat × vI) := [(0, (.aload_n 0, 1, 0, 0)), (1, (.invokevirtual 292, 4, 0, 0)), (4, (.istore_n 1, 5, 0, 0)), (5, (.aload_n 0, 6, 0, 0)), (6, (.bipush 111, 8, 0, 111)), (8, (.bipush 114, 10, 0, 114)), (10, (.iconst 0, 11, 0, 0)), (11, (.iconst 0, 12, 0, 0)), (12, (.iconst 0, 13, 0, 0)), (13, (.iconst 0, 14, 0, 0)), (14, (.iconst 0, 15, 0, 0)), (15, (.iconst 0, 16, 0, 0)), (16, (.invokevirtual 207, 19, 0, 0)), (19, (.ifCond .eq 29, 22, 48, 0)), (22, (.aload_n 0, 23, 0, 0)), (23, (.invokevirtual 204, 26, 0, 0)), (26, (.aload_n 0, 27, 0, 0)), (27, (.invokevirtual 292, 30, 0, 0)), (30, (.istore_n 2, 31, 0, 0)), (31, (.iload_n 1, 32, 0, 0)), (32, (.ifCond .ne 7, 35, 39, 0)), (35, (.iload_n 2, 36, 0, 0)), (36, (.ifCond .eq 7, 39, 43, 0)), (39, (.iconst 1, 40, 0, 1)), (40, (.goto 4, 43, 44, 0)), (43, (.iconst 0, 44, 0, 0)), (44, (.istore_n 1, 45, 0, 0)), (45, (.goto (-40), 48, 5, 0)), (48, (.iload_n 1, 49, 0, 0)), (49, (.ireturn, 50, 0, 0))]
def vtb145 : List (Nat × vI) := [(0, (.iconst 0, 1, 0, 0)), (1, (.istore_n 1, 2, 0, 0)), (2, (.aload_n 0, 3, 0, 0)), (3, (.bipush 45, 5, 0, 45)), (5, (.invokevirtual 229, 8, 0, 0)), (8, (.ifCond .eq 29, 11, 37, 0)), (11, (.aload_n 0, 12, 0, 0)), (12, (.invokevirtual 232, 15, 0, 0)), (15, (.ifCond .eq 146, 18, 161, 0)), (18, (.aload_n 0, 19, 0, 0)), (19, (.invokevirtual 280, 22, 0, 0)), (22, (.ineg, 23, 0, 0)), (23, (.istore_n 1, 24, 0, 0)), (24, (.aload_n 0, 25, 0, 0)), (25, (.dup, 26, 0, 0)), (26, (.getfield 198, 29, 0, 0)), (29, (.iconst 1, 30, 0, 1)), (30, (.isub, 31, 0, 0)), (31, (.putfield 198, 34, 0, 0)), (34, (.goto 127, 37, 161, 0)), (37, (.aload_n 0, 38, 0, 0)), (38, (.bipush 40, 40, 0, 40)), (40, (.invokevirtual 229, 43, 0, 0)), (43, (.ifCond .eq 52, 46, 95, 0)), (46, (.aload_n 0, 47, 0, 0)), (47, (.invokevirtual 232, 50, 0, 0)), (50, (.ifCond .eq 111, 53, 161, 0)), (53, (.aload_n 0, 54, 0, 0)), (54, (.invokevirtual 295, 57, 0, 0)), (57, (.istore_n 1, 58, 0, 0)), (58, (.aload_n 0, 59, 0, 0)), (59, (.bipush 41, 61, 0, 41)), (61, (.invokevirtual 229, 64, 0, 0)), (64, (.ifCond .ne 7, 67, 71, 0)), (67, (.aload_n 0, 68, 0, 0)), (68, (.invokevirtual 201, 71, 0, 0)), (71, (.aload_n 0, 72, 0, 0)), (72, (.dup, 73, 0, 0)), (73, (.getfield 198, 76, 0, 0)), (76, (.iconst 1, 77, 0, 1)), (77, (.isub, 78, 0, 0)), (78, (.putfield 198, 81, 0, 0)), (81, (.aload_n 0, 82, 0, 0)), (82, (.getfield 188, 85, 0, 0)), (85, (.ifCond .ne 76, 88, 161, 0)), (88, (.aload_n 0, 89, 0, 0)), (89, (.invokevirtual 204, 92, 0, 0)), (92, (.goto 69, 95, 161, 0)), (95, (.aload_n 0, 96, 0, 0)), (96, (.getfield 188, 99, 0, 0)), (99, (.ifCond .ne 24, 102, 123, 0)), (102, (.aload_n 0, 103, 0, 0)), (103, (.getfield 171, 106, 0, 0)), (106, (.iconst 2, 107, 0, 2)), (107, (.if_icmp .ne 16, 110, 123, 0)), (110, (.aload_n 0, 111, 0, 0)), (111, (.getfield 182, 114, 0, 0)), (114, (.l2i, 115, 0, 0)), (115, (.istore_n 1, 116, 0, 0)), (116, (.aload_n 0, 117, 0, 0)), (117, (.invokevirtual 204, 120, 0, 0)), (120, (.goto 41, 123, 161, 0)), (123, (.aload_n 0, 124, 0, 0)), (124, (.getfield 188, 127, 0, 0)), (127, (.ifCond .ne 30, 130, 157, 0)), (130, (.aload_n 0, 131, 0, 0)), (131, (.getfield 171, 134, 0, 0)), (134, (.iconst 1, 135, 0, 1)), (135, (.if_icmp .ne 22, 138, 157, 0)), (138, (.aload_n 0, 139, 0, 0)), (139, (.invokevirtual 236, 142, 0, 0)), (142, (.istore_n 1, 143, 0, 0)), (143, (.aload_n 0, 144, 0, 0)), (144, (.getfield 188, 147, 0, 0)), (147, (.ifCond .ne 14, 150, 161, 0)), (150, (.aload_n 0, 151, 0, 0)), (151, (.invokevirtual 204, 154, 0, 0)), (154, (.goto 7, 157, 161, 0)), (157, (.aload_n 0, 158, 0, 0)), (158, (.invokevirtual 201, 161, 0, 0)), (161, (.iload_n 1, 162, 0, 0)), (162, (.ireturn, 163, 0, 0))]
def vtb146 : List (Nat × vI) := [(0, (.aload_n 0, 1, 0, 0)), (1, (.invokevirtual 298, 4, 0, 0)), (4, (.istore_n 1, 5, 0, 0)), (5, (.aload_n 0, 6, 0, 0)), (6, (.bipush 42, 8, 0, 42)), (8, (.invokevirtual 229, 11, 0, 0)), (11, (.ifCond .eq 17, 14, 28, 0)), (14, (.aload_n 0, 15, 0, 0)), (15, (.invokevirtual 204, 18, 0, 0)), (18, (.iload_n 1, 19, 0, 0)), (19, (.aload_n 0, 20, 0, 0)), (20, (.invokevirtual 298, 23, 0, 0)), (23, (.imul, 24, 0, 0)), (24, (.istore_n 1, 25, 0, 0)), (25, (.goto (-20), 28, 5, 0)), (28, (.iload_n 1, 29, 0, 0)), (29, (.ireturn, 30, 0, 0))]
def vtb147 : List (Nat × vI) := [(0, (.aload_n 0, 1, 0, 0)), (1, (.invokevirtual 301, 4, 0, 0)), (4, (.istore_n 1, 5, 0, 0)), (5, (.aload_n 0, 6, 0, 0)), (6, (.bipush 43, 8, 0, 43)), (8, (.invokevirtual 229, 11, 0, 0)), (11, (.ifCond .ne 12, 14, 23, 0)), (14, (.aload_n 0, 15, 0, 0)), (15, (.bipush 45, 17, 0, 45)), (17, (.invokevirtual 229, 20, 0, 0)), (20, (.ifCond .eq 46, 23, 66, 0)), (23, (.aload_n 0, 24, 0, 0)), (24, (.getfield 182, 27, 0, 0)), (27, (.ldc2_w 246, 30, 0, 0)), (30, (.lcmp, 31, 0, 0)), (31, (.ifCond .ne 7, 34, 38, 0)), (34, (.iconst 1, 35, 0, 1)), (35, (.goto 4, 38, 39, 0)), (38, (.iconst 0, 39, 0, 0)), (39, (.istore_n 2, 40, 0, 0)), (40, (.aload_n 0, 41, 0, 0)), (41, (.invokevirtual 204, 44, 0, 0)), (44, (.aload_n 0, 45, 0, 0)), (45, (.invokevirtual 301, 48, 0, 0)), (48, (.istore_n 3, 49, 0, 0)), (49, (.iload_n 2, 50, 0, 0)), (50, (.ifCond .eq 9, 53, 59, 0)), (53, (.iload_n 1, 54, 0, 0)), (54, (.iload_n 3, 55, 0, 0)), (55, (.iadd, 56, 0, 0)), (56, (.goto 6, 59, 62, 0)), (59, (.iload_n 1, 60, 0, 0)), (60, (.iload_n 3, 61, 0, 0)), (61, (.isub, 62, 0, 0)), (62, (.istore_n 1, 63, 0, 0)), (63, (.goto (-58), 66, 5, 0)), (66, (.iload_n 1, 67, 0, 0)), (67, (.ireturn, 68, 0, 0))]
def vtb148 : List (Nat × vI) := [(0, (.aload_n 0, 1, 0, 0)), (1, (.bipush 110, 3, 0, 110)), (3, (.bipush 111, 5, 0, 111)), (5, (.bipush 116, 7, 0, 116)), (7, (.iconst 0, 8, 0, 0)), (8, (.iconst 0, 9, 0, 0)), (9, (.iconst 0, 10, 0, 0)), (10, (.iconst 0, 11, 0, 0)), (11, (.iconst 0, 12, 0, 0)), (12, (.invokevirtual 207, 15, 0, 0)), (15, (.ifCond .eq 37, 18, 52, 0)), (18, (.aload_n 0, 19, 0, 0)), (19, (.invokevirtual 232, 22, 0, 0)), (22, (.ifCond .ne 5, 25, 27, 0)), (25, (.iconst 0, 26, 0, 0)), (26, (.ireturn, 27, 0, 0)), (27, (.aload_n 0, 28, 0, 0)), (28, (.invokevirtual 289, 31, 0, 0)), (31, (.istore_n 1, 32, 0, 0)), (32, (.aload_n 0, 33, 0, 0)), (33, (.dup, 34, 0, 0)), (34, (.getfield 198, 37, 0, 0)), (37, (.iconst 1, 38, 0, 1)), (38, (.isub, 39, 0, 0)), (39, (.putfield 198, 42, 0, 0)), (42, (.iload_n 1, 43, 0, 0)), (43, (.ifCond .ne 7, 46, 50, 0)), (46, (.iconst 1, 47, 0, 1)), (47, (.goto 4, 50, 51, 0)), (50, (.iconst 0, 51, 0, 0)), (51, (.ireturn, 52, 0, 0)), (52, (.aload_n 0, 53, 0, 0)), (53, (.invokevirtual 304, 56, 0, 0)), (56, (.istore_n 1, 57, 0, 0)), (57, (.aload_n 0, 58, 0, 0)), (58, (.bipush 60, 60, 0, 60)), (60, (.invokevirtual 229, 63, 0, 0)), (63, (.ifCond .ne 14, 66, 77, 0)), (66, (.aload_n 0, 67, 0, 0)), (67, (.bipush 61, 69, 0, 61)), (69, (.invokevirtual 229, 72, 0, 0)), (72, (.ifCond .ne 5, 75, 77, 0)), (75, (.iload_n 1, 76, 0, 0)), (76, (.ireturn, 77, 0, 0)), (77, (.aload_n 0, 78, 0, 0)), (78, (.getfield 182, 81, 0, 0)), (81, (.ldc2_w 251, 84, 0, 0)), (84, (.lcmp, 85, 0, 0)), (85, (.ifCond .ne 7, 88, 92, 0)), (88, (.iconst 1, 89, 0, 1)), (89, (.goto 4, 92, 93, 0)), (92, (.iconst 0, 93, 0, 0)), (93, (.istore_n 2, 94, 0, 0)), (94, (.aload_n 0, 95, 0, 0)), (95, (.invokevirtual 204, 98, 0, 0)), (98, (.aload_n 0, 99, 0, 0)), (99, (.invokevirtual 304, 102, 0, 0)), (102, (.istore_n 3, 103, 0, 0)), (103, (.iload_n 2, 104, 0, 0)), (104, (.ifCond .eq 11, 107, 115, 0)), (107, (.iload_n 1, 108, 0, 0)), (108, (.iload_n 3, 109, 0, 0)), (109, (.if_icmp .ge 15, 112, 124, 0)), (112, (.goto 8, 115, 120, 0)), (115, (.iload_n 1, 116, 0, 0)), (116, (.iload_n 3, 117, 0, 0)), (117, (.if_icmp .ne 7, 120, 124, 0)), (120, (.iconst 1, 121, 0, 1)), (121, (.goto 4, 124, 125, 0)), (124, (.iconst 0, 125, 0, 0)), (125, (.ireturn, 126, 0, 0))]
def vtb149 : List (Nat × vI) := [(0, (.aload_n 0, 1, 0, 0)), (1, (.invokevirtual 307, 4, 0, 0)), (4, (.istore_n 1, 5, 0, 0)), (5, (.aload_n 0, 6, 0, 0)), (6, (.bipush 97, 8, 0, 97)), (8, (.bipush 110, 10, 0, 110)), (10, (.bipush 100, 12, 0, 100)), (12, (.iconst 0, 13, 0, 0)), (13, (.iconst 0, 14, 0, 0)), (14, (.iconst 0, 15, 0, 0)), (15, (.iconst 0, 16, 0, 0)), (16, (.iconst 0, 17, 0, 0)), (17, (.invokevirtual 207, 20, 0, 0)), (20, (.ifCond .eq 29, 23, 49, 0)), (23, (.aload_n 0, 24, 0, 0)), (24, (.invokevirtual 204, 27, 0, 0)), (27, (.aload_n 0, 28, 0, 0)), (28, (.invokevirtual 307, 31, 0, 0)), (31, (.istore_n 2, 32, 0, 0)), (32, (.iload_n 1, 33, 0, 0)), (33, (.ifCond .eq 11, 36, 44, 0)), (36, (.iload_n 2, 37, 0, 0)), (37, (.ifCond .eq 7, 40, 44, 0)), (40, (.iconst 1, 41, 0, 1)), (41, (.goto 4, 44, 45, 0)), (44, (.iconst 0, 45, 0, 0)), (45, (.istore_n 1, 46, 0, 0)), (46, (.goto (-41), 49, 5, 0)), (49, (.iload_n 1, 50, 0, 0)), (50, (.ireturn, 51, 0, 0))]
def vtb150 : List (Nat × vI) := [(0, (.aload_n 0, 1, 0, 0)), (1, (.invokevirtual 310, 4, 0, 0)), (4, (.istore_n 1, 5, 0, 0)), (5, (.aload_n 0, 6, 0, 0)), (6, (.bipush 111, 8, 0, 111)), (8, (.bipush 114, 10, 0, 114)), (10, (.iconst 0, 11, 0, 0)), (11, (.iconst 0, 12, 0, 0)), (12, (.iconst 0, 13, 0, 0)), (13, (.iconst 0, 14, 0, 0)), (14, (.iconst 0, 15, 0, 0)), (15, (.iconst 0, 16, 0, 0)), (16, (.invokevirtual 207, 19, 0, 0)), (19, (.ifCond .eq 29, 22, 48, 0)), (22, (.aload_n 0, 23, 0, 0)), (23, (.invokevirtual 204, 26, 0, 0)), (26, (.aload_n 0, 27, 0, 0)), (27, (.invokevirtual 310, 30, 0, 0)), (30, (.istore_n 2, 31, 0, 0)), (31, (.iload_n 1, 32, 0, 0)), (32, (.ifCond .ne 7, 35, 39, 0)), (35, (.iload_n 2, 36, 0, 0)), (36, (.ifCond .eq 7, 39, 43, 0)), (39, (.iconst 1, 40, 0, 1)), (40, (.goto 4, 43, 44, 0)), (43, (.iconst 0, 44, 0, 0)), (44, (.istore_n 1, 45, 0, 0)), (45, (.goto (-40), 48, 5, 0)), (48, (.iload_n 1, 49, 0, 0)), (49, (.ireturn, 50, 0, 0))]
def vtb151 : List (Nat × vI) := [(0, (.iconst 0, 1, 0, 0)), (1, (.istore_n 1, 2, 0, 0)), (2, (.aload_n 0, 3, 0, 0)), (3, (.bipush 45, 5, 0, 45)), (5, (.invokevirtual 229, 8, 0, 0)), (8, (.ifCond .eq 29, 11, 37, 0)), (11, (.aload_n 0, 12, 0, 0)), (12, (.invokevirtual 232, 15, 0, 0)), (15, (.ifCond .eq 146, 18, 161, 0)), (18, (.aload_n 0, 19, 0, 0)), (19, (.invokevirtual 298, 22, 0, 0)), (22, (.ineg, 23, 0, 0)), (23, (.istore_n 1, 24, 0, 0)), (24, (.aload_n 0, 25, 0, 0)), (25, (.dup, 26, 0, 0)), (26, (.getfield 198, 29, 0, 0)), (29, (.iconst 1, 30, 0, 1)), (30, (.isub, 31, 0, 0)), (31, (.putfield 198, 34, 0, 0)), (34, (.goto 127, 37, 161, 0)), (37, (.aload_n 0, 38, 0, 0)), (38, (.bipush 40, 40, 0, 40)), (40, (.invokevirtual 229, 43, 0, 0)), (43, (.ifCond .eq 52, 46, 95, 0)), (46, (.aload_n 0, 47, 0, 0)), (47, (.invokevirtual 232, 50, 0, 0)), (50, (.ifCond .eq 111, 53, 161, 0)), (53, (.aload_n 0, 54, 0, 0)), (54, (.invokevirtual 313, 57, 0, 0)), (57, (.istore_n 1, 58, 0, 0)), (58, (.aload_n 0, 59, 0, 0)), (59, (.bipush 41, 61, 0, 41)), (61, (.invokevirtual 229, 64, 0, 0)), (64, (.ifCond .ne 7, 67, 71, 0)), (67, (.aload_n 0, 68, 0, 0)), (68, (.invokevirtual 201, 71, 0, 0)), (71, (.aload_n 0, 72, 0, 0)), (72, (.dup, 73, 0, 0)), (73, (.getfield 198, 76, 0, 0)), (76, (.iconst 1, 77, 0, 1)), (77, (.isub, 78, 0, 0)), (78, (.putfield 198, 81, 0, 0)), (81, (.aload_n 0, 82, 0, 0)), (82, (.getfield 188, 85, 0, 0)), (85, (.ifCond .ne 76, 88, 161, 0)), (88, (.aload_n 0, 89, 0, 0)), (89, (.invokevirtual 204, 92, 0, 0)), (92, (.goto 69, 95, 161, 0)), (95, (.aload_n 0, 96, 0, 0)), (96, (.getfield 188, 99, 0, 0)), (99, (.ifCond .ne 24, 102, 123, 0)), (102, (.aload_n 0, 103, 0, 0)), (103, (.getfield 171, 106, 0, 0)), (106, (.iconst 2, 107, 0, 2)), (107, (.if_icmp .ne 16, 110, 123, 0)), (110, (.aload_n 0, 111, 0, 0)), (111, (.getfield 182, 114, 0, 0)), (114, (.l2i, 115, 0, 0)), (115, (.istore_n 1, 116, 0, 0)), (116, (.aload_n 0, 117, 0, 0)), (117, (.invokevirtual 204, 120, 0, 0)), (120, (.goto 41, 123, 161, 0)), (123, (.aload_n 0, 124, 0, 0)), (124, (.getfield 188, 127, 0, 0)), (127, (.ifCond .ne 30, 130, 157, 0)), (130, (.aload_n 0, 131, 0, 0)), (131, (.getfield 171, 134, 0, 0)), (134, (.iconst 1, 135, 0, 1)), (135, (.if_icmp .ne 22, 138, 157, 0)), (138, (.aload_n 0, 139, 0, 0)), (139, (.invokevirtual 236, 142, 0, 0)), (142, (.istore_n 1, 143, 0, 0)), (143, (.aload_n 0, 144, 0, 0)), (144, (.getfield 188, 147, 0, 0)), (147, (.ifCond .ne 14, 150, 161, 0)), (150, (.aload_n 0, 151, 0, 0)), (151, (.invokevirtual 204, 154, 0, 0)), (154, (.goto 7, 157, 161, 0)), (157, (.aload_n 0, 158, 0, 0)), (158, (.invokevirtual 201, 161, 0, 0)), (161, (.iload_n 1, 162, 0, 0)), (162, (.ireturn, 163, 0, 0))]
def vtb152 : List (Nat × vI) := [(0, (.aload_n 0, 1, 0, 0)), (1, (.invokevirtual 316, 4, 0, 0)), (4, (.istore_n 1, 5, 0, 0)), (5, (.aload_n 0, 6, 0, 0)), (6, (.bipush 42, 8, 0, 42)), (8, (.invokevirtual 229, 11, 0, 0)), (11, (.ifCond .eq 17, 14, 28, 0)), (14, (.aload_n 0, 15, 0, 0)), (15, (.invokevirtual 204, 18, 0, 0)), (18, (.iload_n 1, 19, 0, 0)), (19, (.aload_n 0, 20, 0, 0)), (20, (.invokevirtual 316, 23, 0, 0)), (23, (.imul, 24, 0, 0)), (24, (.istore_n 1, 25, 0, 0)), (25, (.goto (-20), 28, 5, 0)), (28, (.iload_n 1, 29, 0, 0)), (29, (.ireturn, 30, 0, 0))]
def vtb153 : List (Nat × vI) := [(0, (.aload_n 0, 1, 0, 0)), (1, (.invokevirtual 319, 4, 0, 0)), (4, (.istore_n 1, 5, 0, 0)), (5, (.aload_n 0, 6, 0, 0)), (6, (.bipush 43, 8, 0, 43)), (8, (.invokevirtual 229, 11, 0, 0)), (11, (.ifCond .ne 12, 14, 23, 0)), (14, (.aload_n 0, 15, 0, 0)), (15, (.bipush 45, 17, 0, 45)), (17, (.invokevirtual 229, 20, 0, 0)), (20, (.ifCond .eq 46, 23, 66, 0)), (23, (.aload_n 0, 24, 0, 0)), (24, (.getfield 182, 27, 0, 0)), (27, (.ldc2_w 246, 30, 0, 0)), (30, (.lcmp, 31, 0, 0)), (31, (.ifCond .ne 7, 34, 38, 0)), (34, (.iconst 1, 35, 0, 1)), (35, (.goto 4, 38, 39, 0)), (38, (.iconst 0, 39, 0, 0)), (39, (.istore_n 2, 40, 0, 0)), (40, (.aload_n 0, 41, 0, 0)), (41, (.invokevirtual 204, 44, 0, 0)), (44, (.aload_n 0, 45, 0, 0)), (45, (.invokevirtual 319, 48, 0, 0)), (48, (.istore_n 3, 49, 0, 0)), (49, (.iload_n 2, 50, 0, 0)), (50, (.ifCond .eq 9, 53, 59, 0)), (53, (.iload_n 1, 54, 0, 0)), (54, (.iload_n 3, 55, 0, 0)), (55, (.iadd, 56, 0, 0)), (56, (.goto 6, 59, 62, 0)), (59, (.iload_n 1, 60, 0, 0)), (60, (.iload_n 3, 61, 0, 0)), (61, (.isub, 62, 0, 0)), (62, (.istore_n 1, 63, 0, 0)), (63, (.goto (-58), 66, 5, 0)), (66, (.iload_n 1, 67, 0, 0)), (67, (.ireturn, 68, 0, 0))]
def vtb154 : List (Nat × vI) := [(0, (.aload_n 0, 1, 0, 0)), (1, (.bipush 110, 3, 0, 110)), (3, (.bipush 111, 5, 0, 111)), (5, (.bipush 116, 7, 0, 116)), (7, (.iconst 0, 8, 0, 0)), (8, (.iconst 0, 9, 0, 0)), (9, (.iconst 0, 10, 0, 0)), (10, (.iconst 0, 11, 0, 0)), (11, (.iconst 0, 12, 0, 0)), (12, (.invokevirtual 207, 15, 0, 0)), (15, (.ifCond .eq 37, 18, 52, 0)), (18, (.aload_n 0, 19, 0, 0)), (19, (.invokevirtual 232, 22, 0, 0)), (22, (.ifCond .ne 5, 25, 27, 0)), (25, (.iconst 0, 26, 0, 0)), (26, (.ireturn, 27, 0, 0)), (27, (.aload_n 0, 28, 0, 0)), (28, (.invokevirtual 307, 31, 0, 0)), (31, (.istore_n 1, 32, 0, 0)), (32, (.aload_n 0, 33, 0, 0)), (33, (.dup, 34, 0, 0)), (34, (.getfield 198, 37, 0, 0)), (37, (.iconst 1, 38, 0, 1)), (38, (.isub, 39, 0, 0)), (39, (.putfield 198, 42, 0, 0)), (42, (.iload_n 1, 43, 0, 0)), (43, (.ifCond .ne 7, 46, 50, 0)), (46, (.iconst 1, 47, 0, 1)), (47, (.goto 4, 50, 51, 0)), (50, (.iconst 0, 51, 0, 0)), (51, (.ireturn, 52, 0, 0)), (52, (.aload_n 0, 53, 0, 0)), (53, (.invokevirtual 322, 56, 0, 0)), (56, (.istore_n 1, 57, 0, 0)), (57, (.aload_n 0, 58, 0, 0)), (58, (.bipush 60, 60, 0, 60)), (60, (.invokevirtual 229, 63, 0, 0)), (63, (.ifCond .ne 14, 66, 77, 0)), (66, (.aload_n 0, 67, 0, 0)), (67, (.bipush 61, 69, 0, 61)), (69, (.invokevirtual 229, 72, 0, 0)), (72, (.ifCond .ne 5, 75, 77, 0)), (75, (.iload_n 1, 76, 0, 0)), (76, (.ireturn, 77, 0, 0)), (77, (.aload_n 0, 78, 0, 0)), (78, (.getfield 182, 81, 0, 0)), (81, (.ldc2_w 251, 84, 0, 0)), (84, (.lcmp, 85, 0, 0)), (85, (.ifCond .ne 7, 88, 92, 0)), (88, (.iconst 1, 89, 0, 1)), (89, (.goto 4, 92, 93, 0)), (92, (.iconst 0, 93, 0, 0)), (93, (.istore_n 2, 94, 0, 0)), (94, (.aload_n 0, 95, 0, 0)), (95, (.invokevirtual 204, 98, 0, 0)), (98, (.aload_n 0, 99, 0, 0)), (99, (.invokevirtual 322, 102, 0, 0)), (102, (.istore_n 3, 103, 0, 0)), (103, (.iload_n 2, 104, 0, 0)), (104, (.ifCond .eq 11, 107, 115, 0)), (107, (.iload_n 1, 108, 0, 0)), (108, (.iload_n 3, 109, 0, 0)), (109, (.if_icmp .ge 15, 112, 124, 0)), (112, (.goto 8, 115, 120, 0)), (115, (.iload_n 1, 116, 0, 0)), (116, (.iload_n 3, 117, 0, 0)), (117, (.if_icmp .ne 7, 120, 124, 0)), (120, (.iconst 1, 121, 0, 1)), (121, (.goto 4, 124, 125, 0)), (124, (.iconst 0, 125, 0, 0)), (125, (.ireturn, 126, 0, 0))]
def vtb155 : List (Nat × vI) := [(0, (.aload_n 0, 1, 0, 0)), (1, (.invokevirtual 325, 4, 0, 0)), (4, (.istore_n 1, 5, 0, 0)), (5, (.aload_n 0, 6, 0, 0)), (6, (.bipush 97, 8, 0, 97)), (8, (.bipush 110, 10, 0, 110)), (10, (.bipush 100, 12, 0, 100)), (12, (.iconst 0, 13, 0, 0)), (13, (.iconst 0, 14, 0, 0)), (14, (.iconst 0, 15, 0, 0)), (15, (.iconst 0, 16, 0, 0)), (16, (.iconst 0, 17, 0, 0)), (17, (.invokevirtual 207, 20, 0, 0)), (20, (.ifCond .eq 29, 23, 49, 0)), (23, (.aload_n 0, 24, 0, 0)), (24, (.invokevirtual 204, 27, 0, 0)), (27, (.aload_n 0, 28, 0, 0)), (28, (.invokevirtual 325, 31, 0, 0)), (31, (.istore_n 2, 32, 0, 0)), (32, (.iload_n 1, 33, 0, 0)), (33, (.ifCond .eq 11, 36, 44, 0)), (36, (.iload_n 2, 37, 0, 0)), (37, (.ifCond .eq 7, 40, 44, 0)), (40, (.iconst 1, 41, 0, 1)), (41, (.goto 4, 44, 45, 0)), (44, (.iconst 0, 45, 0, 0)), (45, (.istore_n 1, 46, 0, 0)), (46, (.goto (-41), 49, 5, 0)), (49, (.iload_n 1, 50, 0, 0)), (50, (.ireturn, 51, 0, 0))]
def vtb156 : List (Nat × vI) := [(0, (.aload_n 0, 1, 0, 0)), (1, (.invokevirtual 328, 4, 0, 0)), (4, (.istore_n 1, 5, 0, 0)), (5, (.aload_n 0, 6, 0, 0)), (6, (.bipush 111, 8, 0, 111)), (8, (.bipush 114, 10, 0, 114)), (10, (.iconst 0, 11, 0, 0)), (11, (.iconst 0, 12, 0, 0)), (12, (.iconst 0, 13, 0, 0)), (13, (.iconst 0, 14, 0, 0)), (14, (.iconst 0, 15, 0, 0)), (15, (.iconst 0, 16, 0, 0)), (16, (.invokevirtual 207, 19, 0, 0)), (19, (.ifCond .eq 29, 22, 48, 0)), (22, (.aload_n 0, 23, 0, 0)), (23, (.invokevirtual 204, 26, 0, 0)), (26, (.aload_n 0, 27, 0, 0)), (27, (.invokevirtual 328, 30, 0, 0)), (30, (.istore_n 2, 31, 0, 0)), (31, (.iload_n 1, 32, 0, 0)), (32, (.ifCond .ne 7, 35, 39, 0)), (35, (.iload_n 2, 36, 0, 0)), (36, (.ifCond .eq 7, 39, 43, 0)), (39, (.iconst 1, 40, 0, 1)), (40, (.goto 4, 43, 44, 0)), (43, (.iconst 0, 44, 0, 0)), (44, (.istore_n 1, 45, 0, 0)), (45, (.goto (-40), 48, 5, 0)), (48, (.iload_n 1, 49, 0, 0)), (49, (.ireturn, 50, 0, 0))]
def vtb157 : List (Nat × vI) := [(0, (.iconst 0, 1, 0, 0)), (1, (.istore_n 1, 2, 0, 0)), (2, (.aload_n 0, 3, 0, 0)), (3, (.bipush 45, 5, 0, 45)), (5, (.invokevirtual 229, 8, 0, 0)), (8, (.ifCond .eq 29, 11, 37, 0)), (11, (.aload_n 0, 12, 0, 0)), (12, (.invokevirtual 232, 15, 0, 0)), (15, (.ifCond .eq 146, 18, 161, 0)), (18, (.aload_n 0, 19, 0, 0)), (19, (.invokevirtual 316, 22, 0, 0)), (22, (.ineg, 23, 0, 0)), (23, (.istore_n 1, 24, 0, 0)), (24, (.aload_n 0, 25, 0, 0)), (25, (.dup, 26, 0, 0)), (26, (.getfield 198, 29, 0, 0)), (29, (.iconst 1, 30, 0, 1)), (30, (.isub, 31, 0, 0)), (31, (.putfield 198, 34, 0, 0)), (34, (.goto 127, 37, 161, 0)), (37, (.aload_n 0, 38, 0, 0)), (38, (.bipush 40, 40, 0, 40)), (40, (.invokevirtual 229, 43, 0, 0)), (43, (.ifCond .eq 52, 46, 95, 0)), (46, (.aload_n 0, 47, 0, 0)), (47, (.invokevirtual 232, 50, 0, 0)), (50, (.ifCond .eq 111, 53, 161, 0)), (53, (.aload_n 0, 54, 0, 0)), (54, (.invokevirtual 331, 57, 0, 0)), (57, (.istore_n 1, 58, 0, 0)), (58, (.aload_n 0, 59, 0, 0)), (59, (.bipush 41, 61, 0, 41)), (61, (.invokevirtual 229, 64, 0, 0)), (64, (.ifCond .ne 7, 67, 71, 0)), (67, (.aload_n 0, 68, 0, 0)), (68, (.invokevirtual 201, 71, 0, 0)), (71, (.aload_n 0, 72, 0, 0)), (72, (.dup, 73, 0, 0)), (73, (.getfield 198, 76, 0, 0)), (76, (.iconst 1, 77, 0, 1)), (77, (.isub, 78, 0, 0)), (78, (.putfield 198, 81, 0, 0)), (81, (.aload_n 0, 82, 0, 0)), (82, (.getfield 188, 85, 0, 0)), (85, (.ifCond .ne 76, 88, 161, 0)), (88, (.aload_n 0, 89, 0, 0)), (89, (.invokevirtual 204, 92, 0, 0)), (92, (.goto 69, 95, 161, 0)), (95, (.aload_n 0, 96, 0, 0)), (96, (.getfield 188, 99, 0, 0)), (99, (.ifCond .ne 24, 102, 123, 0)), (102, (.aload_n 0, 103, 0, 0)), (103, (.getfield 171, 106, 0, 0)), (106, (.iconst 2, 107, 0, 2)), (107, (.if_icmp .ne 16, 110, 123, 0)), (110, (.aload_n 0, 111, 0, 0)), (111, (.getfield 182, 114, 0, 0)), (114, (.l2i, 115, 0, 0)), (115, (.istore_n 1, 116, 0, 0)), (116, (.aload_n 0, 117, 0, 0)), (117, (.invokevirtual 204, 120, 0, 0)), (120, (.goto 41, 123, 161, 0)), (123, (.aload_n 0, 124, 0, 0)), (124, (.getfield 188, 127, 0, 0)), (127, (.ifCond .ne 30, 130, 157, 0)), (130, (.aload_n 0, 131, 0, 0)), (131, (.getfield 171, 134, 0, 0)), (134, (.iconst 1, 135, 0, 1)), (135, (.if_icmp .ne 22, 138, 157, 0)), (138, (.aload_n 0, 139, 0, 0)), (139, (.invokevirtual 236, 142, 0, 0)), (142, (.istore_n 1, 143, 0, 0)), (143, (.aload_n 0, 144, 0, 0)), (144, (.getfield 188, 147, 0, 0)), (147, (.ifCond .ne 14, 150, 161, 0)), (150, (.aload_n 0, 151, 0, 0)), (151, (.invokevirtual 204, 154, 0, 0)), (154, (.goto 7, 157, 161, 0)), (157, (.aload_n 0, 158, 0, 0)), (158, (.invokevirtual 201, 161, 0, 0)), (161, (.iload_n 1, 162, 0, 0)), (162, (.ireturn, 163, 0, 0))]
def vtb158 : List (Nat × vI) := [(0, (.aload_n 0, 1, 0, 0)), (1, (.invokevirtual 334, 4, 0, 0)), (4, (.istore_n 1, 5, 0, 0)), (5, (.aload_n 0, 6, 0, 0)), (6, (.bipush 42, 8, 0, 42)), (8, (.invokevirtual 229, 11, 0, 0)), (11, (.ifCond .eq 17, 14, 28, 0)), (14, (.aload_n 0, 15, 0, 0)), (15, (.invokevirtual 204, 18, 0, 0)), (18, (.iload_n 1, 19, 0, 0)), (19, (.aload_n 0, 20, 0, 0)), (20, (.invokevirtual 334, 23, 0, 0)), (23, (.imul, 24, 0, 0)), (24, (.istore_n 1, 25, 0, 0)), (25, (.goto (-20), 28, 5, 0)), (28, (.iload_n 1, 29, 0, 0)), (29, (.ireturn, 30, 0, 0))]
def vtb159 : List (Nat × vI) := [(0, (.aload_n 0, 1, 0, 0)), (1, (.invokevirtual 337, 4, 0, 0)), (4, (.istore_n 1, 5, 0, 0)), (5, (.aload_n 0, 6, 0, 0)), (6, (.bipush 43, 8, 0, 43)), (8, (.invokevirtual 229, 11, 0, 0)), (11, (.ifCond .ne 12, 14, 23, 0)), (14, (.aload_n 0, 15, 0, 0)), (15, (.bipush 45, 17, 0, 45)), (17, (.invokevirtual 229, 20, 0, 0)), (20, (.ifCond .eq 46, 23, 66, 0)), (23, (.aload_n 0, 24, 0, 0)), (24, (.getfield 182, 27, 0, 0)), (27, (.ldc2_w 246, 30, 0, 0)), (30, (.lcmp, 31, 0, 0)), (31, (.ifCond .ne 7, 34, 38, 0)), (34, (.iconst 1, 35, 0, 1)), (35, (.goto 4, 38, 39, 0)), (38, (.iconst 0, 39, 0, 0)), (39, (.istore_n 2, 40, 0, 0)), (40, (.aload_n 0, 41, 0, 0)), (41, (.invokevirtual 204, 44, 0, 0)), (44, (.aload_n 0, 45, 0, 0)), (45, (.invokevirtual 337, 48, 0, 0)), (48, (.istore_n 3, 49, 0, 0)), (49, (.iload_n 2, 50, 0, 0)), (50, (.ifCond .eq 9, 53, 59, 0)), (53, (.iload_n 1, 54, 0, 0)), (54, (.iload_n 3, 55, 0, 0)), (55, (.iadd, 56, 0, 0)), (56, (.goto 6, 59, 62, 0)), (59, (.iload_n 1, 60, 0, 0)), (60, (.iload_n 3, 61, 0, 0)), (61, (.isub, 62, 0, 0)), (62, (.istore_n 1, 63, 0, 0)), (63, (.goto (-58), 66, 5, 0)), (66, (.iload_n 1, 67, 0, 0)), (67, (.ireturn, 68, 0, 0))]
def vtb160 : List (Nat × vI) := [(0, (.aload_n 0, 1, 0, 0)), (1, (.bipush 110, 3, 0, 110)), (3, (.bipush 111, 5, 0, 111)), (5, (.bipush 116, 7, 0, 116)), (7, (.iconst 0, 8, 0, 0)), (8, (.iconst 0, 9, 0, 0)), (9, (.iconst 0, 10, 0, 0)), (10, (.iconst 0, 11, 0, 0)), (11, (.iconst 0, 12, 0, 0)), (12, (.invokevirtual 207, 15, 0, 0)), (15, (.ifCond .eq 37, 18, 52, 0)), (18, (.aload_n 0, 19, 0, 0)), (19, (.invokevirtual 232, 22, 0, 0)), (22, (.ifCond .ne 5, 25, 27, 0)), (25, (.iconst 0, 26, 0, 0)), (26, (.ireturn, 27, 0, 0)), (27, (.aload_n 0, 28, 0, 0)), (28, (.invokevirtual 325, 31, 0, 0)), (31, (.istore_n 1, 32, 0, 0)), (32, (.aload_n 0, 33, 0, 0)), (33, (.dup, 34, 0, 0)), (34, (.getfield 198, 37, 0, 0)), (37, (.iconst 1, 38, 0, 1)), (38, (.isub, 39, 0, 0)), (39, (.putfield 198, 42, 0, 0)), (42, (.iload_n 1, 43, 0, 0)), (43, (.ifCond .ne 7, 46, 50, 0)), (46, (.iconst 1, 47, 0, 1)), (47, (.goto 4, 50, 51, 0)), (50, (.iconst 0, 51, 0, 0)), (51, (.ireturn, 52, 0, 0)), (52, (.aload_n 0, 53, 0, 0)), (53, (.invokevirtual 340, 56, 0, 0)), (56, (.istore_n 1, 57, 0, 0)), (57, (.aload_n 0, 58, 0, 0)), (58, (.bipush 60, 60, 0, 60)), (60, (.invokevirtual 229, 63, 0, 0)), (63, (.ifCond .ne 14, 66, 77, 0)), (66, (.aload_n 0, 67, 0, 0)), (67, (.bipush 61, 69, 0, 61)), (69, (.invokevirtual 229, 72, 0, 0)), (72, (.ifCond .ne 5, 75, 77, 0)), (75, (.iload_n 1, 76, 0, 0)), (76, (.ireturn, 77, 0, 0)), (77, (.aload_n 0, 78, 0, 0)), (78, (.getfield 182, 81, 0, 0)), (81, (.ldc2_w 251, 84, 0, 0)), (84, (.lcmp, 85, 0, 0)), (85, (.ifCond .ne 7, 88, 92, 0)), (88, (.iconst 1, 89, 0, 1)), (89, (.goto 4, 92, 93, 0)), (92, (.iconst 0, 93, 0, 0)), (93, (.istore_n 2, 94, 0, 0)), (94, (.aload_n 0, 95, 0, 0)), (95, (.invokevirtual 204, 98, 0, 0)), (98, (.aload_n 0, 99, 0, 0)), (99, (.invokevirtual 340, 102, 0, 0)), (102, (.istore_n 3, 103, 0, 0)), (103, (.iload_n 2, 104, 0, 0)), (104, (.ifCond .eq 11, 107, 115, 0)), (107, (.iload_n 1, 108, 0, 0)), (108, (.iload_n 3, 109, 0, 0)), (109, (.if_icmp .ge 15, 112, 124, 0)), (112, (.goto 8, 115, 120, 0)), (115, (.iload_n 1, 116, 0, 0)), (116, (.iload_n 3, 117, 0, 0)), (117, (.if_icmp .ne 7, 120, 124, 0)), (120, (.iconst 1, 121, 0, 1)), (121, (.goto 4, 124, 125, 0)), (124, (.iconst 0, 125, 0, 0)), (125, (.ireturn, 126, 0, 0))]
def vtb161 : List (Nat × vI) := [(0, (.aload_n 0, 1, 0, 0)), (1, (.invokevirtual 343, 4, 0, 0)), (4, (.istore_n 1, 5, 0, 0)), (5, (.aload_n 0, 6, 0, 0)), (6, (.bipush 97, 8, 0, 97)), (8, (.bipush 110, 10, 0, 110)), (10, (.bipush 100, 12, 0, 100)), (12, (.iconst 0, 13, 0, 0)), (13, (.iconst 0, 14, 0, 0)), (14, (.iconst 0, 15, 0, 0)), (15, (.iconst 0, 16, 0, 0)), (16, (.iconst 0, 17, 0, 0)), (17, (.invokevirtual 207, 20, 0, 0)), (20, (.ifCond .eq 29, 23, 49, 0)), (23, (.aload_n 0, 24, 0, 0)), (24, (.invokevirtual 204, 27, 0, 0)), (27, (.aload_n 0, 28, 0, 0)), (28, (.invokevirtual 343, 31, 0, 0)), (31, (.istore_n 2, 32, 0, 0)), (32, (.iload_n 1, 33, 0, 0)), (33, (.ifCond .eq 11, 36, 44, 0)), (36, (.iload_n 2, 37, 0, 0)), (37, (.ifCond .eq 7, 40, 44, 0)), (40, (.iconst 1, 41, 0, 1)), (41, (.goto 4, 44, 45, 0)), (44, (.iconst 0, 45, 0, 0)), (45, (.istore_n 1, 46, 0, 0)), (46, (.goto (-41), 49, 5, 0)), (49, (.iload_n 1, 50, 0, 0)), (50, (.ireturn, 51, 0, 0))]
def vtb162 : List (Nat × vI) := [(0, (.aload_n 0, 1, 0, 0)), (1, (.invokevirtual 346, 4, 0, 0)), (4, (.istore_n 1, 5, 0, 0)), (5, (.aload_n 0, 6, 0, 0)), (6, (.bipush 111, 8, 0, 111)), (8, (.bipush 114, 10, 0, 114)), (10, (.iconst 0, 11, 0, 0)), (11, (.iconst 0, 12, 0, 0)), (12, (.iconst 0, 13, 0, 0)), (13, (.iconst 0, 14, 0, 0)), (14, (.iconst 0, 15, 0, 0)), (15, (.iconst 0, 16, 0, 0)), (16, (.invokevirtual 207, 19, 0, 0)), (19, (.ifCond .eq 29, 22, 48, 0)), (22, (.aload_n 0, 23, 0, 0)), (23, (.invokevirtual 204, 26, 0, 0)), (26, (.aload_n 0, 27, 0, 0)), (27, (.invokevirtual 346, 30, 0, 0)), (30, (.istore_n 2, 31, 0, 0)), (31, (.iload_n 1, 32, 0, 0)), (32, (.ifCond .ne 7, 35, 39, 0)), (35, (.iload_n 2, 36, 0, 0)), (36, (.ifCond .eq 7, 39, 43, 0)), (39, (.iconst 1, 40, 0, 1)), (40, (.goto 4, 43, 44, 0)), (43, (.iconst 0, 44, 0, 0)), (44, (.istore_n 1, 45, 0, 0)), (45, (.goto (-40), 48, 5, 0)), (48, (.iload_n 1, 49, 0, 0)), (49, (.ireturn, 50, 0, 0))]
def vtb163 : List (Nat × vI) := [(0, (.iload_n 1, 1, 0, 0)), (1, (.ifCond .ne 7, 4, 8, 0)), (4, (.aload_n 0, 5, 0, 0)), (5, (.invokevirtual 201, 8, 0, 0)), (8, (.aload_n 0, 9, 0, 0)), (9, (.getfield 188, 12, 0, 0)), (12, (.ifCond .ne 7, 15, 19, 0)), (15, (.aload_n 0, 16, 0, 0)), (16, (.invokevirtual 204, 19, 0, 0)), (19, (.aload_n 0, 20, 0, 0)), (20, (.getfield 188, 23, 0, 0)), (23, (.ifCond .eq 7, 26, 30, 0)), (26, (.iconst 0, 27, 0, 0)), (27, (.goto 7, 30, 34, 0)), (30, (.aload_n 0, 31, 0, 0)), (31, (.invokevirtual 349, 34, 0, 0)), (34, (.istore_n 2, 35, 0, 0)), (35, (.aload_n 0, 36, 0, 0)), (36, (.bipush 59, 38, 0, 59)), (38, (.invokevirtual 229, 41, 0, 0)), (41, (.ifCond .ne 7, 44, 48, 0)), (44, (.aload_n 0, 45, 0, 0)), (45, (.invokevirtual 201, 48, 0, 0)), (48, (.aload_n 0, 49, 0, 0)), (49, (.getfield 188, 52, 0, 0)), (52, (.ifCond .ne 7, 55, 59, 0)), (55, (.aload_n 0, 56, 0, 0)), (56, (.invokevirtual 204, 59, 0, 0)), (59, (.iload_n 2, 60, 0, 0)), (60, (.ireturn, 61, 0, 0))]
def vtb164 : List (Nat × vI) := [(0, (.aload_n 0, 1, 0, 0)), (1, (.sipush 160, 4, 0, 160)), (4, (.iload_n 1, 5, 0, 0)), (5, (.imul, 6, 0, 0)), (6, (.putfield 159, 9, 0, 0)), (9, (.aload_n 0, 10, 0, 0)), (10, (.aload_n 0, 11, 0, 0)), (11, (.getfield 17, 14, 0, 0)), (14, (.iload_n 1, 15, 0, 0)), (15, (.iaload, 16, 0, 0)), (16, (.putfield 156, 19, 0, 0)), (19, (.aload_n 0, 20, 0, 0)), (20, (.iconst 0, 21, 0, 0)), (21, (.putfield 162, 24, 0, 0)), (24, (.aload_n 0, 25, 0, 0)), (25, (.iconst 0, 26, 0, 0)), (26, (.putfield 198, 29, 0, 0)), (29, (.aload_n 0, 30, 0, 0)), (30, (.iconst 0, 31, 0, 0)), (31, (.putfield 188, 34, 0, 0)), (34, (.aload_n 0, 35, 0, 0)), (35, (.invokevirtual 204, 38, 0, 0)), (38, (.aload_n 0, 39, 0, 0)), (39, (.aload_n 0, 40, 0, 0)), (40, (.bipush 100, 42, 0, 100)), (42, (.bipush 117, 44, 0, 117)), (44, (.bipush 101, 46, 0, 101)), (46, (.bipush 115, 48, 0, 115)), (48, (.iconst 0, 49, 0, 0)), (49, (.iconst 0, 50, 0, 0)), (50, (.iconst 0, 51, 0, 0)), (51, (.iconst 0, 52, 0, 0)), (52, (.invokevirtual 207, 55, 0, 0)), (55, (.invokevirtual 352, 58, 0, 0)), (58, (.istore_n 3, 59, 0, 0)), (59, (.aload_n 0, 60, 0, 0)), (60, (.getfield 188, 63, 0, 0)), (63, (.ifCond .eq 7, 66, 70, 0)), (66, (.iconst 0, 67, 0, 0)), (67, (.goto 23, 70, 90, 0)), (70, (.aload_n 0, 71, 0, 0)), (71, (.aload_n 0, 72, 0, 0)), (72, (.bipush 111, 74, 0, 111)), (74, (.bipush 102, 76, 0, 102)), (76, (.bipush 102, 78, 0, 102)), (78, (.bipush 115, 80, 0, 115)), (80, (.iconst 0, 81, 0, 0)), (81, (.iconst 0, 82, 0, 0)), (82, (.iconst 0, 83, 0, 0)), (83, (.iconst 0, 84, 0, 0)), (84, (.invokevirtual 207, 87, 0, 0)), (87, (.invokevirtual 352, 90, 0, 0)), (90, (.istore 4, 92, 0, 0)), (92, (.aload_n 0, 93, 0, 0)), (93, (.getfield 188, 96, 0, 0)), (96, (.ifCond .eq 7, 99, 103, 0)), (99, (.iconst 0, 100, 0, 0)), (100, (.goto 25, 103, 125, 0)), (103, (.aload_n 0, 104, 0, 0)), (104, (.aload_n 0, 105, 0, 0)), (105, (.bipush 101, 107, 0, 101)), (107, (.bipush 120, 109, 0, 120)), (109, (.bipush 116, 111, 0, 116)), (111, (.bipush 114, 113, 0, 114)), (113, (.bipush 97, 115, 0, 97)), (115, (.bipush 115, 117, 0, 115)), (117, (.iconst 0, 118, 0, 0)), (118, (.iconst 0, 119, 0, 0)), (119, (.invokevirtual 207, 122, 0, 0)), (122, (.invokevirtual 352, 125, 0, 0)), (125, (.istore 5, 127, 0, 0)), (127, (.aload_n 0, 128, 0, 0)), (128, (.getfield 188, 131, 0, 0)), (131, (.ifCond .ne 14, 134, 145, 0)), (134, (.aload_n 0, 135, 0, 0)), (135, (.getfield 171, 138, 0, 0)), (138, (.ifCond .eq 7, 141, 145, 0)), (141, (.aload_n 0, 142, 0, 0)), (142, (.invokevirtual 201, 145, 0, 0)), (145, (.iload_n 2, 146, 0, 0)), (146, (.ifCond .ne 7, 149, 153, 0)), (149, (.iload_n 3, 150, 0, 0)), (150, (.goto 15, 153, 165, 0)), (153, (.iload_n 2, 154, 0, 0)), (154, (.iconst 1, 155, 0, 1)), (155, (.if_icmp .ne 8, 158, 163, 0)), (158, (.iload 4, 160, 0, 0)), (160, (.goto 5, 163, 165, 0)), (163, (.iload 5, 165, 0, 0)), (165, (.ireturn, 166, 0, 0))]
def vtb165 : List (Nat × vI) := [(0, (.aload_n 0, 1, 0, 0)), (1, (.getfield 94, 4, 0, 0)), (4, (.bipush 6, 6, 0, 6)), (6, (.if_icmp .ne 6, 9, 12, 0)), (9, (.bipush (-4), 11, 0, (-4))), (11, (.ireturn, 12, 0, 0)), (12, (.iconst 0, 13, 0, 0)), (13, (.istore_n 1, 14, 0, 0)), (14, (.iload_n 1, 15, 0, 0)), (15, (.aload_n 0, 16, 0, 0)), (16, (.getfield 153, 19, 0, 0)), (19, (.if_icmp .ge 30, 22, 49, 0)), (22, (.aload_n 0, 23, 0, 0)), (23, (.getfield 13, 26, 0, 0)), (26, (.sipush 160, 29, 0, 160)), (29, (.aload_n 0, 30, 0, 0)), (30, (.getfield 94, 33, 0, 0)), (33, (.imul, 34, 0, 0)), (34, (.iload_n 1, 35, 0, 0)), (35, (.iadd, 36, 0, 0)), (36, (.aload_n 0, 37, 0, 0)), (37, (.getfield 20, 40, 0, 0)), (40, (.iload_n 1, 41, 0, 0)), (41, (.iaload, 42, 0, 0)), (42, (.iastore, 43, 0, 0)), (43, (.iinc 1 1, 46, 0, 1)), (46, (.goto (-32), 49, 14, 0)), (49, (.aload_n 0, 50, 0, 0)), (50, (.getfield 17, 53, 0, 0)), (53, (.aload_n 0, 54, 0, 0)), (54, (.getfield 94, 57, 0, 0)), (57, (.aload_n 0, 58, 0, 0)), (58, (.getfield 153, 61, 0, 0)), (61, (.iastore, 62, 0, 0)), (62, (.aload_n 0, 63, 0, 0)), (63, (.iconst 0, 64, 0, 0)), (64, (.putfield 153, 67, 0, 0)), (67, (.aload_n 0, 68, 0, 0)), (68, (.aload_n 0, 69, 0, 0)), (69, (.getfield 94, 72, 0, 0)), (72, (.iconst 0, 73, 0, 0)), (73, (.invokevirtual 356, 76, 0, 0)), (76, (.istore_n 1, 77, 0, 0)), (77, (.aload_n 0, 78, 0, 0)), (78, (.getfield 188, 81, 0, 0)), (81, (.ifCond .eq 11, 84, 92, 0)), (84, (.bipush (-100), 86, 0, (-100))), (86, (.aload_n 0, 87, 0, 0)), (87, (.getfield 192, 90, 0, 0)), (90, (.isub, 91, 0, 0)), (91, (.ireturn, 92, 0, 0)), (92, (.aload_n 0, 93, 0, 0)), (93, (.dup, 94, 0, 0)), (94, (.getfield 94, 97, 0, 0)), (97, (.iconst 1, 98, 0, 1)), (98, (.iadd, 99, 0, 0)), (99, (.putfield 94, 102, 0, 0)), (102, (.aload_n 0, 103, 0, 0)), (103, (.getfield 94, 106, 0, 0)), (106, (.iconst 1, 107, 0, 1)), (107, (.isub, 108, 0, 0)), (108, (.ireturn, 109, 0, 0))]
def vtb166 : List (Nat × vI) := [(0, (.iload_n 1, 1, 0, 0)), (1, (.i2l, 2, 0, 0)), (2, (.lconst 0, 3, 0, 0)), (3, (.aload_n 0, 4, 0, 0)), (4, (.getfield 94, 7, 0, 0)), (7, (.iconst 1, 8, 0, 1)), (8, (.isub, 9, 0, 0)), (9, (.i2l, 10, 0, 0)), (10, (.invokestatic 100, 13, 0, 0)), (13, (.ifCond .ne 6, 16, 19, 0)), (16, (.bipush (-2), 18, 0, (-2))), (18, (.ireturn, 19, 0, 0)), (19, (.aload_n 0, 20, 0, 0)), (20, (.getfield 136, 23, 0, 0)), (23, (.istore_n 2, 24, 0, 0)), (24, (.aload_n 0, 25, 0, 0)), (25, (.iload_n 1, 26, 0, 0)), (26, (.putfield 136, 29, 0, 0)), (29, (.iload_n 2, 30, 0, 0)), (30, (.ireturn, 31, 0, 0))]
def vtb167 : List (Nat × vI) := [(0, (.iconst 0, 1, 0, 0)), (1, (.istore_n 1, 2, 0, 0)), (2, (.iload_n 0, 3, 0, 0)), (3, (.istore_n 2, 4, 0, 0)), (4, (.iload_n 2, 5, 0, 0)), (5, (.ifCond .eq 15, 8, 20, 0)), (8, (.iinc 1 1, 11, 0, 1)), (11, (.iload_n 2, 12, 0, 0)), (12, (.iload_n 2, 13, 0, 0)), (13, (.iconst 1, 14, 0, 1)), (14, (.isub, 15, 0, 0)), (15, (.iand, 16, 0, 0)), (16, (.istore_n 2, 17, 0, 0)), (17, (.goto (-13), 20, 4, 0)), (20, (.iload_n 1, 21, 0, 0)), (21, (.ireturn, 22, 0, 0))]
def vtb168 : List (Nat × vI) := [(0, (.aload_n 0, 1, 0, 0)), (1, (.getfield 32, 4, 0, 0)), (4, (.bipush 6, 6, 0, 6)), (6, (.iload_n 1, 7, 0, 0)), (7, (.imul, 8, 0, 0)), (8, (.iload_n 2, 9, 0, 0)), (9, (.iadd, 10, 0, 0)), (10, (.iaload, 11, 0, 0)), (11, (.aload_n 0, 12, 0, 0)), (12, (.getfield 133, 15, 0, 0)), (15, (.iconst (-1), 16, 0, (-1))), (16, (.ixor, 17, 0, 0)), (17, (.iand, 18, 0, 0)), (18, (.invokestatic 359, 21, 0, 0)), (21, (.ireturn, 22, 0, 0))]
def vtb169 : List (Nat × vI) := [(0, (.iconst 0, 1, 0, 0)), (1, (.istore_n 2, 2, 0, 0)), (2, (.iconst 0, 3, 0, 0)), (3, (.istore_n 3, 4, 0, 0)), (4, (.iload_n 3, 5, 0, 0)), (5, (.aload_n 0, 6, 0, 0)), (6, (.getfield 97, 9, 0, 0)), (9, (.if_icmp .ge 26, 12, 35, 0)), (12, (.iload_n 2, 13, 0, 0)), (13, (.aload_n 0, 14, 0, 0)), (14, (.iload_n 1, 15, 0, 0)), (15, (.iload_n 3, 16, 0, 0)), (16, (.invokevirtual 362, 19, 0, 0)), (19, (.ifCond .le 7, 22, 26, 0)), (22, (.iconst 1, 23, 0, 1)), (23, (.goto 4, 26, 27, 0)), (26, (.iconst 0, 27, 0, 0)), (27, (.iadd, 28, 0, 0)), (28, (.istore_n 2, 29, 0, 0)), (29, (.iinc 3 1, 32, 0, 1)), (32, (.goto (-28), 35, 4, 0)), (35, (.iload_n 2, 36, 0, 0)), (36, (.ireturn, 37, 0, 0))]
def vtb170 : List (Nat × vI) := [(0, (.aload_n 0, 1, 0, 0)), (1, (.aload_n 0, 2, 0, 0)), (2, (.getfield 29, 5, 0, 0)), (5, (.iload_n 3, 6, 0, 0)), (6, (.iaload, 7, 0, 0)), (7, (.putfield 211, 10, 0, 0)), (10, (.aload_n 0, 11, 0, 0)), (11, (.aload_n 0, 12, 0, 0)), (12, (.iload_n 2, 13, 0, 0)), (13, (.iload_n 3, 14, 0, 0)), (14, (.invokevirtual 362, 17, 0, 0)), (17, (.putfield 214, 20, 0, 0)), (20, (.aload_n 0, 21, 0, 0)), (21, (.aload_n 0, 22, 0, 0)), (22, (.getfield 26, 25, 0, 0)), (25, (.iload_n 3, 26, 0, 0)), (26, (.iaload, 27, 0, 0)), (27, (.putfield 217, 30, 0, 0)), (30, (.aload_n 0, 31, 0, 0)), (31, (.iload 4, 33, 0, 0)), (33, (.putfield 220, 36, 0, 0)), (36, (.aload_n 0, 37, 0, 0)), (37, (.aload_n 0, 38, 0, 0)), (38, (.getfield 133, 41, 0, 0)), (41, (.invokestatic 359, 44, 0, 0)), (44, (.putfield 223, 47, 0, 0)), (47, (.aload_n 0, 48, 0, 0)), (48, (.aload_n 0, 49, 0, 0)), (49, (.iload_n 2, 50, 0, 0)), (50, (.invokevirtual 148, 53, 0, 0)), (53, (.putfield 226, 56, 0, 0)), (56, (.aload_n 0, 57, 0, 0)), (57, (.aload_n 0, 58, 0, 0)), (58, (.getfield 136, 61, 0, 0)), (61, (.iload_n 1, 62, 0, 0)), (62, (.invokevirtual 356, 65, 0, 0)), (65, (.iconst 0, 66, 0, 0)), (66, (.bipush 99, 68, 0, 99)), (68, (.invokestatic 365, 71, 0, 0)), (71, (.ireturn, 72, 0, 0))]
def vtb171 : List (Nat × vI) := [(0, (.aload_n 0, 1, 0, 0)), (1, (.getfield 23, 4, 0, 0)), (4, (.iload_n 2, 5, 0, 0)), (5, (.iaload, 6, 0, 0)), (6, (.istore 4, 8, 0, 0)), (8, (.iload 4, 10, 0, 0)), (10, (.iconst 5, 11, 0, 5)), (11, (.if_icmp .eq 24, 14, 35, 0)), (14, (.iload 4, 16, 0, 0)), (16, (.iconst 3, 17, 0, 3)), (17, (.if_icmp .ne 30, 20, 47, 0)), (20, (.aload_n 0, 21, 0, 0)), (21, (.iload_n 1, 22, 0, 0)), (22, (.iload_n 2, 23, 0, 0)), (23, (.invokevirtual 362, 26, 0, 0)), (26, (.aload_n 0, 27, 0, 0)), (27, (.getfield 26, 30, 0, 0)), (30, (.iload_n 2, 31, 0, 0)), (31, (.iaload, 32, 0, 0)), (32, (.if_icmp .lt 15, 35, 47, 0)), (35, (.iload 4, 37, 0, 0)), (37, (.iconst 5, 38, 0, 5)), (38, (.if_icmp .ne 7, 41, 45, 0)), (41, (.iconst 1, 42, 0, 1)), (42, (.goto 4, 45, 46, 0)), (45, (.iconst 0, 46, 0, 0)), (46, (.ireturn, 47, 0, 0)), (47, (.aload_n 0, 48, 0, 0)), (48, (.iconst 0, 49, 0, 0)), (49, (.iload_n 1, 50, 0, 0)), (50, (.iload_n 2, 51, 0, 0)), (51, (.iload_n 3, 52, 0, 0)), (52, (.invokevirtual 369, 55, 0, 0)), (55, (.istore 5, 57, 0, 0)), (57, (.iload 4, 59, 0, 0)), (59, (.iconst 1, 60, 0, 1)), (60, (.if_icmp .eq 9, 63, 69, 0)), (63, (.iload 4, 65, 0, 0)), (65, (.iconst 3, 66, 0, 3)), (66, (.if_icmp .ne 10, 69, 76, 0)), (69, (.iconst 2, 70, 0, 2)), (70, (.iload 5, 72, 0, 0)), (72, (.imul, 73, 0, 0)), (73, (.goto 41, 76, 114, 0)), (76, (.iload 4, 78, 0, 0)), (78, (.iconst 2, 79, 0, 2)), (79, (.if_icmp .ne 10, 82, 89, 0)), (82, (.iload 5, 84, 0, 0)), (84, (.iconst 2, 85, 0, 2)), (85, (.idiv, 86, 0, 0)), (86, (.goto 28, 89, 114, 0)), (89, (.iload 4, 91, 0, 0)), (91, (.iconst 4, 92, 0, 4)), (92, (.if_icmp .ne 20, 95, 112, 0)), (95, (.iload 5, 97, 0, 0)), (97, (.iconst 2, 98, 0, 2)), (98, (.idiv, 99, 0, 0)), (99, (.aload_n 0, 100, 0, 0)), (100, (.getfield 29, 103, 0, 0)), (103, (.iload_n 2, 104, 0, 0)), (104, (.iaload, 105, 0, 0)), (105, (.bipush 100, 107, 0, 100)), (107, (.idiv, 108, 0, 0)), (108, (.iadd, 109, 0, 0)), (109, (.goto 5, 112, 114, 0)), (112, (.iload 5, 114, 0, 0)), (114, (.istore 6, 116, 0, 0)), (116, (.iload 6, 118, 0, 0)), (118, (.iconst 0, 119, 0, 0)), (119, (.sipush 999, 122, 0, 999)), (122, (.invokestatic 365, 125, 0, 0)), (125, (.ireturn, 126, 0, 0))]
def vtb172 : List (Nat × vI) := [(0, (.aload_n 0, 1, 0, 0)), (1, (.getfield 23, 4, 0, 0)), (4, (.iload_n 2, 5, 0, 0)), (5, (.iaload, 6, 0, 0)), (6, (.istore_n 3, 7, 0, 0)), (7, (.iload_n 3, 8, 0, 0)), (8, (.iconst 3, 9, 0, 3)), (9, (.if_icmp .ne 5, 12, 14, 0)), (12, (.iconst 0, 13, 0, 0)), (13, (.ireturn, 14, 0, 0)), (14, (.aload_n 0, 15, 0, 0)), (15, (.iconst 1, 16, 0, 1)), (16, (.iload_n 1, 17, 0, 0)), (17, (.iload_n 2, 18, 0, 0)), (18, (.iconst 0, 19, 0, 0)), (19, (.invokevirtual 369, 22, 0, 0)), (22, (.istore 4, 24, 0, 0)), (24, (.iload_n 3, 25, 0, 0)), (25, (.iconst 2, 26, 0, 2)), (26, (.if_icmp .eq 8, 29, 34, 0)), (29, (.iload_n 3, 30, 0, 0)), (30, (.iconst 4, 31, 0, 4)), (31, (.if_icmp .ne 15, 34, 46, 0)), (34, (.iload 4, 36, 0, 0)), (36, (.aload_n 0, 37, 0, 0)), (37, (.getfield 26, 40, 0, 0)), (40, (.iload_n 2, 41, 0, 0)), (41, (.iaload, 42, 0, 0)), (42, (.iadd, 43, 0, 0)), (43, (.goto 5, 46, 48, 0)), (46, (.iload 4, 48, 0, 0)), (48, (.iconst 0, 49, 0, 0)), (49, (.sipush 999, 52, 0, 999)), (52, (.invokestatic 365, 55, 0, 0)), (55, (.ireturn, 56, 0, 0))]
def vtb173 : List (Nat × vI) := [(0, (.aload_n 0, 1, 0, 0)), (1, (.getfield 23, 4, 0, 0)), (4, (.iload_n 2, 5, 0, 0)), (5, (.iaload, 6, 0, 0)), (6, (.istore_n 3, 7, 0, 0)), (7, (.iload_n 3, 8, 0, 0)), (8, (.iconst 5, 9, 0, 5)), (9, (.if_icmp .ne 5, 12, 14, 0)), (12, (.iconst 0, 13, 0, 0)), (13, (.ireturn, 14, 0, 0)), (14, (.aload_n 0, 15, 0, 0)), (15, (.iconst 2, 16, 0, 2)), (16, (.iload_n 1, 17, 0, 0)), (17, (.iload_n 2, 18, 0, 0)), (18, (.iconst 0, 19, 0, 0)), (19, (.invokevirtual 369, 22, 0, 0)), (22, (.istore 4, 24, 0, 0)), (24, (.iload_n 3, 25, 0, 0)), (25, (.iconst 1, 26, 0, 1)), (26, (.if_icmp .eq 8, 29, 34, 0)), (29, (.iload_n 3, 30, 0, 0)), (30, (.iconst 3, 31, 0, 3)), (31, (.if_icmp .ne 15, 34, 46, 0)), (34, (.iload 4, 36, 0, 0)), (36, (.aload_n 0, 37, 0, 0)), (37, (.iload_n 1, 38, 0, 0)), (38, (.iload_n 2, 39, 0, 0)), (39, (.invokevirtual 362, 42, 0, 0)), (42, (.iadd, 43, 0, 0)), (43, (.goto 17, 46, 60, 0)), (46, (.iload_n 3, 47, 0, 0)), (47, (.iconst 4, 48, 0, 4)), (48, (.if_icmp .ne 10, 51, 58, 0)), (51, (.iconst 2, 52, 0, 2)), (52, (.iload 4, 54, 0, 0)), (54, (.imul, 55, 0, 0)), (55, (.goto 5, 58, 60, 0)), (58, (.iload 4, 60, 0, 0)), (60, (.iconst 0, 61, 0, 0)), (61, (.sipush 999, 64, 0, 999)), (64, (.invokestatic 365, 67, 0, 0)), (67, (.ireturn, 68, 0, 0))]
def vtb174 : List (Nat × vI) := [(0, (.aload_n 0, 1, 0, 0)), (1, (.iload_n 1, 2, 0, 0)), (2, (.iload_n 2, 3, 0, 0)), (3, (.invokevirtual 362, 6, 0, 0)), (6, (.istore_n 3, 7, 0, 0)), (7, (.iload_n 3, 8, 0, 0)), (8, (.ifCond .ne 5, 11, 13, 0)), (11, (.iconst 0, 12, 0, 0)), (12, (.ireturn, 13, 0, 0)), (13, (.iload_n 3, 14, 0, 0)), (14, (.iconst 2, 15, 0, 2)), (15, (.if_icmp .le 12, 18, 27, 0)), (18, (.aload_n 0, 19, 0, 0)), (19, (.iload_n 1, 20, 0, 0)), (20, (.iload_n 2, 21, 0, 0)), (21, (.invokevirtual 373, 24, 0, 0)), (24, (.goto 4, 27, 28, 0)), (27, (.iconst 0, 28, 0, 0)), (28, (.aload_n 0, 29, 0, 0)), (29, (.iload_n 1, 30, 0, 0)), (30, (.iload_n 2, 31, 0, 0)), (31, (.invokevirtual 376, 34, 0, 0)), (34, (.isub, 35, 0, 0)), (35, (.istore 4, 37, 0, 0)), (37, (.iconst 0, 38, 0, 0)), (38, (.istore 5, 40, 0, 0)), (40, (.iload 5, 42, 0, 0)), (42, (.bipush 12, 44, 0, 12)), (44, (.if_icmp .ge 52, 47, 96, 0)), (47, (.iload 4, 49, 0, 0)), (49, (.aload_n 0, 50, 0, 0)), (50, (.getfield 32, 53, 0, 0)), (53, (.bipush 6, 55, 0, 6)), (55, (.iload_n 1, 56, 0, 0)), (56, (.imul, 57, 0, 0)), (57, (.iload_n 2, 58, 0, 0)), (58, (.iadd, 59, 0, 0)), (59, (.iaload, 60, 0, 0)), (60, (.aload_n 0, 61, 0, 0)), (61, (.getfield 133, 64, 0, 0)), (64, (.iconst (-1), 65, 0, (-1))), (65, (.ixor, 66, 0, 0)), (66, (.iand, 67, 0, 0)), (67, (.iconst 1, 68, 0, 1)), (68, (.iload 5, 70, 0, 0)), (70, (.ishl, 71, 0, 0)), (71, (.iand, 72, 0, 0)), (72, (.ifCond .eq 14, 75, 86, 0)), (75, (.aload_n 0, 76, 0, 0)), (76, (.iload_n 1, 77, 0, 0)), (77, (.iload_n 2, 78, 0, 0)), (78, (.iload 5, 80, 0, 0)), (80, (.invokevirtual 379, 83, 0, 0)), (83, (.goto 4, 86, 87, 0)), (86, (.iconst 0, 87, 0, 0)), (87, (.iadd, 88, 0, 0)), (88, (.istore 4, 90, 0, 0)), (90, (.iinc 5 1, 93, 0, 1)), (93, (.goto (-53), 96, 40, 0)), (96, (.iload 4, 98, 0, 0)), (98, (.ifCond .ge 7, 101, 105, 0)), (101, (.iconst 0, 102, 0, 0)), (102, (.goto 5, 105, 107, 0)), (105, (.iload 4, 107, 0, 0)), (107, (.ireturn, 108, 0, 0))]
def vtb175 : List (Nat × vI) := [(0, (.iload_n 1, 1, 0, 0)), (1, (.invokestatic 112, 4, 0, 0)), (4, (.ifCond .eq 35, 7, 39, 0)), (7, (.aload_n 0, 8, 0, 0)), (8, (.iload_n 2, 9, 0, 0)), (9, (.invokevirtual 106, 12, 0, 0)), (12, (.ifCond .eq 27, 15, 39, 0)), (15, (.iload_n 3, 16, 0, 0)), (16, (.i2l, 17, 0, 0)), (17, (.lconst 0, 18, 0, 0)), (18, (.lconst 1, 19, 0, 0)), (19, (.invokestatic 100, 22, 0, 0)), (22, (.ifCond .ne 20, 25, 42, 0)), (25, (.iload_n 3, 26, 0, 0)), (26, (.i2l, 27, 0, 0)), (27, (.ldc2_w 186, 30, 0, 0)), (30, (.ldc2_w 382, 33, 0, 0)), (33, (.invokestatic 100, 36, 0, 0)), (36, (.ifCond .ne 6, 39, 42, 0)), (39, (.bipush (-2), 41, 0, (-2))), (41, (.ireturn, 42, 0, 0)), (42, (.iload_n 3, 43, 0, 0)), (43, (.ifCond .ne 12, 46, 55, 0)), (46, (.aload_n 0, 47, 0, 0)), (47, (.iload_n 1, 48, 0, 0)), (48, (.iload_n 2, 49, 0, 0)), (49, (.invokevirtual 384, 52, 0, 0)), (52, (.goto 27, 55, 79, 0)), (55, (.iload_n 3, 56, 0, 0)), (56, (.iconst 1, 57, 0, 1)), (57, (.if_icmp .ne 12, 60, 69, 0)), (60, (.aload_n 0, 61, 0, 0)), (61, (.iload_n 1, 62, 0, 0)), (62, (.iload_n 2, 63, 0, 0)), (63, (.invokevirtual 362, 66, 0, 0)), (66, (.goto 13, 69, 79, 0)), (69, (.aload_n 0, 70, 0, 0)), (70, (.iload_n 1, 71, 0, 0)), (71, (.iload_n 2, 72, 0, 0)), (72, (.iload_n 3, 73, 0, 0)), (73, (.bipush 10, 75, 0, 10)), (75, (.isub, 76, 0, 0)), (76, (.invokevirtual 379, 79, 0, 0)), (79, (.ireturn, 80, 0, 0))]
def vtb176 : List (Nat × vI) := [(0, (.iconst 0, 1, 0, 0)), (1, (.istore_n 2, 2, 0, 0)), (2, (.iconst 0, 3, 0, 0)), (3, (.istore_n 3, 4, 0, 0)), (4, (.iload_n 3, 5, 0, 0)), (5, (.aload_n 0, 6, 0, 0)), (6, (.getfield 97, 9, 0, 0)), (9, (.if_icmp .ge 18, 12, 27, 0)), (12, (.iload_n 2, 13, 0, 0)), (13, (.aload_n 0, 14, 0, 0)), (14, (.iload_n 1, 15, 0, 0)), (15, (.iload_n 3, 16, 0, 0)), (16, (.invokevirtual 384, 19, 0, 0)), (19, (.iadd, 20, 0, 0)), (20, (.istore_n 2, 21, 0, 0)), (21, (.iinc 3 1, 24, 0, 1)), (24, (.goto (-20), 27, 4, 0)), (27, (.iload_n 2, 28, 0, 0)), (28, (.ireturn, 29, 0, 0))]
def vtb177 : List (Nat × vI) := [(0, (.aload_n 0, 1, 0, 0)), (1, (.iload_n 1, 2, 0, 0)), (2, (.invokevirtual 387, 5, 0, 0)), (5, (.aload_n 0, 6, 0, 0)), (6, (.getfield 38, 9, 0, 0)), (9, (.iload_n 1, 10, 0, 0)), (10, (.iaload, 11, 0, 0)), (11, (.isub, 12, 0, 0)), (12, (.iconst 0, 13, 0, 0)), (13, (.ldc_w 390, 16, 0, 0)), (16, (.invokestatic 365, 19, 0, 0)), (19, (.ireturn, 20, 0, 0))]
def vtb178 : List (Nat × vI) := [(0, (.iconst 0, 1, 0, 0)), (1, (.istore_n 1, 2, 0, 0)), (2, (.iconst 0, 3, 0, 0)), (3, (.istore_n 2, 4, 0, 0)), (4, (.iload_n 2, 5, 0, 0)), (5, (.iconst 5, 6, 0, 5)), (6, (.if_icmp .ge 17, 9, 23, 0)), (9, (.iload_n 1, 10, 0, 0)), (10, (.aload_n 0, 11, 0, 0)), (11, (.iload_n 2, 12, 0, 0)), (12, (.invokevirtual 145, 15, 0, 0)), (15, (.iadd, 16, 0, 0)), (16, (.istore_n 1, 17, 0, 0)), (17, (.iinc 2 1, 20, 0, 1)), (20, (.goto (-16), 23, 4, 0)), (23, (.iload_n 1, 24, 0, 0)), (24, (.ireturn, 25, 0, 0))]
def vtb179 : List (Nat × vI) := [(0, (.iload_n 1, 1, 0, 0)), (1, (.i2l, 2, 0, 0)), (2, (.lconst 0, 3, 0, 0)), (3, (.ldc2_w 391, 6, 0, 0)), (6, (.invokestatic 100, 9, 0, 0)), (9, (.ifCond .ne 6, 12, 15, 0)), (12, (.bipush (-2), 14, 0, (-2))), (14, (.ireturn, 15, 0, 0)), (15, (.iload_n 1, 16, 0, 0)), (16, (.ifCond .ne 8, 19, 24, 0)), (19, (.aload_n 0, 20, 0, 0)), (20, (.invokevirtual 393, 23, 0, 0)), (23, (.ireturn, 24, 0, 0)), (24, (.iconst 0, 25, 0, 0)), (25, (.istore_n 2, 26, 0, 0)), (26, (.aload_n 0, 27, 0, 0)), (27, (.iconst 0, 28, 0, 0)), (28, (.invokevirtual 145, 31, 0, 0)), (31, (.istore_n 3, 32, 0, 0)), (32, (.iconst 1, 33, 0, 1)), (33, (.istore 4, 35, 0, 0)), (35, (.iload 4, 37, 0, 0)), (37, (.iconst 5, 38, 0, 5)), (38, (.if_icmp .ge 29, 41, 67, 0)), (41, (.aload_n 0, 42, 0, 0)), (42, (.iload 4, 44, 0, 0)), (44, (.invokevirtual 145, 47, 0, 0)), (47, (.istore 5, 49, 0, 0)), (49, (.iload 5, 51, 0, 0)), (51, (.iload_n 3, 52, 0, 0)), (52, (.if_icmp .le 9, 55, 61, 0)), (55, (.iload 4, 57, 0, 0)), (57, (.istore_n 2, 58, 0, 0)), (58, (.iload 5, 60, 0, 0)), (60, (.istore_n 3, 61, 0, 0)), (61, (.iinc 4 1, 64, 0, 1)), (64, (.goto (-29), 67, 35, 0)), (67, (.iconst 0, 68, 0, 0)), (68, (.istore 4, 70, 0, 0)), (70, (.iconst 0, 71, 0, 0)), (71, (.istore 5, 73, 0, 0)), (73, (.iload 5, 75, 0, 0)), (75, (.iconst 4, 76, 0, 4)), (76, (.if_icmp .ge 29, 79, 105, 0)), (79, (.iload 4, 81, 0, 0)), (81, (.aload_n 0, 82, 0, 0)), (82, (.getfield 41, 85, 0, 0)), (85, (.iload 5, 87, 0, 0)), (87, (.iaload, 88, 0, 0)), (88, (.aload_n 0, 89, 0, 0)), (89, (.getfield 44, 92, 0, 0)), (92, (.iload 5, 94, 0, 0)), (94, (.iaload, 95, 0, 0)), (95, (.imul, 96, 0, 0)), (96, (.iadd, 97, 0, 0)), (97, (.istore 4, 99, 0, 0)), (99, (.iinc 5 1, 102, 0, 1)), (102, (.goto (-29), 105, 73, 0)), (105, (.iload_n 1, 106, 0, 0)), (106, (.iconst 1, 107, 0, 1)), (107, (.if_icmp .ne 7, 110, 114, 0)), (110, (.iload_n 2, 111, 0, 0)), (111, (.goto 5, 114, 116, 0)), (114, (.iload 4, 116, 0, 0)), (116, (.ireturn, 117, 0, 0))]
def vtb180 : List (Nat × vI) := [(0, (.iconst 0, 1, 0, 0)), (1, (.istore_n 1, 2, 0, 0)), (2, (.iload_n 1, 3, 0, 0)), (3, (.iconst 4, 4, 0, 4)), (4, (.if_icmp .ge 140, 7, 144, 0)), (7, (.iconst 0, 8, 0, 0)), (8, (.istore_n 2, 9, 0, 0)), (9, (.iload_n 2, 10, 0, 0)), (10, (.sipush 1000, 13, 0, 1000)), (13, (.if_icmp .ge 125, 16, 138, 0)), (16, (.ldc_w 396, 19, 0, 0)), (19, (.istore_n 3, 20, 0, 0)), (20, (.iconst 0, 21, 0, 0)), (21, (.istore 4, 23, 0, 0)), (23, (.iload 4, 25, 0, 0)), (25, (.aload_n 0, 26, 0, 0)), (26, (.getfield 44, 29, 0, 0)), (29, (.iload_n 1, 30, 0, 0)), (30, (.iaload, 31, 0, 0)), (31, (.if_icmp .gt 88, 34, 119, 0)), (34, (.iload 4, 36, 0, 0)), (36, (.aload_n 0, 37, 0, 0)), (37, (.getfield 41, 40, 0, 0)), (40, (.iload_n 1, 41, 0, 0)), (41, (.iaload, 42, 0, 0)), (42, (.imul, 43, 0, 0)), (43, (.iload_n 2, 44, 0, 0)), (44, (.if_icmp .gt 75, 47, 119, 0)), (47, (.iload_n 2, 48, 0, 0)), (48, (.iload 4, 50, 0, 0)), (50, (.aload_n 0, 51, 0, 0)), (51, (.getfield 41, 54, 0, 0)), (54, (.iload_n 1, 55, 0, 0)), (55, (.iaload, 56, 0, 0)), (56, (.imul, 57, 0, 0)), (57, (.isub, 58, 0, 0)), (58, (.istore 5, 60, 0, 0)), (60, (.iload_n 1, 61, 0, 0)), (61, (.ifCond .le 24, 64, 85, 0)), (64, (.aload_n 0, 65, 0, 0)), (65, (.getfield 47, 68, 0, 0)), (68, (.sipush 1000, 71, 0, 1000)), (71, (.iload_n 1, 72, 0, 0)), (72, (.iconst 1, 73, 0, 1)), (73, (.isub, 74, 0, 0)), (74, (.imul, 75, 0, 0)), (75, (.iload 5, 77, 0, 0)), (77, (.iadd, 78, 0, 0)), (78, (.iaload, 79, 0, 0)), (79, (.iload 4, 81, 0, 0)), (81, (.iadd, 82, 0, 0)), (82, (.goto 16, 85, 98, 0)), (85, (.iload 5, 87, 0, 0)), (87, (.ifCond .ne 8, 90, 95, 0)), (90, (.iload 4, 92, 0, 0)), (92, (.goto 6, 95, 98, 0)), (95, (.ldc_w 396, 98, 0, 0)), (98, (.istore 6, 100, 0, 0)), (100, (.iload 6, 102, 0, 0)), (102, (.iload_n 3, 103, 0, 0)), (103, (.if_icmp .ge 8, 106, 111, 0)), (106, (.iload 6, 108, 0, 0)), (108, (.goto 4, 111, 112, 0)), (111, (.iload_n 3, 112, 0, 0)), (112, (.istore_n 3, 113, 0, 0)), (113, (.iinc 4 1, 116, 0, 1)), (116, (.goto (-93), 119, 23, 0)), (119, (.aload_n 0, 120, 0, 0)), (120, (.getfield 47, 123, 0, 0)), (123, (.sipush 1000, 126, 0, 1000)), (126, (.iload_n 1, 127, 0, 0)), (127, (.imul, 128, 0, 0)), (128, (.iload_n 2, 129, 0, 0)), (129, (.iadd, 130, 0, 0)), (130, (.iload_n 3, 131, 0, 0)), (131, (.iastore, 132, 0, 0)), (132, (.iinc 2 1, 135, 0, 1)), (135, (.goto (-126), 138, 9, 0)), (138, (.iinc 1 1, 141, 0, 1)), (141, (.goto (-139), 144, 2, 0)), (144, (.return_, 145, 0, 0))]
def vtb181 : List (Nat × vI) := [(0, (.aload_n 0, 1, 0, 0)), (1, (.getfield 47, 4, 0, 0)), (4, (.sipush 3000, 7, 0, 3000)), (7, (.iload_n 1, 8, 0, 0)), (8, (.iadd, 9, 0, 0)), (9, (.iaload, 10, 0, 0)), (10, (.ireturn, 11, 0, 0))]
def vtb182 : List (Nat × vI) := [(0, (.iload_n 1, 1, 0, 0)), (1, (.i2l, 2, 0, 0)), (2, (.lconst 0, 3, 0, 0)), (3, (.ldc2_w 141, 6, 0, 0)), (6, (.invokestatic 100, 9, 0, 0)), (9, (.ifCond .eq 15, 12, 24, 0)), (12, (.iload_n 2, 13, 0, 0)), (13, (.i2l, 14, 0, 0)), (14, (.lconst 0, 15, 0, 0)), (15, (.ldc2_w 391, 18, 0, 0)), (18, (.invokestatic 100, 21, 0, 0)), (21, (.ifCond .ne 6, 24, 27, 0)), (24, (.bipush (-2), 26, 0, (-2))), (26, (.ireturn, 27, 0, 0)), (27, (.aload_n 0, 28, 0, 0)), (28, (.invokevirtual 397, 31, 0, 0)), (31, (.aload_n 0, 32, 0, 0)), (32, (.iload_n 1, 33, 0, 0)), (33, (.invokevirtual 400, 36, 0, 0)), (36, (.ldc_w 396, 39, 0, 0)), (39, (.if_icmp .ge 7, 42, 46, 0)), (42, (.iconst 1, 43, 0, 1)), (43, (.goto 4, 46, 47, 0)), (46, (.iconst 0, 47, 0, 0)), (47, (.istore_n 3, 48, 0, 0)), (48, (.iload_n 2, 49, 0, 0)), (49, (.iconst 2, 50, 0, 2)), (50, (.if_icmp .ge 33, 53, 83, 0)), (53, (.iload_n 2, 54, 0, 0)), (54, (.ifCond .ne 15, 57, 69, 0)), (57, (.iload_n 3, 58, 0, 0)), (58, (.ifCond .eq 7, 61, 65, 0)), (61, (.iconst 1, 62, 0, 1)), (62, (.goto 20, 65, 82, 0)), (65, (.iconst 0, 66, 0, 0)), (66, (.goto 16, 69, 82, 0)), (69, (.iload_n 3, 70, 0, 0)), (70, (.ifCond .eq 11, 73, 81, 0)), (73, (.aload_n 0, 74, 0, 0)), (74, (.iload_n 1, 75, 0, 0)), (75, (.invokevirtual 400, 78, 0, 0)), (78, (.goto 4, 81, 82, 0)), (81, (.iconst (-1), 82, 0, (-1))), (82, (.ireturn, 83, 0, 0)), (83, (.iload_n 1, 84, 0, 0)), (84, (.istore 4, 86, 0, 0)), (86, (.aload_n 0, 87, 0, 0)), (87, (.iload 4, 89, 0, 0)), (89, (.invokevirtual 400, 92, 0, 0)), (92, (.ldc_w 396, 95, 0, 0)), (95, (.if_icmp .lt 9, 98, 104, 0)), (98, (.iinc 4 (-1), 101, 0, (-1))), (101, (.goto (-15), 104, 86, 0)), (104, (.iload 4, 106, 0, 0)), (106, (.ireturn, 107, 0, 0))]
def vtb183 : List (Nat × vI) := [(0, (.iload_n 1, 1, 0, 0)), (1, (.invokestatic 112, 4, 0, 0)), (4, (.ifCond .ne 6, 7, 10, 0)), (7, (.bipush (-2), 9, 0, (-2))), (9, (.ireturn, 10, 0, 0)), (10, (.aload_n 0, 11, 0, 0)), (11, (.iload_n 1, 12, 0, 0)), (12, (.invokevirtual 145, 15, 0, 0)), (15, (.istore_n 2, 16, 0, 0)), (16, (.iload_n 2, 17, 0, 0)), (17, (.sipush 1000, 20, 0, 1000)), (20, (.if_icmp .lt 6, 23, 26, 0)), (23, (.bipush (-3), 25, 0, (-3))), (25, (.ireturn, 26, 0, 0)), (26, (.aload_n 0, 27, 0, 0)), (27, (.invokevirtual 397, 30, 0, 0)), (30, (.aload_n 0, 31, 0, 0)), (31, (.iload_n 2, 32, 0, 0)), (32, (.invokevirtual 400, 35, 0, 0)), (35, (.istore_n 3, 36, 0, 0)), (36, (.iload_n 3, 37, 0, 0)), (37, (.ldc_w 396, 40, 0, 0)), (40, (.if_icmp .lt 6, 43, 46, 0)), (43, (.bipush (-3), 45, 0, (-3))), (45, (.ireturn, 46, 0, 0)), (46, (.iload_n 2, 47, 0, 0)), (47, (.istore 4, 49, 0, 0)), (49, (.iload_n 3, 50, 0, 0)), (50, (.istore 5, 52, 0, 0)), (52, (.iconst 3, 53, 0, 3)), (53, (.istore 6, 55, 0, 0)), (55, (.iload 6, 57, 0, 0)), (57, (.ifCond .le 114, 60, 171, 0)), (60, (.iload 4, 62, 0, 0)), (62, (.aload_n 0, 63, 0, 0)), (63, (.getfield 41, 66, 0, 0)), (66, (.iload 6, 68, 0, 0)), (68, (.iaload, 69, 0, 0)), (69, (.idiv, 70, 0, 0)), (70, (.iconst 0, 71, 0, 0)), (71, (.aload_n 0, 72, 0, 0)), (72, (.getfield 44, 75, 0, 0)), (75, (.iload 6, 77, 0, 0)), (77, (.iaload, 78, 0, 0)), (78, (.invokestatic 365, 81, 0, 0)), (81, (.istore 7, 83, 0, 0)), (83, (.iload 7, 85, 0, 0)), (85, (.iload 5, 87, 0, 0)), (87, (.if_icmp .gt 38, 90, 125, 0)), (90, (.aload_n 0, 91, 0, 0)), (91, (.getfield 47, 94, 0, 0)), (94, (.sipush 1000, 97, 0, 1000)), (97, (.iload 6, 99, 0, 0)), (99, (.iconst 1, 100, 0, 1)), (100, (.isub, 101, 0, 0)), (101, (.imul, 102, 0, 0)), (102, (.iload 4, 104, 0, 0)), (104, (.iadd, 105, 0, 0)), (105, (.iload 7, 107, 0, 0)), (107, (.aload_n 0, 108, 0, 0)), (108, (.getfield 41, 111, 0, 0)), (111, (.iload 6, 113, 0, 0)), (113, (.iaload, 114, 0, 0)), (114, (.imul, 115, 0, 0)), (115, (.isub, 116, 0, 0)), (116, (.iaload, 117, 0, 0)), (117, (.iload 5, 119, 0, 0)), (119, (.iload 7, 121, 0, 0)), (121, (.isub, 122, 0, 0)), (122, (.if_icmp .eq 9, 125, 131, 0)), (125, (.iinc 7 (-1), 128, 0, (-1))), (128, (.goto (-45), 131, 83, 0)), (131, (.aload_n 0, 132, 0, 0)), (132, (.getfield 44, 135, 0, 0)), (135, (.iload 6, 137, 0, 0)), (137, (.dup2, 138, 0, 0)), (138, (.iaload, 139, 0, 0)), (139, (.iload 7, 141, 0, 0)), (141, (.isub, 142, 0, 0)), (142, (.iastore, 143, 0, 0)), (143, (.iload 4, 145, 0, 0)), (145, (.iload 7, 147, 0, 0)), (147, (.aload_n 0, 148, 0, 0)), (148, (.getfield 41, 151, 0, 0)), (151, (.iload 6, 153, 0, 0)), (153, (.iaload, 154, 0, 0)), (154, (.imul, 155, 0, 0)), (155, (.isub, 156, 0, 0)), (156, (.istore 4, 158, 0, 0)), (158, (.iload 5, 160, 0, 0)), (160, (.iload 7, 162, 0, 0)), (162, (.isub, 163, 0, 0)), (163, (.istore 5, 165, 0, 0)), (165, (.iinc 6 (-1), 168, 0, (-1))), (168, (.goto (-113), 171, 55, 0)), (171, (.aload_n 0, 172, 0, 0)), (172, (.getfield 44, 175, 0, 0)), (175, (.iconst 0, 176, 0, 0)), (176, (.dup2, 177, 0, 0)), (177, (.iaload, 178, 0, 0)), (178, (.iload 5, 180, 0, 0)), (180, (.isub, 181, 0, 0)), (181, (.iastore, 182, 0, 0)), (182, (.aload_n 0, 183, 0, 0)), (183, (.getfield 38, 186, 0, 0)), (186, (.iload_n 1, 187, 0, 0)), (187, (.aload_n 0, 188, 0, 0)), (188, (.getfield 38, 191, 0, 0)), (191, (.iload_n 1, 192, 0, 0)), (192, (.iaload, 193, 0, 0)), (193, (.iload_n 2, 194, 0, 0)), (194, (.iadd, 195, 0, 0)), (195, (.iconst 0, 196, 0, 0)), (196, (.ldc_w 390, 199, 0, 0)), (199, (.invokestatic 365, 202, 0, 0)), (202, (.iastore, 203, 0, 0)), (203, (.iload_n 3, 204, 0, 0)), (204, (.ireturn, 205, 0, 0))]
def vtb184 : List (Nat × vI) := [(0, (.iload_n 1, 1, 0, 0)), (1, (.invokestatic 112, 4, 0, 0)), (4, (.ifCond .eq 21, 7, 25, 0)), (7, (.aload_n 0, 8, 0, 0)), (8, (.iload_n 2, 9, 0, 0)), (9, (.invokevirtual 106, 12, 0, 0)), (12, (.ifCond .eq 13, 15, 25, 0)), (15, (.iload_n 3, 16, 0, 0)), (16, (.i2l, 17, 0, 0)), (17, (.lconst 0, 18, 0, 0)), (18, (.lconst 1, 19, 0, 0)), (19, (.invokestatic 100, 22, 0, 0)), (22, (.ifCond .ne 6, 25, 28, 0)), (25, (.bipush (-2), 27, 0, (-2))), (27, (.ireturn, 28, 0, 0)), (28, (.bipush 6, 30, 0, 6)), (30, (.iload_n 1, 31, 0, 0)), (31, (.imul, 32, 0, 0)), (32, (.iload_n 2, 33, 0, 0)), (33, (.iadd, 34, 0, 0)), (34, (.istore 4, 36, 0, 0)), (36, (.aload_n 0, 37, 0, 0)), (37, (.getfield 32, 40, 0, 0)), (40, (.iload 4, 42, 0, 0)), (42, (.iaload, 43, 0, 0)), (43, (.istore 5, 45, 0, 0)), (45, (.aload_n 0, 46, 0, 0)), (46, (.iconst (-1), 47, 0, (-1))), (47, (.putfield 403, 50, 0, 0)), (50, (.aload_n 0, 51, 0, 0)), (51, (.iconst (-1), 52, 0, (-1))), (52, (.putfield 406, 55, 0, 0)), (55, (.iconst 0, 56, 0, 0)), (56, (.istore 6, 58, 0, 0)), (58, (.iload 6, 60, 0, 0)), (60, (.bipush 12, 62, 0, 12)), (62, (.if_icmp .ge 74, 65, 136, 0)), (65, (.iload 5, 67, 0, 0)), (67, (.aload_n 0, 68, 0, 0)), (68, (.getfield 133, 71, 0, 0)), (71, (.ior, 72, 0, 0)), (72, (.iload 6, 74, 0, 0)), (74, (.ishr, 75, 0, 0)), (75, (.iconst 1, 76, 0, 1)), (76, (.iand, 77, 0, 0)), (77, (.ifCond .ne 53, 80, 130, 0)), (80, (.aload_n 0, 81, 0, 0)), (81, (.getfield 32, 84, 0, 0)), (84, (.iload 4, 86, 0, 0)), (86, (.iload 5, 88, 0, 0)), (88, (.iconst 1, 89, 0, 1)), (89, (.iload 6, 91, 0, 0)), (91, (.ishl, 92, 0, 0)), (92, (.ior, 93, 0, 0)), (93, (.iastore, 94, 0, 0)), (94, (.aload_n 0, 95, 0, 0)), (95, (.iload_n 1, 96, 0, 0)), (96, (.invokevirtual 387, 99, 0, 0)), (99, (.istore 7, 101, 0, 0)), (101, (.aload_n 0, 102, 0, 0)), (102, (.getfield 403, 105, 0, 0)), (105, (.iconst (-1), 106, 0, (-1))), (106, (.if_icmp .eq 12, 109, 118, 0)), (109, (.iload 7, 111, 0, 0)), (111, (.aload_n 0, 112, 0, 0)), (112, (.getfield 406, 115, 0, 0)), (115, (.if_icmp .ge 15, 118, 130, 0)), (118, (.aload_n 0, 119, 0, 0)), (119, (.iload 6, 121, 0, 0)), (121, (.putfield 403, 124, 0, 0)), (124, (.aload_n 0, 125, 0, 0)), (125, (.iload 7, 127, 0, 0)), (127, (.putfield 406, 130, 0, 0)), (130, (.iinc 6 1, 133, 0, 1)), (133, (.goto (-75), 136, 58, 0)), (136, (.aload_n 0, 137, 0, 0)), (137, (.getfield 32, 140, 0, 0)), (140, (.iload 4, 142, 0, 0)), (142, (.iload 5, 144, 0, 0)), (144, (.iastore, 145, 0, 0)), (145, (.iload_n 3, 146, 0, 0)), (146, (.ifCond .ne 10, 149, 156, 0)), (149, (.aload_n 0, 150, 0, 0)), (150, (.getfield 403, 153, 0, 0)), (153, (.goto 7, 156, 160, 0)), (156, (.aload_n 0, 157, 0, 0)), (157, (.getfield 406, 160, 0, 0)), (160, (.ireturn, 161, 0, 0))]
def vtb185 : List (Nat × vI) := [(0, (.iload_n 1, 1, 0, 0)), (1, (.invokestatic 112, 4, 0, 0)), (4, (.ifCond .eq 13, 7, 17, 0)), (7, (.iload_n 2, 8, 0, 0)), (8, (.i2l, 9, 0, 0)), (9, (.lconst 0, 10, 0, 0)), (10, (.lconst 1, 11, 0, 0)), (11, (.invokestatic 100, 14, 0, 0)), (14, (.ifCond .ne 6, 17, 20, 0)), (17, (.bipush (-2), 19, 0, (-2))), (19, (.ireturn, 20, 0, 0)), (20, (.aload_n 0, 21, 0, 0)), (21, (.iconst (-1), 22, 0, (-1))), (22, (.putfield 403, 25, 0, 0)), (25, (.aload_n 0, 26, 0, 0)), (26, (.aload_n 0, 27, 0, 0)), (27, (.iload_n 1, 28, 0, 0)), (28, (.invokevirtual 387, 31, 0, 0)), (31, (.putfield 406, 34, 0, 0)), (34, (.iconst 0, 35, 0, 0)), (35, (.istore_n 3, 36, 0, 0)), (36, (.iload_n 3, 37, 0, 0)), (37, (.aload_n 0, 38, 0, 0)), (38, (.getfield 97, 41, 0, 0)), (41, (.if_icmp .ge 74, 44, 115, 0)), (44, (.aload_n 0, 45, 0, 0)), (45, (.getfield 32, 48, 0, 0)), (48, (.bipush 6, 50, 0, 6)), (50, (.iload_n 1, 51, 0, 0)), (51, (.imul, 52, 0, 0)), (52, (.iload_n 3, 53, 0, 0)), (53, (.iadd, 54, 0, 0)), (54, (.iaload, 55, 0, 0)), (55, (.istore 4, 57, 0, 0)), (57, (.aload_n 0, 58, 0, 0)), (58, (.getfield 32, 61, 0, 0)), (61, (.bipush 6, 63, 0, 6)), (63, (.iload_n 1, 64, 0, 0)), (64, (.imul, 65, 0, 0)), (65, (.iload_n 3, 66, 0, 0)), (66, (.iadd, 67, 0, 0)), (67, (.iconst 0, 68, 0, 0)), (68, (.iastore, 69, 0, 0)), (69, (.aload_n 0, 70, 0, 0)), (70, (.iload_n 1, 71, 0, 0)), (71, (.invokevirtual 387, 74, 0, 0)), (74, (.istore 5, 76, 0, 0)), (76, (.aload_n 0, 77, 0, 0)), (77, (.getfield 32, 80, 0, 0)), (80, (.bipush 6, 82, 0, 6)), (82, (.iload_n 1, 83, 0, 0)), (83, (.imul, 84, 0, 0)), (84, (.iload_n 3, 85, 0, 0)), (85, (.iadd, 86, 0, 0)), (86, (.iload 4, 88, 0, 0)), (88, (.iastore, 89, 0, 0)), (89, (.iload 5, 91, 0, 0)), (91, (.aload_n 0, 92, 0, 0)), (92, (.getfield 406, 95, 0, 0)), (95, (.if_icmp .ge 14, 98, 109, 0)), (98, (.aload_n 0, 99, 0, 0)), (99, (.iload_n 3, 100, 0, 0)), (100, (.putfield 403, 103, 0, 0)), (103, (.aload_n 0, 104, 0, 0)), (104, (.iload 5, 106, 0, 0)), (106, (.putfield 406, 109, 0, 0)), (109, (.iinc 3 1, 112, 0, 1)), (112, (.goto (-76), 115, 36, 0)), (115, (.iload_n 2, 116, 0, 0)), (116, (.ifCond .ne 10, 119, 126, 0)), (119, (.aload_n 0, 120, 0, 0)), (120, (.getfield 403, 123, 0, 0)), (123, (.goto 7, 126, 130, 0)), (126, (.aload_n 0, 127, 0, 0)), (127, (.getfield 406, 130, 0, 0)), (130, (.ireturn, 131, 0, 0))]
def vtb186 : List (Nat × vI) := [(0, (.iload_n 1, 1, 0, 0)), (1, (.invokestatic 112, 4, 0, 0)), (4, (.ifCond .eq 15, 7, 19, 0)), (7, (.iload_n 2, 8, 0, 0)), (8, (.i2l, 9, 0, 0)), (9, (.lconst 0, 10, 0, 0)), (10, (.ldc2_w 409, 13, 0, 0)), (13, (.invokestatic 100, 16, 0, 0)), (16, (.ifCond .ne 6, 19, 22, 0)), (19, (.bipush (-2), 21, 0, (-2))), (21, (.ireturn, 22, 0, 0)), (22, (.iconst 0, 23, 0, 0)), (23, (.istore_n 3, 24, 0, 0)), (24, (.iload_n 3, 25, 0, 0)), (25, (.aload_n 0, 26, 0, 0)), (26, (.getfield 97, 29, 0, 0)), (29, (.if_icmp .ge 26, 32, 55, 0)), (32, (.aload_n 0, 33, 0, 0)), (33, (.getfield 50, 36, 0, 0)), (36, (.iload_n 3, 37, 0, 0)), (37, (.aload_n 0, 38, 0, 0)), (38, (.getfield 32, 41, 0, 0)), (41, (.bipush 6, 43, 0, 6)), (43, (.iload_n 1, 44, 0, 0)), (44, (.imul, 45, 0, 0)), (45, (.iload_n 3, 46, 0, 0)), (46, (.iadd, 47, 0, 0)), (47, (.iaload, 48, 0, 0)), (48, (.iastore, 49, 0, 0)), (49, (.iinc 3 1, 52, 0, 1)), (52, (.goto (-28), 55, 24, 0)), (55, (.iconst (-1), 56, 0, (-1))), (56, (.istore_n 3, 57, 0, 0)), (57, (.iconst 0, 58, 0, 0)), (58, (.istore 4, 60, 0, 0)), (60, (.iload 4, 62, 0, 0)), (62, (.bipush 12, 64, 0, 12)), (64, (.if_icmp .ge 74, 67, 138, 0)), (67, (.iload_n 3, 68, 0, 0)), (68, (.iconst (-1), 69, 0, (-1))), (69, (.if_icmp .ne 69, 72, 138, 0)), (72, (.iconst 0, 73, 0, 0)), (73, (.istore 5, 75, 0, 0)), (75, (.iload 5, 77, 0, 0)), (77, (.aload_n 0, 78, 0, 0)), (78, (.getfield 97, 81, 0, 0)), (81, (.if_icmp .ge 35, 84, 116, 0)), (84, (.aload_n 0, 85, 0, 0)), (85, (.getfield 32, 88, 0, 0)), (88, (.bipush 6, 90, 0, 6)), (90, (.iload_n 1, 91, 0, 0)), (91, (.imul, 92, 0, 0)), (92, (.iload 5, 94, 0, 0)), (94, (.iadd, 95, 0, 0)), (95, (.aload_n 0, 96, 0, 0)), (96, (.getfield 50, 99, 0, 0)), (99, (.iload 5, 101, 0, 0)), (101, (.iaload, 102, 0, 0)), (102, (.iconst 2, 103, 0, 2)), (103, (.iload 4, 105, 0, 0)), (105, (.ishl, 106, 0, 0)), (106, (.iconst 1, 107, 0, 1)), (107, (.isub, 108, 0, 0)), (108, (.iand, 109, 0, 0)), (109, (.iastore, 110, 0, 0)), (110, (.iinc 5 1, 113, 0, 1)), (113, (.goto (-38), 116, 75, 0)), (116, (.aload_n 0, 117, 0, 0)), (117, (.iload_n 1, 118, 0, 0)), (118, (.invokevirtual 387, 121, 0, 0)), (121, (.iload_n 2, 122, 0, 0)), (122, (.if_icmp .lt 8, 125, 130, 0)), (125, (.iload 4, 127, 0, 0)), (127, (.goto 4, 130, 131, 0)), (130, (.iconst (-1), 131, 0, (-1))), (131, (.istore_n 3, 132, 0, 0)), (132, (.iinc 4 1, 135, 0, 1)), (135, (.goto (-75), 138, 60, 0)), (138, (.iconst 0, 139, 0, 0)), (139, (.istore 4, 141, 0, 0)), (141, (.iload 4, 143, 0, 0)), (143, (.aload_n 0, 144, 0, 0)), (144, (.getfield 97, 147, 0, 0)), (147, (.if_icmp .ge 28, 150, 175, 0)), (150, (.aload_n 0, 151, 0, 0)), (151, (.getfield 32, 154, 0, 0)), (154, (.bipush 6, 156, 0, 6)), (156, (.iload_n 1, 157, 0, 0)), (157, (.imul, 158, 0, 0)), (158, (.iload 4, 160, 0, 0)), (160, (.iadd, 161, 0, 0)), (161, (.aload_n 0, 162, 0, 0)), (162, (.getfield 50, 165, 0, 0)), (165, (.iload 4, 167, 0, 0)), (167, (.iaload, 168, 0, 0)), (168, (.iastore, 169, 0, 0)), (169, (.iinc 4 1, 172, 0, 1)), (172, (.goto (-31), 175, 141, 0)), (175, (.iload_n 3, 176, 0, 0)), (176, (.ireturn, 177, 0, 0))]
def vtb187 : List (Nat × vI) := [(0, (.iload_n 1, 1, 0, 0)), (1, (.i2l, 2, 0, 0)), (2, (.lconst 0, 3, 0, 0)), (3, (.ldc2_w 411, 6, 0, 0)), (6, (.invokestatic 100, 9, 0, 0)), (9, (.ifCond .eq 27, 12, 36, 0)), (12, (.iload_n 2, 13, 0, 0)), (13, (.i2l, 14, 0, 0)), (14, (.lconst 0, 15, 0, 0)), (15, (.ldc2_w 409, 18, 0, 0)), (18, (.invokestatic 100, 21, 0, 0)), (21, (.ifCond .eq 15, 24, 36, 0)), (24, (.iload_n 3, 25, 0, 0)), (25, (.i2l, 26, 0, 0)), (26, (.lconst 0, 27, 0, 0)), (27, (.ldc2_w 391, 30, 0, 0)), (30, (.invokestatic 100, 33, 0, 0)), (33, (.ifCond .ne 6, 36, 39, 0)), (36, (.bipush (-2), 38, 0, (-2))), (38, (.ireturn, 39, 0, 0)), (39, (.iconst 0, 40, 0, 0)), (40, (.istore 4, 42, 0, 0)), (42, (.iconst (-1), 43, 0, (-1))), (43, (.istore 5, 45, 0, 0)), (45, (.iconst (-1), 46, 0, (-1))), (46, (.istore 6, 48, 0, 0)), (48, (.iconst 0, 49, 0, 0)), (49, (.istore 7, 51, 0, 0)), (51, (.iload 7, 53, 0, 0)), (53, (.iconst 5, 54, 0, 5)), (54, (.if_icmp .ge 86, 57, 140, 0)), (57, (.aload_n 0, 58, 0, 0)), (58, (.iload 7, 60, 0, 0)), (60, (.invokevirtual 145, 63, 0, 0)), (63, (.iload_n 2, 64, 0, 0)), (64, (.if_icmp .lt 70, 67, 134, 0)), (67, (.iload 5, 69, 0, 0)), (69, (.iconst (-1), 70, 0, (-1))), (70, (.if_icmp .eq 20, 73, 90, 0)), (73, (.aload_n 0, 74, 0, 0)), (74, (.getfield 35, 77, 0, 0)), (77, (.iload 7, 79, 0, 0)), (79, (.iaload, 80, 0, 0)), (80, (.aload_n 0, 81, 0, 0)), (81, (.getfield 35, 84, 0, 0)), (84, (.iload 5, 86, 0, 0)), (86, (.iaload, 87, 0, 0)), (87, (.if_icmp .ge 8, 90, 95, 0)), (90, (.iload 7, 92, 0, 0)), (92, (.goto 5, 95, 97, 0)), (95, (.iload 5, 97, 0, 0)), (97, (.istore 5, 99, 0, 0)), (99, (.iload 6, 101, 0, 0)), (101, (.iconst (-1), 102, 0, (-1))), (102, (.if_icmp .eq 20, 105, 122, 0)), (105, (.aload_n 0, 106, 0, 0)), (106, (.getfield 35, 109, 0, 0)), (109, (.iload 7, 111, 0, 0)), (111, (.iaload, 112, 0, 0)), (112, (.aload_n 0, 113, 0, 0)), (113, (.getfield 35, 116, 0, 0)), (116, (.iload 6, 118, 0, 0)), (118, (.iaload, 119, 0, 0)), (119, (.if_icmp .le 8, 122, 127, 0)), (122, (.iload 7, 124, 0, 0)), (124, (.goto 5, 127, 129, 0)), (127, (.iload 6, 129, 0, 0)), (129, (.istore 6, 131, 0, 0)), (131, (.iinc 4 1, 134, 0, 1)), (134, (.iinc 7 1, 137, 0, 1)), (137, (.goto (-86), 140, 51, 0)), (140, (.iload_n 3, 141, 0, 0)), (141, (.iconst 2, 142, 0, 2)), (142, (.if_icmp .eq 8, 145, 150, 0)), (145, (.iload 4, 147, 0, 0)), (147, (.ifCond .ne 15, 150, 162, 0)), (150, (.iload_n 3, 151, 0, 0)), (151, (.iconst 1, 152, 0, 1)), (152, (.if_icmp .ne 7, 155, 159, 0)), (155, (.iconst (-1), 156, 0, (-1))), (156, (.goto 5, 159, 161, 0)), (159, (.iload 4, 161, 0, 0)), (161, (.ireturn, 162, 0, 0)), (162, (.iload_n 1, 163, 0, 0)), (163, (.aload_n 0, 164, 0, 0)), (164, (.getfield 35, 167, 0, 0)), (167, (.iload 5, 169, 0, 0)), (169, (.iaload, 170, 0, 0)), (170, (.invokestatic 413, 173, 0, 0)), (173, (.istore 7, 175, 0, 0)), (175, (.iload_n 1, 176, 0, 0)), (176, (.aload_n 0, 177, 0, 0)), (177, (.getfield 35, 180, 0, 0)), (180, (.iload 6, 182, 0, 0)), (182, (.iaload, 183, 0, 0)), (183, (.invokestatic 413, 186, 0, 0)), (186, (.istore 8, 188, 0, 0)), (188, (.iload_n 3, 189, 0, 0)), (189, (.iconst 1, 190, 0, 1)), (190, (.if_icmp .ne 18, 193, 208, 0)), (193, (.iload 8, 195, 0, 0)), (195, (.iload 7, 197, 0, 0)), (197, (.if_icmp .ge 8, 200, 205, 0)), (200, (.iload 6, 202, 0, 0)), (202, (.goto 5, 205, 207, 0)), (205, (.iload 5, 207, 0, 0)), (207, (.ireturn, 208, 0, 0)), (208, (.aload_n 0, 209, 0, 0)), (209, (.getfield 35, 212, 0, 0)), (212, (.iload 6, 214, 0, 0)), (214, (.iaload, 215, 0, 0)), (215, (.aload_n 0, 216, 0, 0)), (216, (.getfield 35, 219, 0, 0)), (219, (.iload 5, 221, 0, 0)), (221, (.iaload, 222, 0, 0)), (222, (.isub, 223, 0, 0)), (223, (.iload 8, 225, 0, 0)), (225, (.iload 7, 227, 0, 0)), (227, (.if_icmp .ge 8, 230, 235, 0)), (230, (.iload 8, 232, 0, 0)), (232, (.goto 5, 235, 237, 0)), (235, (.iload 7, 237, 0, 0)), (237, (.iadd, 238, 0, 0)), (238, (.ireturn, 239, 0, 0))]
def vtb188 : List (Nat × vI) := [(0, (.iconst 0, 1, 0, 0)), (1, (.istore_n 3, 2, 0, 0)), (2, (.iload_n 3, 3, 0, 0)), (3, (.aload_n 0, 4, 0, 0)), (4, (.getfield 97, 7, 0, 0)), (7, (.if_icmp .ge 31, 10, 38, 0)), (10, (.aload_n 0, 11, 0, 0)), (11, (.iload_n 2, 12, 0, 0)), (12, (.iload_n 3, 13, 0, 0)), (13, (.invokevirtual 384, 16, 0, 0)), (16, (.aload_n 0, 17, 0, 0)), (17, (.getfield 87, 20, 0, 0)), (20, (.bipush 40, 22, 0, 40)), (22, (.iload_n 1, 23, 0, 0)), (23, (.imul, 24, 0, 0)), (24, (.iload_n 3, 25, 0, 0)), (25, (.iadd, 26, 0, 0)), (26, (.iaload, 27, 0, 0)), (27, (.if_icmp .eq 5, 30, 32, 0)), (30, (.iload_n 3, 31, 0, 0)), (31, (.ireturn, 32, 0, 0)), (32, (.iinc 3 1, 35, 0, 1)), (35, (.goto (-33), 38, 2, 0)), (38, (.iconst (-1), 39, 0, (-1))), (39, (.ireturn, 40, 0, 0))]
def vtb189 : List (Nat × vI) := [(0, (.aload_n 0, 1, 0, 0)), (1, (.getfield 133, 4, 0, 0)), (4, (.istore_n 3, 5, 0, 0)), (5, (.iconst 0, 6, 0, 0)), (6, (.istore 4, 8, 0, 0)), (8, (.iconst 0, 9, 0, 0)), (9, (.istore 5, 11, 0, 0)), (11, (.iload 5, 13, 0, 0)), (13, (.bipush 12, 15, 0, 12)), (15, (.if_icmp .gt 51, 18, 66, 0)), (18, (.aload_n 0, 19, 0, 0)), (19, (.iload 5, 21, 0, 0)), (21, (.bipush 12, 23, 0, 12)), (23, (.if_icmp .ne 7, 26, 30, 0)), (26, (.iconst 0, 27, 0, 0)), (27, (.goto 7, 30, 34, 0)), (30, (.iconst 1, 31, 0, 1)), (31, (.iload 5, 33, 0, 0)), (33, (.ishl, 34, 0, 0)), (34, (.putfield 133, 37, 0, 0)), (37, (.iload 4, 39, 0, 0)), (39, (.aload_n 0, 40, 0, 0)), (40, (.iload_n 1, 41, 0, 0)), (41, (.iload_n 2, 42, 0, 0)), (42, (.invokevirtual 416, 45, 0, 0)), (45, (.iconst (-1), 46, 0, (-1))), (46, (.if_icmp .ne 7, 49, 53, 0)), (49, (.iconst 1, 50, 0, 1)), (50, (.goto 4, 53, 54, 0)), (53, (.iconst 0, 54, 0, 0)), (54, (.iload 5, 56, 0, 0)), (56, (.ishl, 57, 0, 0)), (57, (.ior, 58, 0, 0)), (58, (.istore 4, 60, 0, 0)), (60, (.iinc 5 1, 63, 0, 1)), (63, (.goto (-52), 66, 11, 0)), (66, (.aload_n 0, 67, 0, 0)), (67, (.iload_n 3, 68, 0, 0)), (68, (.putfield 133, 71, 0, 0)), (71, (.iload 4, 73, 0, 0)), (73, (.ireturn, 74, 0, 0))]
def vtb190 : List (Nat × vI) := [(0, (.iload_n 3, 1, 0, 0)), (1, (.i2l, 2, 0, 0)), (2, (.ldc2_w 186, 5, 0, 0)), (5, (.ldc2_w 419, 8, 0, 0)), (8, (.invokestatic 100, 11, 0, 0)), (11, (.ifCond .eq 18, 14, 29, 0)), (14, (.aload_n 0, 15, 0, 0)), (15, (.iload_n 3, 16, 0, 0)), (16, (.bipush 10, 18, 0, 10)), (18, (.irem, 19, 0, 0)), (19, (.invokevirtual 106, 22, 0, 0)), (22, (.ifCond .eq 7, 25, 29, 0)), (25, (.iconst 1, 26, 0, 1)), (26, (.goto 4, 29, 30, 0)), (29, (.iconst 0, 30, 0, 0)), (30, (.istore 4, 32, 0, 0)), (32, (.iload_n 1, 33, 0, 0)), (33, (.invokestatic 421, 36, 0, 0)), (36, (.ifCond .eq 27, 39, 63, 0)), (39, (.iload_n 2, 40, 0, 0)), (40, (.invokestatic 112, 43, 0, 0)), (43, (.ifCond .eq 20, 46, 63, 0)), (46, (.iload_n 3, 47, 0, 0)), (47, (.i2l, 48, 0, 0)), (48, (.lconst 0, 49, 0, 0)), (49, (.ldc2_w 391, 52, 0, 0)), (52, (.invokestatic 100, 55, 0, 0)), (55, (.ifCond .ne 11, 58, 66, 0)), (58, (.iload 4, 60, 0, 0)), (60, (.ifCond .ne 6, 63, 66, 0)), (63, (.bipush (-2), 65, 0, (-2))), (65, (.ireturn, 66, 0, 0)), (66, (.aload_n 0, 67, 0, 0)), (67, (.getfield 77, 70, 0, 0)), (70, (.iload_n 1, 71, 0, 0)), (71, (.baload, 72, 0, 0)), (72, (.ifCond .ne 6, 75, 78, 0)), (75, (.bipush (-11), 77, 0, (-11))), (77, (.ireturn, 78, 0, 0)), (78, (.aload_n 0, 79, 0, 0)), (79, (.getfield 84, 82, 0, 0)), (82, (.iload_n 1, 83, 0, 0)), (83, (.iaload, 84, 0, 0)), (84, (.aload_n 0, 85, 0, 0)), (85, (.getfield 97, 88, 0, 0)), (88, (.if_icmp .eq 6, 91, 94, 0)), (91, (.bipush (-2), 93, 0, (-2))), (93, (.ireturn, 94, 0, 0)), (94, (.iload_n 3, 95, 0, 0)), (95, (.ifCond .ne 10, 98, 105, 0)), (98, (.aload_n 0, 99, 0, 0)), (99, (.iload_n 1, 100, 0, 0)), (100, (.iload_n 2, 101, 0, 0)), (101, (.invokevirtual 416, 104, 0, 0)), (104, (.ireturn, 105, 0, 0)), (105, (.iload_n 3, 106, 0, 0)), (106, (.iconst 2, 107, 0, 2)), (107, (.if_icmp .ne 10, 110, 117, 0)), (110, (.aload_n 0, 111, 0, 0)), (111, (.iload_n 1, 112, 0, 0)), (112, (.iload_n 2, 113, 0, 0)), (113, (.invokevirtual 424, 116, 0, 0)), (116, (.ireturn, 117, 0, 0)), (117, (.iload_n 3, 118, 0, 0)), (118, (.bipush 10, 120, 0, 10)), (120, (.irem, 121, 0, 0)), (121, (.istore 5, 123, 0, 0)), (123, (.iload_n 3, 124, 0, 0)), (124, (.iconst 1, 125, 0, 1)), (125, (.if_icmp .ne 8, 128, 133, 0)), (128, (.bipush 7, 130, 0, 7)), (130, (.goto 25, 133, 155, 0)), (133, (.iload_n 3, 134, 0, 0)), (134, (.bipush 20, 136, 0, 20)), (136, (.if_icmp .ge 8, 139, 144, 0)), (139, (.bipush 6, 141, 0, 6)), (141, (.goto 14, 144, 155, 0)), (144, (.iload_n 3, 145, 0, 0)), (145, (.bipush 30, 147, 0, 30)), (147, (.if_icmp .ge 7, 150, 154, 0)), (150, (.iconst 1, 151, 0, 1)), (151, (.goto 4, 154, 155, 0)), (154, (.iconst 2, 155, 0, 2)), (155, (.istore 6, 157, 0, 0)), (157, (.iload 6, 159, 0, 0)), (159, (.bipush 7, 161, 0, 7)), (161, (.if_icmp .ne 10, 164, 171, 0)), (164, (.aload_n 0, 165, 0, 0)), (165, (.getfield 136, 168, 0, 0)), (168, (.goto 11, 171, 179, 0)), (171, (.aload_n 0, 172, 0, 0)), (172, (.iload 5, 174, 0, 0)), (174, (.iload 6, 176, 0, 0)), (176, (.invokevirtual 125, 179, 0, 0)), (179, (.istore 7, 181, 0, 0)), (181, (.iload 6, 183, 0, 0)), (183, (.bipush 7, 185, 0, 7)), (185, (.if_icmp .ne 12, 188, 197, 0)), (188, (.aload_n 0, 189, 0, 0)), (189, (.getfield 94, 192, 0, 0)), (192, (.iconst 1, 193, 0, 1)), (193, (.isub, 194, 0, 0)), (194, (.goto 19, 197, 213, 0)), (197, (.iload 6, 199, 0, 0)), (199, (.bipush 6, 201, 0, 6)), (201, (.if_icmp .ne 7, 204, 208, 0)), (204, (.iconst 5, 205, 0, 5)), (205, (.goto 8, 208, 213, 0)), (208, (.iload 6, 210, 0, 0)), (210, (.invokestatic 121, 213, 0, 0)), (213, (.istore 8, 215, 0, 0)), (215, (.iconst 0, 216, 0, 0)), (216, (.istore 9, 218, 0, 0)), (218, (.iconst 0, 219, 0, 0)), (219, (.istore 10, 221, 0, 0)), (221, (.iconst (-1), 222, 0, (-1))), (222, (.istore 11, 224, 0, 0)), (224, (.iload 8, 226, 0, 0)), (226, (.istore 12, 228, 0, 0)), (228, (.iload 12, 230, 0, 0)), (230, (.iload 6, 232, 0, 0)), (232, (.iconst 2, 233, 0, 2)), (233, (.if_icmp .ne 7, 236, 240, 0)), (236, (.iconst 1, 237, 0, 1)), (237, (.goto 4, 240, 241, 0)), (240, (.iconst 0, 241, 0, 0)), (241, (.if_icmp .lt 56, 244, 297, 0)), (244, (.aload_n 0, 245, 0, 0)), (245, (.iload 6, 247, 0, 0)), (247, (.iload 5, 249, 0, 0)), (249, (.iload 12, 251, 0, 0)), (251, (.invokevirtual 129, 254, 0, 0)), (254, (.aload_n 0, 255, 0, 0)), (255, (.iload_n 1, 256, 0, 0)), (256, (.iload_n 2, 257, 0, 0)), (257, (.invokevirtual 416, 260, 0, 0)), (260, (.iconst (-1), 261, 0, (-1))), (261, (.if_icmp .ne 30, 264, 291, 0)), (264, (.iload 9, 266, 0, 0)), (266, (.iload 12, 268, 0, 0)), (268, (.bipush 10, 270, 0, 10)), (270, (.if_icmp .ge 10, 273, 280, 0)), (273, (.iconst 1, 274, 0, 1)), (274, (.iload 12, 276, 0, 0)), (276, (.ishl, 277, 0, 0)), (277, (.goto 4, 280, 281, 0)), (280, (.iconst 0, 281, 0, 0)), (281, (.ior, 282, 0, 0)), (282, (.istore 9, 284, 0, 0)), (284, (.iinc 10 1, 287, 0, 1)), (287, (.iload 12, 289, 0, 0)), (289, (.istore 11, 291, 0, 0)), (291, (.iinc 12 (-1), 294, 0, (-1))), (294, (.goto (-66), 297, 228, 0)), (297, (.aload_n 0, 298, 0, 0)), (298, (.iload 6, 300, 0, 0)), (300, (.iload 5, 302, 0, 0)), (302, (.iload 7, 304, 0, 0)), (304, (.invokevirtual 129, 307, 0, 0)), (307, (.iload_n 3, 308, 0, 0)), (308, (.bipush 30, 310, 0, 30)), (310, (.if_icmp .ge 8, 313, 318, 0)), (313, (.iload 9, 315, 0, 0)), (315, (.goto 16, 318, 331, 0)), (318, (.iload_n 3, 319, 0, 0)), (319, (.bipush 40, 321, 0, 40)), (321, (.if_icmp .ge 8, 324, 329, 0)), (324, (.iload 10, 326, 0, 0)), (326, (.goto 5, 329, 331, 0)), (329, (.iload 11, 331, 0, 0)), (331, (.ireturn, 332, 0, 0))]
def vtb191 : List (Nat × vI) := [(0, (.iload_n 1, 1, 0, 0)), (1, (.invokestatic 421, 4, 0, 0)), (4, (.ifCond .eq 10, 7, 14, 0)), (7, (.iload_n 2, 8, 0, 0)), (8, (.invokestatic 112, 11, 0, 0)), (11, (.ifCond .ne 6, 14, 17, 0)), (14, (.bipush (-2), 16, 0, (-2))), (16, (.ireturn, 17, 0, 0)), (17, (.aload_n 0, 18, 0, 0)), (18, (.iload_n 1, 19, 0, 0)), (19, (.iconst 2, 20, 0, 2)), (20, (.aload_n 0, 21, 0, 0)), (21, (.getfield 97, 24, 0, 0)), (24, (.invokevirtual 427, 27, 0, 0)), (27, (.pop, 28, 0, 0)), (28, (.iconst 0, 29, 0, 0)), (29, (.istore_n 3, 30, 0, 0)), (30, (.iload_n 3, 31, 0, 0)), (31, (.aload_n 0, 32, 0, 0)), (32, (.getfield 97, 35, 0, 0)), (35, (.if_icmp .ge 26, 38, 61, 0)), (38, (.aload_n 0, 39, 0, 0)), (39, (.getfield 87, 42, 0, 0)), (42, (.bipush 40, 44, 0, 40)), (44, (.iload_n 1, 45, 0, 0)), (45, (.imul, 46, 0, 0)), (46, (.iload_n 3, 47, 0, 0)), (47, (.iadd, 48, 0, 0)), (48, (.aload_n 0, 49, 0, 0)), (49, (.iload_n 2, 50, 0, 0)), (50, (.iload_n 3, 51, 0, 0)), (51, (.invokevirtual 384, 54, 0, 0)), (54, (.iastore, 55, 0, 0)), (55, (.iinc 3 1, 58, 0, 1)), (58, (.goto (-28), 61, 30, 0)), (61, (.aload_n 0, 62, 0, 0)), (62, (.getfield 97, 65, 0, 0)), (65, (.ireturn, 66, 0, 0))]
def vtb192 : List (Nat × vI) := [(0, (.aload_n 0, 1, 0, 0)), (1, (.getfield 133, 4, 0, 0)), (4, (.istore_n 2, 5, 0, 0)), (5, (.iload_n 1, 6, 0, 0)), (6, (.istore_n 3, 7, 0, 0)), (7, (.aload_n 0, 8, 0, 0)), (8, (.iconst 0, 9, 0, 0)), (9, (.putfield 133, 12, 0, 0)), (12, (.iconst 0, 13, 0, 0)), (13, (.istore 4, 15, 0, 0)), (15, (.iload 4, 17, 0, 0)), (17, (.bipush 12, 19, 0, 12)), (19, (.if_icmp .ge 45, 22, 64, 0)), (22, (.iload_n 3, 23, 0, 0)), (23, (.ldc_w 430, 26, 0, 0)), (26, (.imul, 27, 0, 0)), (27, (.sipush 12345, 30, 0, 12345)), (30, (.iadd, 31, 0, 0)), (31, (.istore_n 3, 32, 0, 0)), (32, (.aload_n 0, 33, 0, 0)), (33, (.dup, 34, 0, 0)), (34, (.getfield 133, 37, 0, 0)), (37, (.iload_n 3, 38, 0, 0)), (38, (.bipush 9, 40, 0, 9)), (40, (.iushr, 41, 0, 0)), (41, (.iconst 3, 42, 0, 3)), (42, (.irem, 43, 0, 0)), (43, (.ifCond .ne 7, 46, 50, 0)), (46, (.iconst 1, 47, 0, 1)), (47, (.goto 4, 50, 51, 0)), (50, (.iconst 0, 51, 0, 0)), (51, (.iload 4, 53, 0, 0)), (53, (.ishl, 54, 0, 0)), (54, (.ior, 55, 0, 0)), (55, (.putfield 133, 58, 0, 0)), (58, (.iinc 4 1, 61, 0, 1)), (61, (.goto (-46), 64, 15, 0)), (64, (.aload_n 0, 65, 0, 0)), (65, (.invokevirtual 393, 68, 0, 0)), (68, (.istore 4, 70, 0, 0)), (70, (.aload_n 0, 71, 0, 0)), (71, (.iload_n 2, 72, 0, 0)), (72, (.putfield 133, 75, 0, 0)), (75, (.iload 4, 77, 0, 0)), (77, (.ireturn, 78, 0, 0))]
def vtb193 : List (Nat × vI) := [(0, (.aload_n 0, 1, 0, 0)), (1, (.iload_n 1, 2, 0, 0)), (2, (.invokevirtual 431, 5, 0, 0)), (5, (.ireturn, 6, 0, 0))]
def vtb194 : List (Nat × vI) := [(0, (.iload_n 2, 1, 0, 0)), (1, (.i2l, 2, 0, 0)), (2, (.lconst 1, 3, 0, 0)), (3, (.ldc2_w 434, 6, 0, 0)), (6, (.invokestatic 100, 9, 0, 0)), (9, (.ifCond .eq 26, 12, 35, 0)), (12, (.iload_n 3, 13, 0, 0)), (13, (.i2l, 14, 0, 0)), (14, (.lconst 0, 15, 0, 0)), (15, (.ldc2_w 409, 18, 0, 0)), (18, (.invokestatic 100, 21, 0, 0)), (21, (.ifCond .eq 14, 24, 35, 0)), (24, (.iload 4, 26, 0, 0)), (26, (.i2l, 27, 0, 0)), (27, (.lconst 0, 28, 0, 0)), (28, (.lconst 1, 29, 0, 0)), (29, (.invokestatic 100, 32, 0, 0)), (32, (.ifCond .ne 7, 35, 39, 0)), (35, (.ldc2_w 436, 38, 0, 0)), (38, (.lreturn, 39, 0, 0)), (39, (.lconst 0, 40, 0, 0)), (40, (.lstore 5, 42, 0, 0)), (42, (.iconst 0, 43, 0, 0)), (43, (.istore 7, 45, 0, 0)), (45, (.iload 7, 47, 0, 0)), (47, (.iload_n 2, 48, 0, 0)), (48, (.if_icmp .ge 31, 51, 79, 0)), (51, (.lload 5, 53, 0, 0)), (53, (.aload_n 0, 54, 0, 0)), (54, (.iload_n 1, 55, 0, 0)), (55, (.iload 7, 57, 0, 0)), (57, (.iadd, 58, 0, 0)), (58, (.invokevirtual 431, 61, 0, 0)), (61, (.iload_n 3, 62, 0, 0)), (62, (.if_icmp .lt 7, 65, 69, 0)), (65, (.lconst 1, 66, 0, 0)), (66, (.goto 4, 69, 70, 0)), (69, (.lconst 0, 70, 0, 0)), (70, (.ladd, 71, 0, 0)), (71, (.lstore 5, 73, 0, 0)), (73, (.iinc 7 1, 76, 0, 1)), (76, (.goto (-31), 79, 45, 0)), (79, (.lload 5, 81, 0, 0)), (81, (.lstore 7, 83, 0, 0)), (83, (.iload_n 2, 84, 0, 0)), (84, (.i2l, 85, 0, 0)), (85, (.lstore 9, 87, 0, 0)), (87, (.lload 9, 89, 0, 0)), (89, (.lconst 0, 90, 0, 0)), (90, (.lcmp, 91, 0, 0)), (91, (.ifCond .eq 21, 94, 112, 0)), (94, (.lload 7, 96, 0, 0)), (96, (.lload 9, 98, 0, 0)), (98, (.lrem, 99, 0, 0)), (99, (.lstore 11, 101, 0, 0)), (101, (.lload 9, 103, 0, 0)), (103, (.lstore 7, 105, 0, 0)), (105, (.lload 11, 107, 0, 0)), (107, (.lstore 9, 109, 0, 0)), (109, (.goto (-22), 112, 87, 0)), (112, (.iload 4, 114, 0, 0)), (114, (.ifCond .ne 11, 117, 125, 0)), (117, (.lload 5, 119, 0, 0)), (119, (.lload 7, 121, 0, 0)), (121, (.ldiv, 122, 0, 0)), (122, (.goto 8, 125, 130, 0)), (125, (.iload_n 2, 126, 0, 0)), (126, (.i2l, 127, 0, 0)), (127, (.lload 7, 129, 0, 0)), (129, (.ldiv, 130, 0, 0)), (130, (.lreturn, 131, 0, 0))]
def vtb195 : List (Nat × vI) := [(0, (.iconst 0, 1, 0, 0)), (1, (.istore_n 1, 2, 0, 0)), (2, (.iload_n 1, 3, 0, 0)), (3, (.bipush 6, 5, 0, 6)), (5, (.if_icmp .ge 33, 8, 38, 0)), (8, (.aload_n 0, 9, 0, 0)), (9, (.getfield 53, 12, 0, 0)), (12, (.iload_n 1, 13, 0, 0)), (13, (.aload_n 0, 14, 0, 0)), (14, (.getfield 26, 17, 0, 0)), (17, (.iload_n 1, 18, 0, 0)), (18, (.iaload, 19, 0, 0)), (19, (.iastore, 20, 0, 0)), (20, (.aload_n 0, 21, 0, 0)), (21, (.getfield 56, 24, 0, 0)), (24, (.iload_n 1, 25, 0, 0)), (25, (.aload_n 0, 26, 0, 0)), (26, (.getfield 29, 29, 0, 0)), (29, (.iload_n 1, 30, 0, 0)), (30, (.iaload, 31, 0, 0)), (31, (.iastore, 32, 0, 0)), (32, (.iinc 1 1, 35, 0, 1)), (35, (.goto (-33), 38, 2, 0)), (38, (.iconst 0, 39, 0, 0)), (39, (.istore_n 1, 40, 0, 0)), (40, (.iload_n 1, 41, 0, 0)), (41, (.bipush 30, 43, 0, 30)), (43, (.if_icmp .ge 21, 46, 64, 0)), (46, (.aload_n 0, 47, 0, 0)), (47, (.getfield 59, 50, 0, 0)), (50, (.iload_n 1, 51, 0, 0)), (51, (.aload_n 0, 52, 0, 0)), (52, (.getfield 32, 55, 0, 0)), (55, (.iload_n 1, 56, 0, 0)), (56, (.iaload, 57, 0, 0)), (57, (.iastore, 58, 0, 0)), (58, (.iinc 1 1, 61, 0, 1)), (61, (.goto (-21), 64, 40, 0)), (64, (.iconst 0, 65, 0, 0)), (65, (.istore_n 1, 66, 0, 0)), (66, (.iload_n 1, 67, 0, 0)), (67, (.iconst 5, 68, 0, 5)), (68, (.if_icmp .ge 33, 71, 101, 0)), (71, (.aload_n 0, 72, 0, 0)), (72, (.getfield 62, 75, 0, 0)), (75, (.iload_n 1, 76, 0, 0)), (76, (.aload_n 0, 77, 0, 0)), (77, (.getfield 35, 80, 0, 0)), (80, (.iload_n 1, 81, 0, 0)), (81, (.iaload, 82, 0, 0)), (82, (.iastore, 83, 0, 0)), (83, (.aload_n 0, 84, 0, 0)), (84, (.getfield 65, 87, 0, 0)), (87, (.iload_n 1, 88, 0, 0)), (88, (.aload_n 0, 89, 0, 0)), (89, (.getfield 38, 92, 0, 0)), (92, (.iload_n 1, 93, 0, 0)), (93, (.iaload, 94, 0, 0)), (94, (.iastore, 95, 0, 0)), (95, (.iinc 1 1, 98, 0, 1)), (98, (.goto (-32), 101, 66, 0)), (101, (.iconst 0, 102, 0, 0)), (102, (.istore_n 1, 103, 0, 0)), (103, (.iload_n 1, 104, 0, 0)), (104, (.iconst 4, 105, 0, 4)), (105, (.if_icmp .ge 33, 108, 138, 0)), (108, (.aload_n 0, 109, 0, 0)), (109, (.getfield 68, 112, 0, 0)), (112, (.iload_n 1, 113, 0, 0)), (113, (.aload_n 0, 114, 0, 0)), (114, (.getfield 41, 117, 0, 0)), (117, (.iload_n 1, 118, 0, 0)), (118, (.iaload, 119, 0, 0)), (119, (.iastore, 120, 0, 0)), (120, (.aload_n 0, 121, 0, 0)), (121, (.getfield 71, 124, 0, 0)), (124, (.iload_n 1, 125, 0, 0)), (125, (.aload_n 0, 126, 0, 0)), (126, (.getfield 44, 129, 0, 0)), (129, (.iload_n 1, 130, 0, 0)), (130, (.iaload, 131, 0, 0)), (131, (.iastore, 132, 0, 0)), (132, (.iinc 1 1, 135, 0, 1)), (135, (.goto (-32), 138, 103, 0)), (138, (.aload_n 0, 139, 0, 0)), (139, (.aload_n 0, 140, 0, 0)), (140, (.getfield 97, 143, 0, 0)), (143, (.putfield 74, 146, 0, 0)), (146, (.aload_n 0, 147, 0, 0)), (147, (.aload_n 0, 148, 0, 0)), (148, (.getfield 133, 151, 0, 0)), (151, (.putfield 438, 154, 0, 0)), (154, (.aload_n 0, 155, 0, 0)), (155, (.aload_n 0, 156, 0, 0)), (156, (.getfield 136, 159, 0, 0)), (159, (.putfield 441, 162, 0, 0)), (162, (.aload_n 0, 163, 0, 0)), (163, (.getfield 97, 166, 0, 0)), (166, (.ireturn, 167, 0, 0))]
def vtb196 : List (Nat × vI) := [(0, (.aload_n 0, 1, 0, 0)), (1, (.getfield 74, 4, 0, 0)), (4, (.iconst (-1), 5, 0, (-1))), (5, (.if_icmp .ne 6, 8, 11, 0)), (8, (.bipush (-3), 10, 0, (-3))), (10, (.ireturn, 11, 0, 0)), (11, (.iconst 0, 12, 0, 0)), (12, (.istore_n 1, 13, 0, 0)), (13, (.iload_n 1, 14, 0, 0)), (14, (.bipush 6, 16, 0, 6)), (16, (.if_icmp .ge 33, 19, 49, 0)), (19, (.aload_n 0, 20, 0, 0)), (20, (.getfield 26, 23, 0, 0)), (23, (.iload_n 1, 24, 0, 0)), (24, (.aload_n 0, 25, 0, 0)), (25, (.getfield 53, 28, 0, 0)), (28, (.iload_n 1, 29, 0, 0)), (29, (.iaload, 30, 0, 0)), (30, (.iastore, 31, 0, 0)), (31, (.aload_n 0, 32, 0, 0)), (32, (.getfield 29, 35, 0, 0)), (35, (.iload_n 1, 36, 0, 0)), (36, (.aload_n 0, 37, 0, 0)), (37, (.getfield 56, 40, 0, 0)), (40, (.iload_n 1, 41, 0, 0)), (41, (.iaload, 42, 0, 0)), (42, (.iastore, 43, 0, 0)), (43, (.iinc 1 1, 46, 0, 1)), (46, (.goto (-33), 49, 13, 0)), (49, (.iconst 0, 50, 0, 0)), (50, (.istore_n 1, 51, 0, 0)), (51, (.iload_n 1, 52, 0, 0)), (52, (.bipush 30, 54, 0, 30)), (54, (.if_icmp .ge 21, 57, 75, 0)), (57, (.aload_n 0, 58, 0, 0)), (58, (.getfield 32, 61, 0, 0)), (61, (.iload_n 1, 62, 0, 0)), (62, (.aload_n 0, 63, 0, 0)), (63, (.getfield 59, 66, 0, 0)), (66, (.iload_n 1, 67, 0, 0)), (67, (.iaload, 68, 0, 0)), (68, (.iastore, 69, 0, 0)), (69, (.iinc 1 1, 72, 0, 1)), (72, (.goto (-21), 75, 51, 0)), (75, (.iconst 0, 76, 0, 0)), (76, (.istore_n 1, 77, 0, 0)), (77, (.iload_n 1, 78, 0, 0)), (78, (.iconst 5, 79, 0, 5)), (79, (.if_icmp .ge 33, 82, 112, 0)), (82, (.aload_n 0, 83, 0, 0)), (83, (.getfield 35, 86, 0, 0)), (86, (.iload_n 1, 87, 0, 0)), (87, (.aload_n 0, 88, 0, 0)), (88, (.getfield 62, 91, 0, 0)), (91, (.iload_n 1, 92, 0, 0)), (92, (.iaload, 93, 0, 0)), (93, (.iastore, 94, 0, 0)), (94, (.aload_n 0, 95, 0, 0)), (95, (.getfield 38, 98, 0, 0)), (98, (.iload_n 1, 99, 0, 0)), (99, (.aload_n 0, 100, 0, 0)), (100, (.getfield 65, 103, 0, 0)), (103, (.iload_n 1, 104, 0, 0)), (104, (.iaload, 105, 0, 0)), (105, (.iastore, 106, 0, 0)), (106, (.iinc 1 1, 109, 0, 1)), (109, (.goto (-32), 112, 77, 0)), (112, (.iconst 0, 113, 0, 0)), (113, (.istore_n 1, 114, 0, 0)), (114, (.iload_n 1, 115, 0, 0)), (115, (.iconst 4, 116, 0, 4)), (116, (.if_icmp .ge 33, 119, 149, 0)), (119, (.aload_n 0, 120, 0, 0)), (120, (.getfield 41, 123, 0, 0)), (123, (.iload_n 1, 124, 0, 0)), (124, (.aload_n 0, 125, 0, 0)), (125, (.getfield 68, 128, 0, 0)), (128, (.iload_n 1, 129, 0, 0)), (129, (.iaload, 130, 0, 0)), (130, (.iastore, 131, 0, 0)), (131, (.aload_n 0, 132, 0, 0)), (132, (.getfield 44, 135, 0, 0)), (135, (.iload_n 1, 136, 0, 0)), (136, (.aload_n 0, 137, 0, 0)), (137, (.getfield 71, 140, 0, 0)), (140, (.iload_n 1, 141, 0, 0)), (141, (.iaload, 142, 0, 0)), (142, (.iastore, 143, 0, 0)), (143, (.iinc 1 1, 146, 0, 1)), (146, (.goto (-32), 149, 114, 0)), (149, (.aload_n 0, 150, 0, 0)), (150, (.aload_n 0, 151, 0, 0)), (151, (.getfield 74, 154, 0, 0)), (154, (.putfield 97, 157, 0, 0)), (157, (.aload_n 0, 158, 0, 0)), (158, (.aload_n 0, 159, 0, 0)), (159, (.getfield 438, 162, 0, 0)), (162, (.putfield 133, 165, 0, 0)), (165, (.aload_n 0, 166, 0, 0)), (166, (.aload_n 0, 167, 0, 0)), (167, (.getfield 441, 170, 0, 0)), (170, (.putfield 136, 173, 0, 0)), (173, (.aload_n 0, 174, 0, 0)), (174, (.getfield 97, 177, 0, 0)), (177, (.ireturn, 178, 0, 0))]
def vtb197 : List (Nat × vI) := [(0, (.iload_n 1, 1, 0, 0)), (1, (.i2l, 2, 0, 0)), (2, (.lconst 0, 3, 0, 0)), (3, (.ldc2_w 115, 6, 0, 0)), (6, (.invokestatic 100, 9, 0, 0)), (9, (.ifCond .ne 6, 12, 15, 0)), (12, (.bipush (-2), 14, 0, (-2))), (14, (.ireturn, 15, 0, 0)), (15, (.iload_n 1, 16, 0, 0)), (16, (.ifCond .ne 10, 19, 26, 0)), (19, (.aload_n 0, 20, 0, 0)), (20, (.getfield 97, 23, 0, 0)), (23, (.goto 81, 26, 104, 0)), (26, (.iload_n 1, 27, 0, 0)), (27, (.iconst 1, 28, 0, 1)), (28, (.if_icmp .ne 13, 31, 41, 0)), (31, (.aload_n 0, 32, 0, 0)), (32, (.getfield 133, 35, 0, 0)), (35, (.invokestatic 359, 38, 0, 0)), (38, (.goto 66, 41, 104, 0)), (41, (.iload_n 1, 42, 0, 0)), (42, (.iconst 2, 43, 0, 2)), (43, (.if_icmp .ne 33, 46, 76, 0)), (46, (.aload_n 0, 47, 0, 0)), (47, (.getfield 44, 50, 0, 0)), (50, (.iconst 0, 51, 0, 0)), (51, (.iaload, 52, 0, 0)), (52, (.aload_n 0, 53, 0, 0)), (53, (.getfield 44, 56, 0, 0)), (56, (.iconst 1, 57, 0, 1)), (57, (.iaload, 58, 0, 0)), (58, (.iadd, 59, 0, 0)), (59, (.aload_n 0, 60, 0, 0)), (60, (.getfield 44, 63, 0, 0)), (63, (.iconst 2, 64, 0, 2)), (64, (.iaload, 65, 0, 0)), (65, (.iadd, 66, 0, 0)), (66, (.aload_n 0, 67, 0, 0)), (67, (.getfield 44, 70, 0, 0)), (70, (.iconst 3, 71, 0, 3)), (71, (.iaload, 72, 0, 0)), (72, (.iadd, 73, 0, 0)), (73, (.goto 31, 76, 104, 0)), (76, (.iload_n 1, 77, 0, 0)), (77, (.iconst 3, 78, 0, 3)), (78, (.if_icmp .ne 10, 81, 88, 0)), (81, (.aload_n 0, 82, 0, 0)), (82, (.getfield 94, 85, 0, 0)), (85, (.goto 19, 88, 104, 0)), (88, (.iload_n 1, 89, 0, 0)), (89, (.iconst 4, 90, 0, 4)), (90, (.if_icmp .ne 10, 93, 100, 0)), (93, (.aload_n 0, 94, 0, 0)), (94, (.getfield 153, 97, 0, 0)), (97, (.goto 7, 100, 104, 0)), (100, (.aload_n 0, 101, 0, 0)), (101, (.getfield 136, 104, 0, 0)), (104, (.ireturn, 105, 0, 0))]
def vtb198 : List (Nat × vI) := [(0, (.iload_n 0, 1, 0, 0)), (1, (.i2l, 2, 0, 0)), (2, (.lconst 0, 3, 0, 0)), (3, (.ldc2_w 110, 6, 0, 0)), (6, (.invokestatic 100, 9, 0, 0)), (9, (.ireturn, 10, 0, 0))]
def vtb199 : List (Nat × vI) := [(0, (.iload_n 1, 1, 0, 0)), (1, (.invokestatic 421, 4, 0, 0)), (4, (.ifCond .eq 27, 7, 31, 0)), (7, (.iload_n 2, 8, 0, 0)), (8, (.i2l, 9, 0, 0)), (9, (.ldc2_w 444, 12, 0, 0)), (12, (.ldc2_w 391, 15, 0, 0)), (15, (.invokestatic 100, 18, 0, 0)), (18, (.ifCond .eq 13, 21, 31, 0)), (21, (.iload_n 2, 22, 0, 0)), (22, (.ifCond .lt 12, 25, 34, 0)), (25, (.iload_n 3, 26, 0, 0)), (26, (.bipush 40, 28, 0, 40)), (28, (.if_icmp .le 6, 31, 34, 0)), (31, (.bipush (-2), 33, 0, (-2))), (33, (.ireturn, 34, 0, 0)), (34, (.iload_n 2, 35, 0, 0)), (35, (.ifCond .lt 10, 38, 45, 0)), (38, (.iload_n 3, 39, 0, 0)), (39, (.ifCond .ge 6, 42, 45, 0)), (42, (.bipush (-14), 44, 0, (-14))), (44, (.ireturn, 45, 0, 0)), (45, (.aload_n 0, 46, 0, 0)), (46, (.getfield 77, 49, 0, 0)), (49, (.iload_n 1, 50, 0, 0)), (50, (.iload_n 2, 51, 0, 0)), (51, (.ifCond .lt 7, 54, 58, 0)), (54, (.iconst 1, 55, 0, 1)), (55, (.goto 4, 58, 59, 0)), (58, (.iconst 0, 59, 0, 0)), (59, (.bastore, 60, 0, 0)), (60, (.aload_n 0, 61, 0, 0)), (61, (.getfield 81, 64, 0, 0)), (64, (.iload_n 1, 65, 0, 0)), (65, (.iload_n 2, 66, 0, 0)), (66, (.iastore, 67, 0, 0)), (67, (.aload_n 0, 68, 0, 0)), (68, (.getfield 84, 71, 0, 0)), (71, (.iload_n 1, 72, 0, 0)), (72, (.iload_n 3, 73, 0, 0)), (73, (.iastore, 74, 0, 0)), (74, (.iconst 0, 75, 0, 0)), (75, (.istore 4, 77, 0, 0)), (77, (.iload 4, 79, 0, 0)), (79, (.iload_n 3, 80, 0, 0)), (80, (.if_icmp .ge 26, 83, 106, 0)), (83, (.iload_n 2, 84, 0, 0)), (84, (.ifCond .lt 22, 87, 106, 0)), (87, (.aload_n 0, 88, 0, 0)), (88, (.getfield 87, 91, 0, 0)), (91, (.bipush 40, 93, 0, 40)), (93, (.iload_n 1, 94, 0, 0)), (94, (.imul, 95, 0, 0)), (95, (.iload 4, 97, 0, 0)), (97, (.iadd, 98, 0, 0)), (98, (.iconst 0, 99, 0, 0)), (99, (.iastore, 100, 0, 0)), (100, (.iinc 4 1, 103, 0, 1)), (103, (.goto (-26), 106, 77, 0)), (106, (.iconst 1, 107, 0, 1)), (107, (.ireturn, 108, 0, 0))]
def vtb200 : List (Nat × vI) := [(0, (.iload_n 1, 1, 0, 0)), (1, (.invokestatic 421, 4, 0, 0)), (4, (.ifCond .ne 6, 7, 10, 0)), (7, (.bipush (-2), 9, 0, (-2))), (9, (.ireturn, 10, 0, 0)), (10, (.aload_n 0, 11, 0, 0)), (11, (.getfield 77, 14, 0, 0)), (14, (.iload_n 1, 15, 0, 0)), (15, (.baload, 16, 0, 0)), (16, (.ifCond .ne 6, 19, 22, 0)), (19, (.bipush (-11), 21, 0, (-11))), (21, (.ireturn, 22, 0, 0)), (22, (.iload_n 2, 23, 0, 0)), (23, (.i2l, 24, 0, 0)), (24, (.lconst 0, 25, 0, 0)), (25, (.aload_n 0, 26, 0, 0)), (26, (.getfield 84, 29, 0, 0)), (29, (.iload_n 1, 30, 0, 0)), (30, (.iaload, 31, 0, 0)), (31, (.iconst 1, 32, 0, 1)), (32, (.isub, 33, 0, 0)), (33, (.i2l, 34, 0, 0)), (34, (.invokestatic 100, 37, 0, 0)), (37, (.ifCond .ne 6, 40, 43, 0)), (40, (.bipush (-12), 42, 0, (-12))), (42, (.ireturn, 43, 0, 0)), (43, (.aload_n 0, 44, 0, 0)), (44, (.getfield 87, 47, 0, 0)), (47, (.bipush 40, 49, 0, 40)), (49, (.iload_n 1, 50, 0, 0)), (50, (.imul, 51, 0, 0)), (51, (.iload_n 2, 52, 0, 0)), (52, (.iadd, 53, 0, 0)), (53, (.aload_n 0, 54, 0, 0)), (54, (.getfield 81, 57, 0, 0)), (57, (.iload_n 1, 58, 0, 0)), (58, (.iaload, 59, 0, 0)), (59, (.ifCond .ne 8, 62, 67, 0)), (62, (.iload_n 3, 63, 0, 0)), (63, (.i2b, 64, 0, 0)), (64, (.goto 19, 67, 83, 0)), (67, (.aload_n 0, 68, 0, 0)), (68, (.getfield 81, 71, 0, 0)), (71, (.iload_n 1, 72, 0, 0)), (72, (.iaload, 73, 0, 0)), (73, (.iconst 1, 74, 0, 1)), (74, (.if_icmp .ne 8, 77, 82, 0)), (77, (.iload_n 3, 78, 0, 0)), (78, (.i2s, 79, 0, 0)), (79, (.goto 4, 82, 83, 0)), (82, (.iload_n 3, 83, 0, 0)), (83, (.iastore, 84, 0, 0)), (84, (.iconst 1, 85, 0, 1)), (85, (.ireturn, 86, 0, 0))]
def vtb201 : List (Nat × vI) := [(0, (.iload_n 1, 1, 0, 0)), (1, (.invokestatic 421, 4, 0, 0)), (4, (.ifCond .eq 10, 7, 14, 0)), (7, (.iload_n 3, 8, 0, 0)), (8, (.invokestatic 421, 11, 0, 0)), (11, (.ifCond .ne 6, 14, 17, 0)), (14, (.bipush (-2), 16, 0, (-2))), (16, (.ireturn, 17, 0, 0)), (17, (.aload_n 0, 18, 0, 0)), (18, (.getfield 77, 21, 0, 0)), (21, (.iload_n 1, 22, 0, 0)), (22, (.baload, 23, 0, 0)), (23, (.ifCond .eq 12, 26, 35, 0)), (26, (.aload_n 0, 27, 0, 0)), (27, (.getfield 77, 30, 0, 0)), (30, (.iload_n 3, 31, 0, 0)), (31, (.baload, 32, 0, 0)), (32, (.ifCond .ne 6, 35, 38, 0)), (35, (.bipush (-11), 37, 0, (-11))), (37, (.ireturn, 38, 0, 0)), (38, (.aload_n 0, 39, 0, 0)), (39, (.getfield 81, 42, 0, 0)), (42, (.iload_n 1, 43, 0, 0)), (43, (.iaload, 44, 0, 0)), (44, (.aload_n 0, 45, 0, 0)), (45, (.getfield 81, 48, 0, 0)), (48, (.iload_n 3, 49, 0, 0)), (49, (.iaload, 50, 0, 0)), (50, (.if_icmp .eq 6, 53, 56, 0)), (53, (.bipush (-13), 55, 0, (-13))), (55, (.ireturn, 56, 0, 0)), (56, (.iload 5, 58, 0, 0)), (58, (.ifCond .lt 39, 61, 97, 0)), (61, (.iload_n 2, 62, 0, 0)), (62, (.ifCond .lt 35, 65, 97, 0)), (65, (.iload 4, 67, 0, 0)), (67, (.ifCond .lt 30, 70, 97, 0)), (70, (.iload_n 2, 71, 0, 0)), (71, (.aload_n 0, 72, 0, 0)), (72, (.getfield 84, 75, 0, 0)), (75, (.iload_n 1, 76, 0, 0)), (76, (.iaload, 77, 0, 0)), (77, (.iload 5, 79, 0, 0)), (79, (.isub, 80, 0, 0)), (80, (.if_icmp .gt 17, 83, 97, 0)), (83, (.iload 4, 85, 0, 0)), (85, (.aload_n 0, 86, 0, 0)), (86, (.getfield 84, 89, 0, 0)), (89, (.iload_n 3, 90, 0, 0)), (90, (.iaload, 91, 0, 0)), (91, (.iload 5, 93, 0, 0)), (93, (.isub, 94, 0, 0)), (94, (.if_icmp .le 6, 97, 100, 0)), (97, (.bipush (-12), 99, 0, (-12))), (99, (.ireturn, 100, 0, 0)), (100, (.iload_n 1, 101, 0, 0)), (101, (.iload_n 3, 102, 0, 0)), (102, (.if_icmp .ne 13, 105, 115, 0)), (105, (.iload_n 2, 106, 0, 0)), (106, (.iload 4, 108, 0, 0)), (108, (.if_icmp .ge 7, 111, 115, 0)), (111, (.iconst 1, 112, 0, 1)), (112, (.goto 4, 115, 116, 0)), (115, (.iconst 0, 116, 0, 0)), (116, (.istore 6, 118, 0, 0)), (118, (.iconst 0, 119, 0, 0)), (119, (.istore 7, 121, 0, 0)), (121, (.iload 7, 123, 0, 0)), (123, (.iload 5, 125, 0, 0)), (125, (.if_icmp .ge 57, 128, 182, 0)), (128, (.iload 6, 130, 0, 0)), (130, (.ifCond .eq 13, 133, 143, 0)), (133, (.iload 5, 135, 0, 0)), (135, (.iconst 1, 136, 0, 1)), (136, (.isub, 137, 0, 0)), (137, (.iload 7, 139, 0, 0)), (139, (.isub, 140, 0, 0)), (140, (.goto 5, 143, 145, 0)), (143, (.iload 7, 145, 0, 0)), (145, (.istore 8, 147, 0, 0)), (147, (.aload_n 0, 148, 0, 0)), (148, (.getfield 87, 151, 0, 0)), (151, (.bipush 40, 153, 0, 40)), (153, (.iload_n 3, 154, 0, 0)), (154, (.imul, 155, 0, 0)), (155, (.iload 4, 157, 0, 0)), (157, (.iadd, 158, 0, 0)), (158, (.iload 8, 160, 0, 0)), (160, (.iadd, 161, 0, 0)), (161, (.aload_n 0, 162, 0, 0)), (162, (.getfield 87, 165, 0, 0)), (165, (.bipush 40, 167, 0, 40)), (167, (.iload_n 1, 168, 0, 0)), (168, (.imul, 169, 0, 0)), (169, (.iload_n 2, 170, 0, 0)), (170, (.iadd, 171, 0, 0)), (171, (.iload 8, 173, 0, 0)), (173, (.iadd, 174, 0, 0)), (174, (.iaload, 175, 0, 0)), (175, (.iastore, 176, 0, 0)), (176, (.iinc 7 1, 179, 0, 1)), (179, (.goto (-58), 182, 121, 0)), (182, (.iload 5, 184, 0, 0)), (184, (.ireturn, 185, 0, 0))]
def vtb202 : List (Nat × vI) := [(0, (.iload_n 1, 1, 0, 0)), (1, (.invokestatic 421, 4, 0, 0)), (4, (.ifCond .eq 28, 7, 32, 0)), (7, (.iload_n 2, 8, 0, 0)), (8, (.i2l, 9, 0, 0)), (9, (.lconst 0, 10, 0, 0)), (10, (.ldc2_w 391, 13, 0, 0)), (13, (.invokestatic 100, 16, 0, 0)), (16, (.ifCond .eq 16, 19, 32, 0)), (19, (.iload 4, 21, 0, 0)), (21, (.i2l, 22, 0, 0)), (22, (.lconst 0, 23, 0, 0)), (23, (.ldc2_w 446, 26, 0, 0)), (26, (.invokestatic 100, 29, 0, 0)), (29, (.ifCond .ne 6, 32, 35, 0)), (32, (.bipush (-2), 34, 0, (-2))), (34, (.ireturn, 35, 0, 0)), (35, (.aload_n 0, 36, 0, 0)), (36, (.getfield 77, 39, 0, 0)), (39, (.iload_n 1, 40, 0, 0)), (40, (.baload, 41, 0, 0)), (41, (.ifCond .eq 16, 44, 57, 0)), (44, (.aload_n 0, 45, 0, 0)), (45, (.getfield 81, 48, 0, 0)), (48, (.iload_n 1, 49, 0, 0)), (49, (.iaload, 50, 0, 0)), (50, (.iload_n 2, 51, 0, 0)), (51, (.if_icmp .eq 6, 54, 57, 0)), (54, (.bipush (-13), 56, 0, (-13))), (56, (.ireturn, 57, 0, 0)), (57, (.aload_n 0, 58, 0, 0)), (58, (.getfield 77, 61, 0, 0)), (61, (.iload_n 1, 62, 0, 0)), (62, (.baload, 63, 0, 0)), (63, (.ifCond .ne 6, 66, 69, 0)), (66, (.bipush (-11), 68, 0, (-11))), (68, (.ireturn, 69, 0, 0)), (69, (.iconst 0, 70, 0, 0)), (70, (.istore 5, 72, 0, 0)), (72, (.iconst 0, 73, 0, 0)), (73, (.istore 6, 75, 0, 0)), (75, (.iload 6, 77, 0, 0)), (77, (.iload 4, 79, 0, 0)), (79, (.if_icmp .ge 88, 82, 167, 0)), (82, (.iload_n 3, 83, 0, 0)), (83, (.ifCond .lt 20, 86, 103, 0)), (86, (.iload_n 3, 87, 0, 0)), (87, (.aload_n 0, 88, 0, 0)), (88, (.getfield 84, 91, 0, 0)), (91, (.iload_n 1, 92, 0, 0)), (92, (.iaload, 93, 0, 0)), (93, (.iconst 3, 94, 0, 3)), (94, (.iload 6, 96, 0, 0)), (96, (.imul, 97, 0, 0)), (97, (.isub, 98, 0, 0)), (98, (.iconst 3, 99, 0, 3)), (99, (.isub, 100, 0, 0)), (100, (.if_icmp .le 6, 103, 106, 0)), (103, (.bipush (-12), 105, 0, (-12))), (105, (.ireturn, 106, 0, 0)), (106, (.bipush 40, 108, 0, 40)), (108, (.iload_n 1, 109, 0, 0)), (109, (.imul, 110, 0, 0)), (110, (.iload_n 3, 111, 0, 0)), (111, (.iadd, 112, 0, 0)), (112, (.iconst 3, 113, 0, 3)), (113, (.iload 6, 115, 0, 0)), (115, (.imul, 116, 0, 0)), (116, (.iadd, 117, 0, 0)), (117, (.istore 7, 119, 0, 0)), (119, (.iload 5, 121, 0, 0)), (121, (.aload_n 0, 122, 0, 0)), (122, (.aload_n 0, 123, 0, 0)), (123, (.getfield 87, 126, 0, 0)), (126, (.iload 7, 128, 0, 0)), (128, (.iaload, 129, 0, 0)), (129, (.aload_n 0, 130, 0, 0)), (130, (.getfield 87, 133, 0, 0)), (133, (.iload 7, 135, 0, 0)), (135, (.iconst 1, 136, 0, 1)), (136, (.iadd, 137, 0, 0)), (137, (.iaload, 138, 0, 0)), (138, (.aload_n 0, 139, 0, 0)), (139, (.getfield 87, 142, 0, 0)), (142, (.iload 7, 144, 0, 0)), (144, (.iconst 2, 145, 0, 2)), (145, (.iadd, 146, 0, 0)), (146, (.iaload, 147, 0, 0)), (147, (.invokevirtual 448, 150, 0, 0)), (150, (.ifCond .lt 7, 153, 157, 0)), (153, (.iconst 1, 154, 0, 1)), (154, (.goto 4, 157, 158, 0)), (157, (.iconst 0, 158, 0, 0)), (158, (.iadd, 159, 0, 0)), (159, (.istore 5, 161, 0, 0)), (161, (.iinc 6 1, 164, 0, 1)), (164, (.goto (-89), 167, 75, 0)), (167, (.iload 5, 169, 0, 0)), (169, (.ireturn, 170, 0, 0))]
def vtb203 : List (Nat × vI) := [(0, (.iload_n 0, 1, 0, 0)), (1, (.ifCond .ne 7, 4, 8, 0)), (4, (.iconst (-1), 5, 0, (-1))), (5, (.goto 22, 8, 27, 0)), (8, (.iload_n 0, 9, 0, 0)), (9, (.iconst 3, 10, 0, 3)), (10, (.if_icmp .ne 7, 13, 17, 0)), (13, (.iconst 1, 14, 0, 1)), (14, (.goto 13, 17, 27, 0)), (17, (.iload_n 0, 18, 0, 0)), (18, (.iconst 4, 19, 0, 4)), (19, (.if_icmp .ne 7, 22, 26, 0)), (22, (.iconst 2, 23, 0, 2)), (23, (.goto 4, 26, 27, 0)), (26, (.iconst 0, 27, 0, 0)), (27, (.ireturn, 28, 0, 0))]
def vtb204 : List (Nat × vI) := [(0, (.iload_n 2, 1, 0, 0)), (1, (.i2l, 2, 0, 0)), (2, (.lconst 0, 3, 0, 0)), (3, (.ldc2_w 115, 6, 0, 0)), (6, (.invokestatic 100, 9, 0, 0)), (9, (.ifCond .ne 6, 12, 15, 0)), (12, (.bipush (-2), 14, 0, (-2))), (14, (.ireturn, 15, 0, 0)), (15, (.aload_n 0, 16, 0, 0)), (16, (.iload_n 1, 17, 0, 0)), (17, (.invokevirtual 106, 20, 0, 0)), (20, (.ifCond .ne 6, 23, 26, 0)), (23, (.bipush (-11), 25, 0, (-11))), (25, (.ireturn, 26, 0, 0)), (26, (.aload_n 0, 27, 0, 0)), (27, (.getfield 23, 30, 0, 0)), (30, (.iload_n 1, 31, 0, 0)), (31, (.iaload, 32, 0, 0)), (32, (.istore_n 3, 33, 0, 0)), (33, (.iload_n 3, 34, 0, 0)), (34, (.iconst (-1), 35, 0, (-1))), (35, (.if_icmp .eq 16, 38, 51, 0)), (38, (.iload_n 3, 39, 0, 0)), (39, (.iload_n 2, 40, 0, 0)), (40, (.if_icmp .eq 11, 43, 51, 0)), (43, (.iload_n 3, 44, 0, 0)), (44, (.invokestatic 451, 47, 0, 0)), (47, (.istore_n 3, 48, 0, 0)), (48, (.goto (-15), 51, 33, 0)), (51, (.iload_n 3, 52, 0, 0)), (52, (.iload_n 2, 53, 0, 0)), (53, (.if_icmp .ne 12, 56, 65, 0)), (56, (.aload_n 0, 57, 0, 0)), (57, (.getfield 26, 60, 0, 0)), (60, (.iload_n 1, 61, 0, 0)), (61, (.iaload, 62, 0, 0)), (62, (.goto 5, 65, 67, 0)), (65, (.bipush (-13), 67, 0, (-13))), (67, (.ireturn, 68, 0, 0))]
def vtb205_0 : List (Nat × vI) := [(0, (.new 7, 3, 0, 0)), (3, (.dup, 4, 0, 0)), (4, (.invokespecial 9, 7, 0, 0)), (7, (.astore_n 1, 8, 0, 0)), (8, (.new 10, 11, 0, 0)), (11, (.dup, 12, 0, 0)), (12, (.invokespecial 12, 15, 0, 0)), (15, (.astore_n 2, 16, 0, 0)), (16, (.iconst 0, 17, 0, 0)), (17, (.istore_n 3, 18, 0, 0)), (18, (.iload_n 3, 19, 0, 0)), (19, (.aload_n 0, 20, 0, 0)), (20, (.arraylength, 21, 0, 0)), (21, (.bipush 6, 23, 0, 6)), (23, (.isub, 24, 0, 0)), (24, (.if_icmp .gt 1070, 27, 1094, 0)), (27, (.aload_n 0, 28, 0, 0)), (28, (.iload_n 3, 29, 0, 0)), (29, (.iaload, 30, 0, 0)), (30, (.bipush 31, 32, 0, 31)), (32, (.iand, 33, 0, 0)), (33, (.tableswitch 1055 0 26 #[123, 166, 209, 252, 285, 308, 321, 344, 387, 410, 443, 466, 509, 542, 575, 618, 661, 694, 717, 771, 784, 797, 820, 863, 906, 969, 1022], 156, 0, 0)), (156, (.aload_n 1, 157, 0, 0)), (157, (.aload_n 0, 158, 0, 0)), (158, (.iload_n 3, 159, 0, 0)), (159, (.iconst 1, 160, 0, 1)), (160, (.iadd, 161, 0, 0)), (161, (.iaload, 162, 0, 0)), (162, (.aload_n 0, 163, 0, 0)), (163, (.iload_n 3, 164, 0, 0)), (164, (.iconst 2, 165, 0, 2)), (165, (.iadd, 166, 0, 0)), (166, (.iaload, 167, 0, 0)), (167, (.aload_n 0, 168, 0, 0)), (168, (.iload_n 3, 169, 0, 0)), (169, (.iconst 3, 170, 0, 3)), (170, (.iadd, 171, 0, 0)), (171, (.iaload, 172, 0, 0)), (172, (.invokevirtual 13, 175, 0, 0)), (175, (.aload_n 2, 176, 0, 0)), (176, (.aload_n 0, 177, 0, 0)), (177, (.iload_n 3, 178, 0, 0)), (178, (.iconst 1, 179, 0, 1)), (179, (.iadd, 180, 0, 0)), (180, (.iaload, 181, 0, 0)), (181, (.aload_n 0, 182, 0, 0)), (182, (.iload_n 3, 183, 0, 0)), (183, (.iconst 2, 184, 0, 2)), (184, (.iadd, 185, 0, 0)), (185, (.iaload, 186, 0, 0)), (186, (.aload_n 0, 187, 0, 0)), (187, (.iload_n 3, 188, 0, 0)), (188, (.iconst 3, 189, 0, 3)), (189, (.iadd, 190, 0, 0)), (190, (.iaload, 191, 0, 0)), (191, (.invokevirtual 17, 194, 0, 0)), (194, (.if_icmp .eq 894, 197, 1088, 0)), (197, (.iconst 0, 198, 0, 0)), (198, (.ireturn, 199, 0, 0)), (199, (.aload_n 1, 200, 0, 0)), (200, (.aload_n 0, 201, 0, 0)), (201, (.iload_n 3, 202, 0, 0)), (202, (.iconst 1, 203, 0, 1)), (203, (.iadd, 204, 0, 0)), (204, (.iaload, 205, 0, 0)), (205, (.aload_n 0, 206, 0, 0)), (206, (.iload_n 3, 207, 0, 0)), (207, (.iconst 2, 208, 0, 2)), (208, (.iadd, 209, 0, 0)), (209, (.iaload, 210, 0, 0)), (210, (.aload_n 0, 211, 0, 0)), (211, (.iload_n 3, 212, 0, 0)), (212, (.iconst 3, 213, 0, 3)), (213, (.iadd, 214, 0, 0)), (214, (.iaload, 215, 0, 0)), (215, (.invokevirtual 18, 218, 0, 0)), (218, (.aload_n 2, 219, 0, 0)), (219, (.aload_n 0, 220, 0, 0)), (220, (.iload_n 3, 221, 0, 0)), (221, (.iconst 1, 222, 0, 1))]
def vtb205_1 : List (Nat × vI) := [(222, (.iadd, 223, 0, 0)), (223, (.iaload, 224, 0, 0)), (224, (.aload_n 0, 225, 0, 0)), (225, (.iload_n 3, 226, 0, 0)), (226, (.iconst 2, 227, 0, 2)), (227, (.iadd, 228, 0, 0)), (228, (.iaload, 229, 0, 0)), (229, (.aload_n 0, 230, 0, 0)), (230, (.iload_n 3, 231, 0, 0)), (231, (.iconst 3, 232, 0, 3)), (232, (.iadd, 233, 0, 0)), (233, (.iaload, 234, 0, 0)), (234, (.invokevirtual 21, 237, 0, 0)), (237, (.if_icmp .eq 851, 240, 1088, 0)), (240, (.iconst 0, 241, 0, 0)), (241, (.ireturn, 242, 0, 0)), (242, (.aload_n 1, 243, 0, 0)), (243, (.aload_n 0, 244, 0, 0)), (244, (.iload_n 3, 245, 0, 0)), (245, (.iconst 1, 246, 0, 1)), (246, (.iadd, 247, 0, 0)), (247, (.iaload, 248, 0, 0)), (248, (.aload_n 0, 249, 0, 0)), (249, (.iload_n 3, 250, 0, 0)), (250, (.iconst 2, 251, 0, 2)), (251, (.iadd, 252, 0, 0)), (252, (.iaload, 253, 0, 0)), (253, (.aload_n 0, 254, 0, 0)), (254, (.iload_n 3, 255, 0, 0)), (255, (.iconst 3, 256, 0, 3)), (256, (.iadd, 257, 0, 0)), (257, (.iaload, 258, 0, 0)), (258, (.invokevirtual 22, 261, 0, 0)), (261, (.aload_n 2, 262, 0, 0)), (262, (.aload_n 0, 263, 0, 0)), (263, (.iload_n 3, 264, 0, 0)), (264, (.iconst 1, 265, 0, 1)), (265, (.iadd, 266, 0, 0)), (266, (.iaload, 267, 0, 0)), (267, (.aload_n 0, 268, 0, 0)), (268, (.iload_n 3, 269, 0, 0)), (269, (.iconst 2, 270, 0, 2)), (270, (.iadd, 271, 0, 0)), (271, (.iaload, 272, 0, 0)), (272, (.aload_n 0, 273, 0, 0)), (273, (.iload_n 3, 274, 0, 0)), (274, (.iconst 3, 275, 0, 3)), (275, (.iadd, 276, 0, 0)), (276, (.iaload, 277, 0, 0)), (277, (.invokevirtual 25, 280, 0, 0)), (280, (.if_icmp .eq 808, 283, 1088, 0)), (283, (.iconst 0, 284, 0, 0)), (284, (.ireturn, 285, 0, 0)), (285, (.aload_n 1, 286, 0, 0)), (286, (.aload_n 0, 287, 0, 0)), (287, (.iload_n 3, 288, 0, 0)), (288, (.iconst 1, 289, 0, 1)), (289, (.iadd, 290, 0, 0)), (290, (.iaload, 291, 0, 0)), (291, (.aload_n 0, 292, 0, 0)), (292, (.iload_n 3, 293, 0, 0)), (293, (.iconst 2, 294, 0, 2)), (294, (.iadd, 295, 0, 0)), (295, (.iaload, 296, 0, 0)), (296, (.invokevirtual 26, 299, 0, 0)), (299, (.aload_n 2, 300, 0, 0)), (300, (.aload_n 0, 301, 0, 0)), (301, (.iload_n 3, 302, 0, 0)), (302, (.iconst 1, 303, 0, 1)), (303, (.iadd, 304, 0, 0)), (304, (.iaload, 305, 0, 0)), (305, (.aload_n 0, 306, 0, 0)), (306, (.iload_n 3, 307, 0, 0)), (307, (.iconst 2, 308, 0, 2)), (308, (.iadd, 309, 0, 0)), (309, (.iaload, 310, 0, 0)), (310, (.invokevirtual 30, 313, 0, 0)), (313, (.if_icmp .eq 775, 316, 1088, 0)), (316, (.iconst 0, 317, 0, 0)), (317, (.ireturn, 318, 0, 0))]
def vtb205_2 : List (Nat × vI) := [(318, (.aload_n 1, 319, 0, 0)), (319, (.aload_n 0, 320, 0, 0)), (320, (.iload_n 3, 321, 0, 0)), (321, (.iconst 1, 322, 0, 1)), (322, (.iadd, 323, 0, 0)), (323, (.iaload, 324, 0, 0)), (324, (.invokevirtual 31, 327, 0, 0)), (327, (.aload_n 2, 328, 0, 0)), (328, (.aload_n 0, 329, 0, 0)), (329, (.iload_n 3, 330, 0, 0)), (330, (.iconst 1, 331, 0, 1)), (331, (.iadd, 332, 0, 0)), (332, (.iaload, 333, 0, 0)), (333, (.invokevirtual 35, 336, 0, 0)), (336, (.if_icmp .eq 752, 339, 1088, 0)), (339, (.iconst 0, 340, 0, 0)), (340, (.ireturn, 341, 0, 0)), (341, (.aload_n 1, 342, 0, 0)), (342, (.invokevirtual 36, 345, 0, 0)), (345, (.aload_n 2, 346, 0, 0)), (346, (.invokevirtual 40, 349, 0, 0)), (349, (.if_icmp .eq 739, 352, 1088, 0)), (352, (.iconst 0, 353, 0, 0)), (353, (.ireturn, 354, 0, 0)), (354, (.aload_n 1, 355, 0, 0)), (355, (.aload_n 0, 356, 0, 0)), (356, (.iload_n 3, 357, 0, 0)), (357, (.iconst 1, 358, 0, 1)), (358, (.iadd, 359, 0, 0)), (359, (.iaload, 360, 0, 0)), (360, (.invokevirtual 41, 363, 0, 0)), (363, (.aload_n 2, 364, 0, 0)), (364, (.aload_n 0, 365, 0, 0)), (365, (.iload_n 3, 366, 0, 0)), (366, (.iconst 1, 367, 0, 1)), (367, (.iadd, 368, 0, 0)), (368, (.iaload, 369, 0, 0)), (369, (.invokevirtual 44, 372, 0, 0)), (372, (.if_icmp .eq 716, 375, 1088, 0)), (375, (.iconst 0, 376, 0, 0)), (376, (.ireturn, 377, 0, 0)), (377, (.aload_n 1, 378, 0, 0)), (378, (.aload_n 0, 379, 0, 0)), (379, (.iload_n 3, 380, 0, 0)), (380, (.iconst 1, 381, 0, 1)), (381, (.iadd, 382, 0, 0)), (382, (.iaload, 383, 0, 0)), (383, (.aload_n 0, 384, 0, 0)), (384, (.iload_n 3, 385, 0, 0)), (385, (.iconst 2, 386, 0, 2)), (386, (.iadd, 387, 0, 0)), (387, (.iaload, 388, 0, 0)), (388, (.aload_n 0, 389, 0, 0)), (389, (.iload_n 3, 390, 0, 0)), (390, (.iconst 3, 391, 0, 3)), (391, (.iadd, 392, 0, 0)), (392, (.iaload, 393, 0, 0)), (393, (.invokevirtual 45, 396, 0, 0)), (396, (.aload_n 2, 397, 0, 0)), (397, (.aload_n 0, 398, 0, 0)), (398, (.iload_n 3, 399, 0, 0)), (399, (.iconst 1, 400, 0, 1)), (400, (.iadd, 401, 0, 0)), (401, (.iaload, 402, 0, 0)), (402, (.aload_n 0, 403, 0, 0)), (403, (.iload_n 3, 404, 0, 0)), (404, (.iconst 2, 405, 0, 2)), (405, (.iadd, 406, 0, 0)), (406, (.iaload, 407, 0, 0)), (407, (.aload_n 0, 408, 0, 0)), (408, (.iload_n 3, 409, 0, 0)), (409, (.iconst 3, 410, 0, 3)), (410, (.iadd, 411, 0, 0)), (411, (.iaload, 412, 0, 0)), (412, (.invokevirtual 48, 415, 0, 0)), (415, (.if_icmp .eq 673, 418, 1088, 0)), (418, (.iconst 0, 419, 0, 0)), (419, (.ireturn, 420, 0, 0)), (420, (.aload_n 1, 421, 0, 0)), (421, (.aload_n 0, 422, 0, 0))]
def vtb205_3 : List (Nat × vI) := [(422, (.iload_n 3, 423, 0, 0)), (423, (.iconst 1, 424, 0, 1)), (424, (.iadd, 425, 0, 0)), (425, (.iaload, 426, 0, 0)), (426, (.invokevirtual 49, 429, 0, 0)), (429, (.aload_n 2, 430, 0, 0)), (430, (.aload_n 0, 431, 0, 0)), (431, (.iload_n 3, 432, 0, 0)), (432, (.iconst 1, 433, 0, 1)), (433, (.iadd, 434, 0, 0)), (434, (.iaload, 435, 0, 0)), (435, (.invokevirtual 52, 438, 0, 0)), (438, (.if_icmp .eq 650, 441, 1088, 0)), (441, (.iconst 0, 442, 0, 0)), (442, (.ireturn, 443, 0, 0)), (443, (.aload_n 1, 444, 0, 0)), (444, (.aload_n 0, 445, 0, 0)), (445, (.iload_n 3, 446, 0, 0)), (446, (.iconst 1, 447, 0, 1)), (447, (.iadd, 448, 0, 0)), (448, (.iaload, 449, 0, 0)), (449, (.aload_n 0, 450, 0, 0)), (450, (.iload_n 3, 451, 0, 0)), (451, (.iconst 2, 452, 0, 2)), (452, (.iadd, 453, 0, 0)), (453, (.iaload, 454, 0, 0)), (454, (.invokevirtual 53, 457, 0, 0)), (457, (.aload_n 2, 458, 0, 0)), (458, (.aload_n 0, 459, 0, 0)), (459, (.iload_n 3, 460, 0, 0)), (460, (.iconst 1, 461, 0, 1)), (461, (.iadd, 462, 0, 0)), (462, (.iaload, 463, 0, 0)), (463, (.aload_n 0, 464, 0, 0)), (464, (.iload_n 3, 465, 0, 0)), (465, (.iconst 2, 466, 0, 2)), (466, (.iadd, 467, 0, 0)), (467, (.iaload, 468, 0, 0)), (468, (.invokevirtual 56, 471, 0, 0)), (471, (.if_icmp .eq 617, 474, 1088, 0)), (474, (.iconst 0, 475, 0, 0)), (475, (.ireturn, 476, 0, 0)), (476, (.aload_n 1, 477, 0, 0)), (477, (.aload_n 0, 478, 0, 0)), (478, (.iload_n 3, 479, 0, 0)), (479, (.iconst 1, 480, 0, 1)), (480, (.iadd, 481, 0, 0)), (481, (.iaload, 482, 0, 0)), (482, (.invokevirtual 57, 485, 0, 0)), (485, (.aload_n 2, 486, 0, 0)), (486, (.aload_n 0, 487, 0, 0)), (487, (.iload_n 3, 488, 0, 0)), (488, (.iconst 1, 489, 0, 1)), (489, (.iadd, 490, 0, 0)), (490, (.iaload, 491, 0, 0)), (491, (.invokevirtual 60, 494, 0, 0)), (494, (.if_icmp .eq 594, 497, 1088, 0)), (497, (.iconst 0, 498, 0, 0)), (498, (.ireturn, 499, 0, 0)), (499, (.aload_n 1, 500, 0, 0)), (500, (.aload_n 0, 501, 0, 0)), (501, (.iload_n 3, 502, 0, 0)), (502, (.iconst 1, 503, 0, 1)), (503, (.iadd, 504, 0, 0)), (504, (.iaload, 505, 0, 0)), (505, (.aload_n 0, 506, 0, 0)), (506, (.iload_n 3, 507, 0, 0)), (507, (.iconst 2, 508, 0, 2)), (508, (.iadd, 509, 0, 0)), (509, (.iaload, 510, 0, 0)), (510, (.aload_n 0, 511, 0, 0)), (511, (.iload_n 3, 512, 0, 0)), (512, (.iconst 3, 513, 0, 3)), (513, (.iadd, 514, 0, 0)), (514, (.iaload, 515, 0, 0)), (515, (.invokevirtual 61, 518, 0, 0)), (518, (.aload_n 2, 519, 0, 0)), (519, (.aload_n 0, 520, 0, 0)), (520, (.iload_n 3, 521, 0, 0)), (521, (.iconst 1, 522, 0, 1))]
def vtb205_4 : List (Nat × vI) := [(522, (.iadd, 523, 0, 0)), (523, (.iaload, 524, 0, 0)), (524, (.aload_n 0, 525, 0, 0)), (525, (.iload_n 3, 526, 0, 0)), (526, (.iconst 2, 527, 0, 2)), (527, (.iadd, 528, 0, 0)), (528, (.iaload, 529, 0, 0)), (529, (.aload_n 0, 530, 0, 0)), (530, (.iload_n 3, 531, 0, 0)), (531, (.iconst 3, 532, 0, 3)), (532, (.iadd, 533, 0, 0)), (533, (.iaload, 534, 0, 0)), (534, (.invokevirtual 64, 537, 0, 0)), (537, (.if_icmp .eq 551, 540, 1088, 0)), (540, (.iconst 0, 541, 0, 0)), (541, (.ireturn, 542, 0, 0)), (542, (.aload_n 1, 543, 0, 0)), (543, (.aload_n 0, 544, 0, 0)), (544, (.iload_n 3, 545, 0, 0)), (545, (.iconst 1, 546, 0, 1)), (546, (.iadd, 547, 0, 0)), (547, (.iaload, 548, 0, 0)), (548, (.aload_n 0, 549, 0, 0)), (549, (.iload_n 3, 550, 0, 0)), (550, (.iconst 2, 551, 0, 2)), (551, (.iadd, 552, 0, 0)), (552, (.iaload, 553, 0, 0)), (553, (.invokevirtual 65, 556, 0, 0)), (556, (.aload_n 2, 557, 0, 0)), (557, (.aload_n 0, 558, 0, 0)), (558, (.iload_n 3, 559, 0, 0)), (559, (.iconst 1, 560, 0, 1)), (560, (.iadd, 561, 0, 0)), (561, (.iaload, 562, 0, 0)), (562, (.aload_n 0, 563, 0, 0)), (563, (.iload_n 3, 564, 0, 0)), (564, (.iconst 2, 565, 0, 2)), (565, (.iadd, 566, 0, 0)), (566, (.iaload, 567, 0, 0)), (567, (.invokevirtual 68, 570, 0, 0)), (570, (.if_icmp .eq 518, 573, 1088, 0)), (573, (.iconst 0, 574, 0, 0)), (574, (.ireturn, 575, 0, 0)), (575, (.aload_n 1, 576, 0, 0)), (576, (.aload_n 0, 577, 0, 0)), (577, (.iload_n 3, 578, 0, 0)), (578, (.iconst 1, 579, 0, 1)), (579, (.iadd, 580, 0, 0)), (580, (.iaload, 581, 0, 0)), (581, (.aload_n 0, 582, 0, 0)), (582, (.iload_n 3, 583, 0, 0)), (583, (.iconst 2, 584, 0, 2)), (584, (.iadd, 585, 0, 0)), (585, (.iaload, 586, 0, 0)), (586, (.invokevirtual 69, 589, 0, 0)), (589, (.aload_n 2, 590, 0, 0)), (590, (.aload_n 0, 591, 0, 0)), (591, (.iload_n 3, 592, 0, 0)), (592, (.iconst 1, 593, 0, 1)), (593, (.iadd, 594, 0, 0)), (594, (.iaload, 595, 0, 0)), (595, (.aload_n 0, 596, 0, 0)), (596, (.iload_n 3, 597, 0, 0)), (597, (.iconst 2, 598, 0, 2)), (598, (.iadd, 599, 0, 0)), (599, (.iaload, 600, 0, 0)), (600, (.invokevirtual 72, 603, 0, 0)), (603, (.if_icmp .eq 485, 606, 1088, 0)), (606, (.iconst 0, 607, 0, 0)), (607, (.ireturn, 608, 0, 0)), (608, (.aload_n 1, 609, 0, 0)), (609, (.aload_n 0, 610, 0, 0)), (610, (.iload_n 3, 611, 0, 0)), (611, (.iconst 1, 612, 0, 1)), (612, (.iadd, 613, 0, 0)), (613, (.iaload, 614, 0, 0)), (614, (.aload_n 0, 615, 0, 0)), (615, (.iload_n 3, 616, 0, 0)), (616, (.iconst 2, 617, 0, 2)), (617, (.iadd, 618, 0, 0))]
def vtb205_5 : List (Nat × vI) := [(618, (.iaload, 619, 0, 0)), (619, (.aload_n 0, 620, 0, 0)), (620, (.iload_n 3, 621, 0, 0)), (621, (.iconst 3, 622, 0, 3)), (622, (.iadd, 623, 0, 0)), (623, (.iaload, 624, 0, 0)), (624, (.invokevirtual 73, 627, 0, 0)), (627, (.aload_n 2, 628, 0, 0)), (628, (.aload_n 0, 629, 0, 0)), (629, (.iload_n 3, 630, 0, 0)), (630, (.iconst 1, 631, 0, 1)), (631, (.iadd, 632, 0, 0)), (632, (.iaload, 633, 0, 0)), (633, (.aload_n 0, 634, 0, 0)), (634, (.iload_n 3, 635, 0, 0)), (635, (.iconst 2, 636, 0, 2)), (636, (.iadd, 637, 0, 0)), (637, (.iaload, 638, 0, 0)), (638, (.aload_n 0, 639, 0, 0)), (639, (.iload_n 3, 640, 0, 0)), (640, (.iconst 3, 641, 0, 3)), (641, (.iadd, 642, 0, 0)), (642, (.iaload, 643, 0, 0)), (643, (.invokevirtual 76, 646, 0, 0)), (646, (.if_icmp .eq 442, 649, 1088, 0)), (649, (.iconst 0, 650, 0, 0)), (650, (.ireturn, 651, 0, 0)), (651, (.aload_n 1, 652, 0, 0)), (652, (.aload_n 0, 653, 0, 0)), (653, (.iload_n 3, 654, 0, 0)), (654, (.iconst 1, 655, 0, 1)), (655, (.iadd, 656, 0, 0)), (656, (.iaload, 657, 0, 0)), (657, (.aload_n 0, 658, 0, 0)), (658, (.iload_n 3, 659, 0, 0)), (659, (.iconst 2, 660, 0, 2)), (660, (.iadd, 661, 0, 0)), (661, (.iaload, 662, 0, 0)), (662, (.aload_n 0, 663, 0, 0)), (663, (.iload_n 3, 664, 0, 0)), (664, (.iconst 3, 665, 0, 3)), (665, (.iadd, 666, 0, 0)), (666, (.iaload, 667, 0, 0)), (667, (.invokevirtual 77, 670, 0, 0)), (670, (.aload_n 2, 671, 0, 0)), (671, (.aload_n 0, 672, 0, 0)), (672, (.iload_n 3, 673, 0, 0)), (673, (.iconst 1, 674, 0, 1)), (674, (.iadd, 675, 0, 0)), (675, (.iaload, 676, 0, 0)), (676, (.aload_n 0, 677, 0, 0)), (677, (.iload_n 3, 678, 0, 0)), (678, (.iconst 2, 679, 0, 2)), (679, (.iadd, 680, 0, 0)), (680, (.iaload, 681, 0, 0)), (681, (.aload_n 0, 682, 0, 0)), (682, (.iload_n 3, 683, 0, 0)), (683, (.iconst 3, 684, 0, 3)), (684, (.iadd, 685, 0, 0)), (685, (.iaload, 686, 0, 0)), (686, (.invokevirtual 80, 689, 0, 0)), (689, (.if_icmp .eq 399, 692, 1088, 0)), (692, (.iconst 0, 693, 0, 0)), (693, (.ireturn, 694, 0, 0)), (694, (.aload_n 1, 695, 0, 0)), (695, (.aload_n 0, 696, 0, 0)), (696, (.iload_n 3, 697, 0, 0)), (697, (.iconst 1, 698, 0, 1)), (698, (.iadd, 699, 0, 0)), (699, (.iaload, 700, 0, 0)), (700, (.aload_n 0, 701, 0, 0)), (701, (.iload_n 3, 702, 0, 0)), (702, (.iconst 2, 703, 0, 2)), (703, (.iadd, 704, 0, 0)), (704, (.iaload, 705, 0, 0)), (705, (.invokevirtual 81, 708, 0, 0)), (708, (.aload_n 2, 709, 0, 0)), (709, (.aload_n 0, 710, 0, 0)), (710, (.iload_n 3, 711, 0, 0)), (711, (.iconst 1, 712, 0, 1))]
def vtb205_6 : List (Nat × vI) := [(712, (.iadd, 713, 0, 0)), (713, (.iaload, 714, 0, 0)), (714, (.aload_n 0, 715, 0, 0)), (715, (.iload_n 3, 716, 0, 0)), (716, (.iconst 2, 717, 0, 2)), (717, (.iadd, 718, 0, 0)), (718, (.iaload, 719, 0, 0)), (719, (.invokevirtual 84, 722, 0, 0)), (722, (.if_icmp .eq 366, 725, 1088, 0)), (725, (.iconst 0, 726, 0, 0)), (726, (.ireturn, 727, 0, 0)), (727, (.aload_n 1, 728, 0, 0)), (728, (.aload_n 0, 729, 0, 0)), (729, (.iload_n 3, 730, 0, 0)), (730, (.iconst 1, 731, 0, 1)), (731, (.iadd, 732, 0, 0)), (732, (.iaload, 733, 0, 0)), (733, (.invokevirtual 85, 736, 0, 0)), (736, (.aload_n 2, 737, 0, 0)), (737, (.aload_n 0, 738, 0, 0)), (738, (.iload_n 3, 739, 0, 0)), (739, (.iconst 1, 740, 0, 1)), (740, (.iadd, 741, 0, 0)), (741, (.iaload, 742, 0, 0)), (742, (.invokevirtual 88, 745, 0, 0)), (745, (.if_icmp .eq 343, 748, 1088, 0)), (748, (.iconst 0, 749, 0, 0)), (749, (.ireturn, 750, 0, 0)), (750, (.aload_n 1, 751, 0, 0)), (751, (.aload_n 0, 752, 0, 0)), (752, (.iload_n 3, 753, 0, 0)), (753, (.iconst 1, 754, 0, 1)), (754, (.iadd, 755, 0, 0)), (755, (.iaload, 756, 0, 0)), (756, (.aload_n 0, 757, 0, 0)), (757, (.iload_n 3, 758, 0, 0)), (758, (.iconst 2, 759, 0, 2)), (759, (.iadd, 760, 0, 0)), (760, (.iaload, 761, 0, 0)), (761, (.aload_n 0, 762, 0, 0)), (762, (.iload_n 3, 763, 0, 0)), (763, (.iconst 3, 764, 0, 3)), (764, (.iadd, 765, 0, 0)), (765, (.iaload, 766, 0, 0)), (766, (.aload_n 0, 767, 0, 0)), (767, (.iload_n 3, 768, 0, 0)), (768, (.iconst 4, 769, 0, 4)), (769, (.iadd, 770, 0, 0)), (770, (.iaload, 771, 0, 0)), (771, (.invokevirtual 89, 774, 0, 0)), (774, (.aload_n 2, 775, 0, 0)), (775, (.aload_n 0, 776, 0, 0)), (776, (.iload_n 3, 777, 0, 0)), (777, (.iconst 1, 778, 0, 1)), (778, (.iadd, 779, 0, 0)), (779, (.iaload, 780, 0, 0)), (780, (.aload_n 0, 781, 0, 0)), (781, (.iload_n 3, 782, 0, 0)), (782, (.iconst 2, 783, 0, 2)), (783, (.iadd, 784, 0, 0)), (784, (.iaload, 785, 0, 0)), (785, (.aload_n 0, 786, 0, 0)), (786, (.iload_n 3, 787, 0, 0)), (787, (.iconst 3, 788, 0, 3)), (788, (.iadd, 789, 0, 0)), (789, (.iaload, 790, 0, 0)), (790, (.aload_n 0, 791, 0, 0)), (791, (.iload_n 3, 792, 0, 0)), (792, (.iconst 4, 793, 0, 4)), (793, (.iadd, 794, 0, 0)), (794, (.iaload, 795, 0, 0)), (795, (.invokevirtual 93, 798, 0, 0)), (798, (.lcmp, 799, 0, 0)), (799, (.ifCond .eq 289, 802, 1088, 0)), (802, (.iconst 0, 803, 0, 0)), (803, (.ireturn, 804, 0, 0)), (804, (.aload_n 1, 805, 0, 0)), (805, (.invokevirtual 94, 808, 0, 0)), (808, (.aload_n 2, 809, 0, 0)), (809, (.invokevirtual 97, 812, 0, 0))]
def vtb205_7 : List (Nat × vI) := [(812, (.if_icmp .eq 276, 815, 1088, 0)), (815, (.iconst 0, 816, 0, 0)), (816, (.ireturn, 817, 0, 0)), (817, (.aload_n 1, 818, 0, 0)), (818, (.invokevirtual 98, 821, 0, 0)), (821, (.aload_n 2, 822, 0, 0)), (822, (.invokevirtual 101, 825, 0, 0)), (825, (.if_icmp .eq 263, 828, 1088, 0)), (828, (.iconst 0, 829, 0, 0)), (829, (.ireturn, 830, 0, 0)), (830, (.aload_n 1, 831, 0, 0)), (831, (.aload_n 0, 832, 0, 0)), (832, (.iload_n 3, 833, 0, 0)), (833, (.iconst 1, 834, 0, 1)), (834, (.iadd, 835, 0, 0)), (835, (.iaload, 836, 0, 0)), (836, (.invokevirtual 102, 839, 0, 0)), (839, (.aload_n 2, 840, 0, 0)), (840, (.aload_n 0, 841, 0, 0)), (841, (.iload_n 3, 842, 0, 0)), (842, (.iconst 1, 843, 0, 1)), (843, (.iadd, 844, 0, 0)), (844, (.iaload, 845, 0, 0)), (845, (.invokevirtual 105, 848, 0, 0)), (848, (.if_icmp .eq 240, 851, 1088, 0)), (851, (.iconst 0, 852, 0, 0)), (852, (.ireturn, 853, 0, 0)), (853, (.aload_n 1, 854, 0, 0)), (854, (.aload_n 0, 855, 0, 0)), (855, (.iload_n 3, 856, 0, 0)), (856, (.iconst 1, 857, 0, 1)), (857, (.iadd, 858, 0, 0)), (858, (.iaload, 859, 0, 0)), (859, (.aload_n 0, 860, 0, 0)), (860, (.iload_n 3, 861, 0, 0)), (861, (.iconst 2, 862, 0, 2)), (862, (.iadd, 863, 0, 0)), (863, (.iaload, 864, 0, 0)), (864, (.aload_n 0, 865, 0, 0)), (865, (.iload_n 3, 866, 0, 0)), (866, (.iconst 3, 867, 0, 3)), (867, (.iadd, 868, 0, 0)), (868, (.iaload, 869, 0, 0)), (869, (.invokevirtual 106, 872, 0, 0)), (872, (.aload_n 2, 873, 0, 0)), (873, (.aload_n 0, 874, 0, 0)), (874, (.iload_n 3, 875, 0, 0)), (875, (.iconst 1, 876, 0, 1)), (876, (.iadd, 877, 0, 0)), (877, (.iaload, 878, 0, 0)), (878, (.aload_n 0, 879, 0, 0)), (879, (.iload_n 3, 880, 0, 0)), (880, (.iconst 2, 881, 0, 2)), (881, (.iadd, 882, 0, 0)), (882, (.iaload, 883, 0, 0)), (883, (.aload_n 0, 884, 0, 0)), (884, (.iload_n 3, 885, 0, 0)), (885, (.iconst 3, 886, 0, 3)), (886, (.iadd, 887, 0, 0)), (887, (.iaload, 888, 0, 0)), (888, (.invokevirtual 109, 891, 0, 0)), (891, (.if_icmp .eq 197, 894, 1088, 0)), (894, (.iconst 0, 895, 0, 0)), (895, (.ireturn, 896, 0, 0)), (896, (.aload_n 1, 897, 0, 0)), (897, (.aload_n 0, 898, 0, 0)), (898, (.iload_n 3, 899, 0, 0)), (899, (.iconst 1, 900, 0, 1)), (900, (.iadd, 901, 0, 0)), (901, (.iaload, 902, 0, 0)), (902, (.aload_n 0, 903, 0, 0)), (903, (.iload_n 3, 904, 0, 0)), (904, (.iconst 2, 905, 0, 2)), (905, (.iadd, 906, 0, 0)), (906, (.iaload, 907, 0, 0)), (907, (.aload_n 0, 908, 0, 0)), (908, (.iload_n 3, 909, 0, 0)), (909, (.iconst 3, 910, 0, 3)), (910, (.iadd, 911, 0, 0)), (911, (.iaload, 912, 0, 0))]
def vtb205_8 : List (Nat × vI) := [(912, (.invokevirtual 110, 915, 0, 0)), (915, (.aload_n 2, 916, 0, 0)), (916, (.aload_n 0, 917, 0, 0)), (917, (.iload_n 3, 918, 0, 0)), (918, (.iconst 1, 919, 0, 1)), (919, (.iadd, 920, 0, 0)), (920, (.iaload, 921, 0, 0)), (921, (.aload_n 0, 922, 0, 0)), (922, (.iload_n 3, 923, 0, 0)), (923, (.iconst 2, 924, 0, 2)), (924, (.iadd, 925, 0, 0)), (925, (.iaload, 926, 0, 0)), (926, (.aload_n 0, 927, 0, 0)), (927, (.iload_n 3, 928, 0, 0)), (928, (.iconst 3, 929, 0, 3)), (929, (.iadd, 930, 0, 0)), (930, (.iaload, 931, 0, 0)), (931, (.invokevirtual 113, 934, 0, 0)), (934, (.if_icmp .eq 154, 937, 1088, 0)), (937, (.iconst 0, 938, 0, 0)), (938, (.ireturn, 939, 0, 0)), (939, (.aload_n 1, 940, 0, 0)), (940, (.aload_n 0, 941, 0, 0)), (941, (.iload_n 3, 942, 0, 0)), (942, (.iconst 1, 943, 0, 1)), (943, (.iadd, 944, 0, 0)), (944, (.iaload, 945, 0, 0)), (945, (.aload_n 0, 946, 0, 0)), (946, (.iload_n 3, 947, 0, 0)), (947, (.iconst 2, 948, 0, 2)), (948, (.iadd, 949, 0, 0)), (949, (.iaload, 950, 0, 0)), (950, (.aload_n 0, 951, 0, 0)), (951, (.iload_n 3, 952, 0, 0)), (952, (.iconst 3, 953, 0, 3)), (953, (.iadd, 954, 0, 0)), (954, (.iaload, 955, 0, 0)), (955, (.aload_n 0, 956, 0, 0)), (956, (.iload_n 3, 957, 0, 0)), (957, (.iconst 4, 958, 0, 4)), (958, (.iadd, 959, 0, 0)), (959, (.iaload, 960, 0, 0)), (960, (.aload_n 0, 961, 0, 0)), (961, (.iload_n 3, 962, 0, 0)), (962, (.iconst 5, 963, 0, 5)), (963, (.iadd, 964, 0, 0)), (964, (.iaload, 965, 0, 0)), (965, (.invokevirtual 114, 968, 0, 0)), (968, (.aload_n 2, 969, 0, 0)), (969, (.aload_n 0, 970, 0, 0)), (970, (.iload_n 3, 971, 0, 0)), (971, (.iconst 1, 972, 0, 1)), (972, (.iadd, 973, 0, 0)), (973, (.iaload, 974, 0, 0)), (974, (.aload_n 0, 975, 0, 0)), (975, (.iload_n 3, 976, 0, 0)), (976, (.iconst 2, 977, 0, 2)), (977, (.iadd, 978, 0, 0)), (978, (.iaload, 979, 0, 0)), (979, (.aload_n 0, 980, 0, 0)), (980, (.iload_n 3, 981, 0, 0)), (981, (.iconst 3, 982, 0, 3)), (982, (.iadd, 983, 0, 0)), (983, (.iaload, 984, 0, 0)), (984, (.aload_n 0, 985, 0, 0)), (985, (.iload_n 3, 986, 0, 0)), (986, (.iconst 4, 987, 0, 4)), (987, (.iadd, 988, 0, 0)), (988, (.iaload, 989, 0, 0)), (989, (.aload_n 0, 990, 0, 0)), (990, (.iload_n 3, 991, 0, 0)), (991, (.iconst 5, 992, 0, 5)), (992, (.iadd, 993, 0, 0)), (993, (.iaload, 994, 0, 0)), (994, (.invokevirtual 118, 997, 0, 0)), (997, (.if_icmp .eq 91, 1000, 1088, 0)), (1000, (.iconst 0, 1001, 0, 0)), (1001, (.ireturn, 1002, 0, 0)), (1002, (.aload_n 1, 1003, 0, 0)), (1003, (.aload_n 0, 1004, 0, 0))]
def vtb205_9 : List (Nat × vI) := [(1004, (.iload_n 3, 1005, 0, 0)), (1005, (.iconst 1, 1006, 0, 1)), (1006, (.iadd, 1007, 0, 0)), (1007, (.iaload, 1008, 0, 0)), (1008, (.aload_n 0, 1009, 0, 0)), (1009, (.iload_n 3, 1010, 0, 0)), (1010, (.iconst 2, 1011, 0, 2)), (1011, (.iadd, 1012, 0, 0)), (1012, (.iaload, 1013, 0, 0)), (1013, (.aload_n 0, 1014, 0, 0)), (1014, (.iload_n 3, 1015, 0, 0)), (1015, (.iconst 3, 1016, 0, 3)), (1016, (.iadd, 1017, 0, 0)), (1017, (.iaload, 1018, 0, 0)), (1018, (.aload_n 0, 1019, 0, 0)), (1019, (.iload_n 3, 1020, 0, 0)), (1020, (.iconst 4, 1021, 0, 4)), (1021, (.iadd, 1022, 0, 0)), (1022, (.iaload, 1023, 0, 0)), (1023, (.invokevirtual 119, 1026, 0, 0)), (1026, (.aload_n 2, 1027, 0, 0)), (1027, (.aload_n 0, 1028, 0, 0)), (1028, (.iload_n 3, 1029, 0, 0)), (1029, (.iconst 1, 1030, 0, 1)), (1030, (.iadd, 1031, 0, 0)), (1031, (.iaload, 1032, 0, 0)), (1032, (.aload_n 0, 1033, 0, 0)), (1033, (.iload_n 3, 1034, 0, 0)), (1034, (.iconst 2, 1035, 0, 2)), (1035, (.iadd, 1036, 0, 0)), (1036, (.iaload, 1037, 0, 0)), (1037, (.aload_n 0, 1038, 0, 0)), (1038, (.iload_n 3, 1039, 0, 0)), (1039, (.iconst 3, 1040, 0, 3)), (1040, (.iadd, 1041, 0, 0)), (1041, (.iaload, 1042, 0, 0)), (1042, (.aload_n 0, 1043, 0, 0)), (1043, (.iload_n 3, 1044, 0, 0)), (1044, (.iconst 4, 1045, 0, 4)), (1045, (.iadd, 1046, 0, 0)), (1046, (.iaload, 1047, 0, 0)), (1047, (.invokevirtual 123, 1050, 0, 0)), (1050, (.if_icmp .eq 38, 1053, 1088, 0)), (1053, (.iconst 0, 1054, 0, 0)), (1054, (.ireturn, 1055, 0, 0)), (1055, (.aload_n 1, 1056, 0, 0)), (1056, (.aload_n 0, 1057, 0, 0)), (1057, (.iload_n 3, 1058, 0, 0)), (1058, (.iconst 1, 1059, 0, 1)), (1059, (.iadd, 1060, 0, 0)), (1060, (.iaload, 1061, 0, 0)), (1061, (.aload_n 0, 1062, 0, 0)), (1062, (.iload_n 3, 1063, 0, 0)), (1063, (.iconst 2, 1064, 0, 2)), (1064, (.iadd, 1065, 0, 0)), (1065, (.iaload, 1066, 0, 0)), (1066, (.invokevirtual 124, 1069, 0, 0)), (1069, (.aload_n 2, 1070, 0, 0)), (1070, (.aload_n 0, 1071, 0, 0)), (1071, (.iload_n 3, 1072, 0, 0)), (1072, (.iconst 1, 1073, 0, 1)), (1073, (.iadd, 1074, 0, 0)), (1074, (.iaload, 1075, 0, 0)), (1075, (.aload_n 0, 1076, 0, 0)), (1076, (.iload_n 3, 1077, 0, 0)), (1077, (.iconst 2, 1078, 0, 2)), (1078, (.iadd, 1079, 0, 0)), (1079, (.iaload, 1080, 0, 0)), (1080, (.invokevirtual 127, 1083, 0, 0)), (1083, (.if_icmp .eq 5, 1086, 1088, 0)), (1086, (.iconst 0, 1087, 0, 0)), (1087, (.ireturn, 1088, 0, 0)), (1088, (.iinc 3 6, 1091, 0, 6)), (1091, (.goto (-1073), 1094, 18, 0)), (1094, (.iconst 1, 1095, 0, 1)), (1095, (.ireturn, 1096, 0, 0))]
def vtb205 : List (Nat × vI) := vtb205_0 ++ (vtb205_1 ++ (vtb205_2 ++ (vtb205_3 ++ (vtb205_4 ++ (vtb205_5 ++ (vtb205_6 ++ (vtb205_7 ++ (vtb205_8 ++ (vtb205_9)))))))))
def vtb206 : List (Nat × vI) := [(0, (.aload_n 0, 1, 0, 0)), (1, (.getfield 9, 4, 0, 0)), (4, (.arraylength, 5, 0, 0)), (5, (.aload_n 0, 6, 0, 0)), (6, (.invokevirtual 335, 9, 0, 0)), (9, (.ishr, 10, 0, 0)), (10, (.ireturn, 11, 0, 0))]
def vtb207 : List (Nat × vI) := [(0, (.aload_n 0, 1, 0, 0)), (1, (.invokevirtual 492, 4, 0, 0)), (4, (.ifCond .eq 12, 7, 16, 0)), (7, (.aload_n 0, 8, 0, 0)), (8, (.getfield 9, 11, 0, 0)), (11, (.iload_n 1, 12, 0, 0)), (12, (.invokestatic 495, 15, 0, 0)), (15, (.ireturn, 16, 0, 0)), (16, (.aload_n 0, 17, 0, 0)), (17, (.getfield 9, 20, 0, 0)), (20, (.iload_n 1, 21, 0, 0)), (21, (.invokestatic 498, 24, 0, 0)), (24, (.ireturn, 25, 0, 0))]
def vtb208 : List (Nat × vI) := [(0, (.getstatic 38, 3, 0, 0)), (3, (.ifCond .eq 10, 6, 13, 0)), (6, (.aload_n 0, 7, 0, 0)), (7, (.getfield 15, 10, 0, 0)), (10, (.goto 4, 13, 14, 0)), (13, (.iconst 1, 14, 0, 1)), (14, (.ireturn, 15, 0, 0))]
def vtb209 : List (Nat × vI) := [(0, (.getstatic 38, 3, 0, 0)), (3, (.ifCond .eq 14, 6, 17, 0)), (6, (.aload_n 0, 7, 0, 0)), (7, (.getfield 15, 10, 0, 0)), (10, (.ifCond .ne 7, 13, 17, 0)), (13, (.iconst 1, 14, 0, 1)), (14, (.goto 4, 17, 18, 0)), (17, (.iconst 0, 18, 0, 0)), (18, (.ireturn, 19, 0, 0))]
def vtb210 : List (Nat × vI) := [(0, (.iload_n 0, 1, 0, 0)), (1, (.iload_n 1, 2, 0, 0)), (2, (.getstatic 1053, 5, 0, 0)), (5, (.invokestatic 1059, 8, 0, 0)), (8, (.pop, 9, 0, 0)), (9, (.return_, 10, 0, 0))]
def vtb211 : List (Nat × vI) := [(0, (.iload_n 1, 1, 0, 0)), (1, (.aload_n 0, 2, 0, 0)), (2, (.arraylength, 3, 0, 0)), (3, (.invokestatic 9, 6, 0, 0)), (6, (.aload_n 0, 7, 0, 0)), (7, (.iload_n 1, 8, 0, 0)), (8, (.baload, 9, 0, 0)), (9, (.sipush 255, 12, 0, 255)), (12, (.iand, 13, 0, 0)), (13, (.i2c, 14, 0, 0)), (14, (.ireturn, 15, 0, 0))]
def vtb212 : List (Nat × vI) := [(0, (.getstatic 44, 3, 0, 0)), (3, (.ifCond .ne 25, 6, 28, 0)), (6, (.iload_n 1, 7, 0, 0)), (7, (.ifCond .lt 11, 10, 18, 0)), (10, (.iload_n 1, 11, 0, 0)), (11, (.aload_n 0, 12, 0, 0)), (12, (.invokestatic 48, 15, 0, 0)), (15, (.if_icmp .lt 13, 18, 28, 0)), (18, (.new 52, 21, 0, 0)), (21, (.dup, 22, 0, 0)), (22, (.ldc 54, 24, 0, 0)), (24, (.invokespecial 56, 27, 0, 0)), (27, (.athrow, 28, 0, 0)), (28, (.iload_n 1, 29, 0, 0)), (29, (.iconst 1, 30, 0, 1)), (30, (.ishl, 31, 0, 0)), (31, (.istore_n 1, 32, 0, 0)), (32, (.aload_n 0, 33, 0, 0)), (33, (.iload_n 1, 34, 0, 0)), (34, (.iinc 1 1, 37, 0, 1)), (37, (.baload, 38, 0, 0)), (38, (.sipush 255, 41, 0, 255)), (41, (.iand, 42, 0, 0)), (42, (.getstatic 59, 45, 0, 0)), (45, (.ishl, 46, 0, 0)), (46, (.aload_n 0, 47, 0, 0)), (47, (.iload_n 1, 48, 0, 0)), (48, (.baload, 49, 0, 0)), (49, (.sipush 255, 52, 0, 255)), (52, (.iand, 53, 0, 0)), (53, (.getstatic 63, 56, 0, 0)), (56, (.ishl, 57, 0, 0)), (57, (.ior, 58, 0, 0)), (58, (.i2c, 59, 0, 0)), (59, (.ireturn, 60, 0, 0))]
def vtb213 : List (Nat × vI) := [(0, (.aload_n 0, 1, 0, 0)), (1, (.arraylength, 2, 0, 0)), (2, (.iconst 1, 3, 0, 1)), (3, (.ishr, 4, 0, 0)), (4, (.ireturn, 5, 0, 0))]
def vtb214 : List (Nat × vI) := [(0, (.iload_n 1, 1, 0, 0)), (1, (.aload_n 0, 2, 0, 0)), (2, (.invokestatic 67, 5, 0, 0)), (5, (.aload_n 0, 6, 0, 0)), (6, (.iload_n 1, 7, 0, 0)), (7, (.invokestatic 71, 10, 0, 0)), (10, (.ireturn, 11, 0, 0))]
def vtb215 : List (Nat × vI) := [(0, (.iload_n 0, 1, 0, 0)), (1, (.aload_n 1, 2, 0, 0)), (2, (.invokestatic 48, 5, 0, 0)), (5, (.invokestatic 414, 8, 0, 0)), (8, (.return_, 9, 0, 0))]
def vtb216 : List (Nat × vI) := [(0, (.iload_n 0, 1, 0, 0)), (1, (.ifCond .lt 8, 4, 9, 0)), (4, (.iload_n 0, 5, 0, 0)), (5, (.iload_n 1, 6, 0, 0)), (6, (.if_icmp .lt 10, 9, 16, 0)), (9, (.aload_n 2, 10, 0, 0)), (10, (.iload_n 0, 11, 0, 0)), (11, (.iload_n 1, 12, 0, 0)), (12, (.invokestatic 95, 15, 0, 0)), (15, (.athrow, 16, 0, 0)), (16, (.iload_n 0, 17, 0, 0)), (17, (.ireturn, 18, 0, 0))]
def vtb217 : List (Nat × vI) := [(0, (.iload_n 0, 1, 0, 0)), (1, (.iload_n 0, 2, 0, 0)), (2, (.iconst 1, 3, 0, 1)), (3, (.iushr, 4, 0, 0)), (4, (.ldc_w 265, 7, 0, 0)), (7, (.iand, 8, 0, 0)), (8, (.isub, 9, 0, 0)), (9, (.istore_n 0, 10, 0, 0)), (10, (.iload_n 0, 11, 0, 0)), (11, (.ldc_w 266, 14, 0, 0)), (14, (.iand, 15, 0, 0)), (15, (.iload_n 0, 16, 0, 0)), (16, (.iconst 2, 17, 0, 2)), (17, (.iushr, 18, 0, 0)), (18, (.ldc_w 266, 21, 0, 0)), (21, (.iand, 22, 0, 0)), (22, (.iadd, 23, 0, 0)), (23, (.istore_n 0, 24, 0, 0)), (24, (.iload_n 0, 25, 0, 0)), (25, (.iload_n 0, 26, 0, 0)), (26, (.iconst 4, 27, 0, 4)), (27, (.iushr, 28, 0, 0)), (28, (.iadd, 29, 0, 0)), (29, (.ldc_w 267, 32, 0, 0)), (32, (.iand, 33, 0, 0)), (33, (.istore_n 0, 34, 0, 0)), (34, (.iload_n 0, 35, 0, 0)), (35, (.iload_n 0, 36, 0, 0)), (36, (.bipush 8, 38, 0, 8)), (38, (.iushr, 39, 0, 0)), (39, (.iadd, 40, 0, 0)), (40, (.istore_n 0, 41, 0, 0)), (41, (.iload_n 0, 42, 0, 0)), (42, (.iload_n 0, 43, 0, 0)), (43, (.bipush 16, 45, 0, 16)), (45, (.iushr, 46, 0, 0)), (46, (.iadd, 47, 0, 0)), (47, (.istore_n 0, 48, 0, 0)), (48, (.iload_n 0, 49, 0, 0)), (49, (.bipush 63, 51, 0, 63)), (51, (.iand, 52, 0, 0)), (52, (.ireturn, 53, 0, 0))]
def vtb218 : List (Nat × vI) := [(0, (.iload_n 0, 1, 0, 0)), (1, (.ifCond .ge 8, 4, 9, 0)), (4, (.iload_n 0, 5, 0, 0)), (5, (.ineg, 6, 0, 0)), (6, (.goto 4, 9, 10, 0)), (9, (.iload_n 0, 10, 0, 0)), (10, (.ireturn, 11, 0, 0))]
def vtb219 : List (Nat × vI) := [(0, (.iload_n 0, 1, 0, 0)), (1, (.iload_n 1, 2, 0, 0)), (2, (.if_icmp .lt 7, 5, 9, 0)), (5, (.iload_n 0, 6, 0, 0)), (6, (.goto 4, 9, 10, 0)), (9, (.iload_n 1, 10, 0, 0)), (10, (.ireturn, 11, 0, 0))]
def vtb220 : List (Nat × vI) := [(0, (.iload_n 0, 1, 0, 0)), (1, (.iload_n 1, 2, 0, 0)), (2, (.if_icmp .gt 7, 5, 9, 0)), (5, (.iload_n 0, 6, 0, 0)), (6, (.goto 4, 9, 10, 0)), (9, (.iload_n 1, 10, 0, 0)), (10, (.ireturn, 11, 0, 0))]
abbrev vN : Nat := 221
def vTb (x : Nat) : List (Nat × vI) := bif Nat.ble x 220 then (bif Nat.ble x 109 then (bif Nat.ble x 54 then (bif Nat.ble x 26 then (bif Nat.ble x 12 then (bif Nat.ble x 5 then (bif Nat.ble x 2 then (bif Nat.ble x 0 then vtb0 else (bif Nat.ble x 1 then vtb1 else vtb2)) else (bif Nat.ble x 3 then vtb3 else (bif Nat.ble x 4 then vtb4 else vtb5))) else (bif Nat.ble x 8 then (bif Nat.ble x 6 then vtb6 else (bif Nat.ble x 7 then vtb7 else vtb8)) else (bif Nat.ble x 10 then (bif Nat.ble x 9 then vtb9 else vtb10) else (bif Nat.ble x 11 then vtb11 else vtb12)))) else (bif Nat.ble x 19 then (bif Nat.ble x 15 then (bif Nat.ble x 13 then vtb13 else (bif Nat.ble x 14 then vtb14 else vtb15)) else (bif Nat.ble x 17 then (bif Nat.ble x 16 then vtb16 else vtb17) else (bif Nat.ble x 18 then vtb18 else vtb19))) else (bif Nat.ble x 22 then (bif Nat.ble x 20 then vtb20 else (bif Nat.ble x 21 then vtb21 else vtb22)) else (bif Nat.ble x 24 then (bif Nat.ble x 23 then vtb23 else vtb24) else (bif Nat.ble x 25 then vtb25 else vtb26))))) else (bif Nat.ble x 40 then (bif Nat.ble x 33 then (bif Nat.ble x 29 then (bif Nat.ble x 27 then vtb27 else (bif Nat.ble x 28 then vtb28 else vtb29)) else (bif Nat.ble x 31 then (bif Nat.ble x 30 then vtb30 else vtb31) else (bif Nat.ble x 32 then vtb32 else vtb33))) else (bif Nat.ble x 36 then (bif Nat.ble x 34 then vtb34 else (bif Nat.ble x 35 then vtb35 else vtb36)) else (bif Nat.ble x 38 then (bif Nat.ble x 37 then vtb37 else vtb38) else (bif Nat.ble x 39 then vtb39 else vtb40)))) else (bif Nat.ble x 47 then (bif Nat.ble x 43 then (bif Nat.ble x 41 then vtb41 else (bif Nat.ble x 42 then vtb42 else vtb43)) else (bif Nat.ble x 45 then (bif Nat.ble x 44 then vtb44 else vtb45) else (bif Nat.ble x 46 then vtb46 else vtb47))) else (bif Nat.ble x 50 then (bif Nat.ble x 48 then vtb48 else (bif Nat.ble x 49 then vtb49 else vtb50)) else (bif Nat.ble x 52 then (bif Nat.ble x 51 then vtb51 else vtb52) else (bif Nat.ble x 53 then vtb53 else vtb54)))))) else (bif Nat.ble x 81 then (bif Nat.ble x 67 then (bif Nat.ble x 60 then (bif Nat.ble x 57 then (bif Nat.ble x 55 then vtb55 else (bif Nat.ble x 56 then vtb56 else vtb57)) else (bif Nat.ble x 58 then vtb58 else (bif Nat.ble x 59 then vtb59 else vtb60))) else (bif Nat.ble x 63 then (bif Nat.ble x 61 then vtb61 else (bif Nat.ble x 62 then vtb62 else vtb63)) else (bif Nat.ble x 65 then (bif Nat.ble x 64 then vtb64 else vtb65) else (bif Nat.ble x 66 then vtb66 else vtb67)))) else (bif Nat.ble x 74 then (bif Nat.ble x 70 then (bif Nat.ble x 68 then vtb68 else (bif Nat.ble x 69 then vtb69 else vtb70)) else (bif Nat.ble x 72 then (bif Nat.ble x 71 then vtb71 else vtb72) else (bif Nat.ble x 73 then vtb73 else vtb74))) else (bif Nat.ble x 77 then (bif Nat.ble x 75 then vtb75 else (bif Nat.ble x 76 then vtb76 else vtb77)) else (bif Nat.ble x 79 then (bif Nat.ble x 78 then vtb78 else vtb79) else (bif Nat.ble x 80 then vtb80 else vtb81))))) else (bif Nat.ble x 95 then (bif Nat.ble x 88 then (bif Nat.ble x 84 then (bif Nat.ble x 82 then vtb82 else (bif Nat.ble x 83 then vtb83 else vtb84)) else (bif Nat.ble x 86 then (bif Nat.ble x 85 then vtb85 else vtb86) else (bif Nat.ble x 87 then vtb87 else vtb88))) else (bif Nat.ble x 91 then (bif Nat.ble x 89 then vtb89 else (bif Nat.ble x 90 then vtb90 else vtb91)) else (bif Nat.ble x 93 then (bif Nat.ble x 92 then vtb92 else vtb93) else (bif Nat.ble x 94 then vtb94 else vtb95)))) else (bif Nat.ble x 102 then (bif Nat.ble x 98 then (bif Nat.ble x 96 then vtb96 else (bif Nat.ble x 97 then vtb97 else vtb98)) else (bif Nat.ble x 100 then (bif Nat.ble x 99 then vtb99 else vtb100) else (bif Nat.ble x 101 then vtb101 else vtb102))) else (bif Nat.ble x 105 then (bif Nat.ble x 103 then vtb103 else (bif Nat.ble x 104 then vtb104 else vtb105)) else (bif Nat.ble x 107 then (bif Nat.ble x 106 then vtb106 else vtb107) else (bif Nat.ble x 108 then vtb108 else vtb109))))))) else (bif Nat.ble x 164 then (bif Nat.ble x 136 then (bif Nat.ble x 122 then (bif Nat.ble x 115 then (bif Nat.ble x 112 then (bif Nat.ble x 110 then vtb110 else (bif Nat.ble x 111 then vtb111 else vtb112)) else (bif Nat.ble x 113 then vtb113 else (bif Nat.ble x 114 then vtb114 else vtb115))) else (bif Nat.ble x 118 then (bif Nat.ble x 116 then vtb116 else (bif Nat.ble x 117 then vtb117 else vtb118)) else (bif Nat.ble x 120 then (bif Nat.ble x 119 then vtb119 else vtb120) else (bif Nat.ble x 121 then vtb121 else vtb122)))) else (bif Nat.ble x 129 then (bif Nat.ble x 125 then (bif Nat.ble x 123 then vtb123 else (bif Nat.ble x 124 then vtb124 else vtb125)) else (bif Nat.ble x 127 then (bif Nat.ble x 126 then vtb126 else vtb127) else (bif Nat.ble x 128 then vtb128 else vtb129))) else (bif Nat.ble x 132 then (bif Nat.ble x 130 then vtb130 else (bif Nat.ble x 131 then vtb131 else vtb132)) else (bif Nat.ble x 134 then (bif Nat.ble x 133 then vtb133 else vtb134) else (bif Nat.ble x 135 then vtb135 else vtb136))))) else (bif Nat.ble x 150 then (bif Nat.ble x 143 then (bif Nat.ble x 139 then (bif Nat.ble x 137 then vtb137 else (bif Nat.ble x 138 then vtb138 else vtb139)) else (bif Nat.ble x 141 then (bif Nat.ble x 140 then vtb140 else vtb141) else (bif Nat.ble x 142 then vtb142 else vtb143))) else (bif Nat.ble x 146 then (bif Nat.ble x 144 then vtb144 else (bif Nat.ble x 145 then vtb145 else vtb146)) else (bif Nat.ble x 148 then (bif Nat.ble x 147 then vtb147 else vtb148) else (bif Nat.ble x 149 then vtb149 else vtb150)))) else (bif Nat.ble x 157 then (bif Nat.ble x 153 then (bif Nat.ble x 151 then vtb151 else (bif Nat.ble x 152 then vtb152 else vtb153)) else (bif Nat.ble x 155 then (bif Nat.ble x 154 then vtb154 else vtb155) else (bif Nat.ble x 156 then vtb156 else vtb157))) else (bif Nat.ble x 160 then (bif Nat.ble x 158 then vtb158 else (bif Nat.ble x 159 then vtb159 else vtb160)) else (bif Nat.ble x 162 then (bif Nat.ble x 161 then vtb161 else vtb162) else (bif Nat.ble x 163 then vtb163 else vtb164)))))) else (bif Nat.ble x 192 then (bif Nat.ble x 178 then (bif Nat.ble x 171 then (bif Nat.ble x 167 then (bif Nat.ble x 165 then vtb165 else (bif Nat.ble x 166 then vtb166 else vtb167)) else (bif Nat.ble x 169 then (bif Nat.ble x 168 then vtb168 else vtb169) else (bif Nat.ble x 170 then vtb170 else vtb171))) else (bif Nat.ble x 174 then (bif Nat.ble x 172 then vtb172 else (bif Nat.ble x 173 then vtb173 else vtb174)) else (bif Nat.ble x 176 then (bif Nat.ble x 175 then vtb175 else vtb176) else (bif Nat.ble x 177 then vtb177 else vtb178)))) else (bif Nat.ble x 185 then (bif Nat.ble x 181 then (bif Nat.ble x 179 then vtb179 else (bif Nat.ble x 180 then vtb180 else vtb181)) else (bif Nat.ble x 183 then (bif Nat.ble x 182 then vtb182 else vtb183) else (bif Nat.ble x 184 then vtb184 else vtb185))) else (bif Nat.ble x 188 then (bif Nat.ble x 186 then vtb186 else (bif Nat.ble x 187 then vtb187 else vtb188)) else (bif Nat.ble x 190 then (bif Nat.ble x 189 then vtb189 else vtb190) else (bif Nat.ble x 191 then vtb191 else vtb192))))) else (bif Nat.ble x 206 then (bif Nat.ble x 199 then (bif Nat.ble x 195 then (bif Nat.ble x 193 then vtb193 else (bif Nat.ble x 194 then vtb194 else vtb195)) else (bif Nat.ble x 197 then (bif Nat.ble x 196 then vtb196 else vtb197) else (bif Nat.ble x 198 then vtb198 else vtb199))) else (bif Nat.ble x 202 then (bif Nat.ble x 200 then vtb200 else (bif Nat.ble x 201 then vtb201 else vtb202)) else (bif Nat.ble x 204 then (bif Nat.ble x 203 then vtb203 else vtb204) else (bif Nat.ble x 205 then vtb205 else vtb206)))) else (bif Nat.ble x 213 then (bif Nat.ble x 209 then (bif Nat.ble x 207 then vtb207 else (bif Nat.ble x 208 then vtb208 else vtb209)) else (bif Nat.ble x 211 then (bif Nat.ble x 210 then vtb210 else vtb211) else (bif Nat.ble x 212 then vtb212 else vtb213))) else (bif Nat.ble x 216 then (bif Nat.ble x 214 then vtb214 else (bif Nat.ble x 215 then vtb215 else vtb216)) else (bif Nat.ble x 218 then (bif Nat.ble x 217 then vtb217 else vtb218) else (bif Nat.ble x 219 then vtb219 else vtb220)))))))) else []
def vYn (x : Nat) : MethodName := bif Nat.ble x 220 then (bif Nat.ble x 109 then (bif Nat.ble x 54 then (bif Nat.ble x 26 then (bif Nat.ble x 12 then (bif Nat.ble x 5 then (bif Nat.ble x 2 then (bif Nat.ble x 0 then yX0_init else (bif Nat.ble x 1 then yX0_open else yX0_keepNights)) else (bif Nat.ble x 3 then yX0_lightsSeen else (bif Nat.ble x 4 then yX0_nightsOf else yX0_sum))) else (bif Nat.ble x 8 then (bif Nat.ble x 6 then yX0_firstOtherwise else (bif Nat.ble x 7 then yX0_owed else yX0_dueFor)) else (bif Nat.ble x 10 then (bif Nat.ble x 9 then yX0_giveNames else yX0_due) else (bif Nat.ble x 11 then yX0_off else yX0_extra)))) else (bif Nat.ble x 19 then (bif Nat.ble x 15 then (bif Nat.ble x 13 then yX0_bounded else (bif Nat.ble x 14 then yX1_init else yX1_seek)) else (bif Nat.ble x 17 then (bif Nat.ble x 16 then yX1_keep else yX1_most) else (bif Nat.ble x 18 then yX2_init else yX2_append))) else (bif Nat.ble x 22 then (bif Nat.ble x 20 then yX2_empty else (bif Nat.ble x 21 then yX2_read else yX2_readEither)) else (bif Nat.ble x 24 then (bif Nat.ble x 23 then yX2_readBoth else yX2_readNot) else (bif Nat.ble x 25 then yX2_readSum else yX2_readTerm))))) else (bif Nat.ble x 40 then (bif Nat.ble x 33 then (bif Nat.ble x 29 then (bif Nat.ble x 27 then yX2_readOne else (bif Nat.ble x 28 then yX2_opens else yX2_expect)) else (bif Nat.ble x 31 then (bif Nat.ble x 30 then yX2_fail else yX2_advance) else (bif Nat.ble x 32 then yX2_readNumber else yX2_readWord))) else (bif Nat.ble x 36 then (bif Nat.ble x 34 then yX2_isWord else (bif Nat.ble x 35 then yX2_byteAt else yX2_isLetter)) else (bif Nat.ble x 38 then (bif Nat.ble x 37 then yX2_isDigit else yX2_isSign) else (bif Nat.ble x 39 then yX3_init else yX3_become)))) else (bif Nat.ble x 47 then (bif Nat.ble x 43 then (bif Nat.ble x 41 then yX3_has else (bif Nat.ble x 42 then yX3_item else yX3_put)) else (bif Nat.ble x 45 then (bif Nat.ble x 44 then yX4_init else yX4_empty) else (bif Nat.ble x 46 then yX4_add else yX4_addName))) else (bif Nat.ble x 50 then (bif Nat.ble x 48 then yX4_addSign else (bif Nat.ble x 49 then yX4_endPart else yX4_tell)) else (bif Nat.ble x 52 then (bif Nat.ble x 51 then yX4_joined else yX5_init) else (bif Nat.ble x 53 then yX5_become else yX5_addLight)))))) else (bif Nat.ble x 81 then (bif Nat.ble x 67 then (bif Nat.ble x 60 then (bif Nat.ble x 57 then (bif Nat.ble x 55 then yX5_pieceCount else (bif Nat.ble x 56 then yX5_worth else yX6_init)) else (bif Nat.ble x 58 then yX6_set else (bif Nat.ble x 59 then yX6_light else yX6_look))) else (bif Nat.ble x 63 then (bif Nat.ble x 61 then yX6_told else (bif Nat.ble x 62 then yX6_toldOfLooker else yX6_placesOf)) else (bif Nat.ble x 65 then (bif Nat.ble x 64 then yX6_placeCount else yX6_feed) else (bif Nat.ble x 66 then yX6_text else yX6_force)))) else (bif Nat.ble x 74 then (bif Nat.ble x 70 then (bif Nat.ble x 68 then yX6_owes else (bif Nat.ble x 69 then yX6_all else yX6_pieces)) else (bif Nat.ble x 72 then (bif Nat.ble x 71 then yX6_pay else yX6_whoOwesMost) else (bif Nat.ble x 73 then yX6_cheapest else yX6_leave))) else (bif Nat.ble x 77 then (bif Nat.ble x 75 then yX6_farm else (bif Nat.ble x 76 then yX6_walk else yX6_whoOwe)) else (bif Nat.ble x 79 then (bif Nat.ble x 78 then yX6_firstAt else yX6_tells) else (bif Nat.ble x 80 then yX6_textsThatFit else yX6_cloudsThatFit))))) else (bif Nat.ble x 95 then (bif Nat.ble x 88 then (bif Nat.ble x 84 then (bif Nat.ble x 82 then yX6_traitsThatFit else (bif Nat.ble x 83 then yX6_film else yX6_drawn)) else (bif Nat.ble x 86 then (bif Nat.ble x 85 then yX6_chance else yX6_cloudsBy) else (bif Nat.ble x 87 then yX6_commonMeasure else yX6_image))) else (bif Nat.ble x 91 then (bif Nat.ble x 89 then yX6_back else (bif Nat.ble x 90 then yX6_count else yX6_sheet)) else (bif Nat.ble x 93 then (bif Nat.ble x 92 then yX6_cell else yX6_copy) else (bif Nat.ble x 94 then yX6_lights else yX6_taken)))) else (bif Nat.ble x 102 then (bif Nat.ble x 98 then (bif Nat.ble x 96 then yX6_between else (bif Nat.ble x 97 then yX6_isLooker else yX6_isSheet)) else (bif Nat.ble x 100 then (bif Nat.ble x 99 then yX6_isLight else yX6_ruleOf) else (bif Nat.ble x 101 then yX6_openBill else yX6_allOf))) else (bif Nat.ble x 105 then (bif Nat.ble x 103 then yX6_allTogether else (bif Nat.ble x 104 then yX7_in else yX7_within)) else (bif Nat.ble x 107 then (bif Nat.ble x 106 then yX7_apart else yX7_init) else (bif Nat.ble x 108 then yX7_spell else yX7_isLight))))))) else (bif Nat.ble x 164 then (bif Nat.ble x 136 then (bif Nat.ble x 122 then (bif Nat.ble x 115 then (bif Nat.ble x 112 then (bif Nat.ble x 110 then yX7_isLooker else (bif Nat.ble x 111 then yX7_isOf else yX7_mostOf)) else (bif Nat.ble x 113 then yX7_set else (bif Nat.ble x 114 then yX7_lays else yX7_light))) else (bif Nat.ble x 118 then (bif Nat.ble x 116 then yX7_look else (bif Nat.ble x 117 then yX7_told else yX7_feed)) else (bif Nat.ble x 120 then (bif Nat.ble x 119 then yX7_byteAt else yX7_next) else (bif Nat.ble x 121 then yX7_fail else yX7_isLetter)))) else (bif Nat.ble x 129 then (bif Nat.ble x 125 then (bif Nat.ble x 123 then yX7_isWord else (bif Nat.ble x 124 then yX7_isSign else yX7_opens)) else (bif Nat.ble x 127 then (bif Nat.ble x 126 then yX7_name else yX7_atom5) else (bif Nat.ble x 128 then yX7_term5 else yX7_added5))) else (bif Nat.ble x 132 then (bif Nat.ble x 130 then yX7_not5 else (bif Nat.ble x 131 then yX7_both5 else yX7_either5)) else (bif Nat.ble x 134 then (bif Nat.ble x 133 then yX7_atom4 else yX7_term4) else (bif Nat.ble x 135 then yX7_added4 else yX7_not4))))) else (bif Nat.ble x 150 then (bif Nat.ble x 143 then (bif Nat.ble x 139 then (bif Nat.ble x 137 then yX7_both4 else (bif Nat.ble x 138 then yX7_either4 else yX7_atom3)) else (bif Nat.ble x 141 then (bif Nat.ble x 140 then yX7_term3 else yX7_added3) else (bif Nat.ble x 142 then yX7_not3 else yX7_both3))) else (bif Nat.ble x 146 then (bif Nat.ble x 144 then yX7_either3 else (bif Nat.ble x 145 then yX7_atom2 else yX7_term2)) else (bif Nat.ble x 148 then (bif Nat.ble x 147 then yX7_added2 else yX7_not2) else (bif Nat.ble x 149 then yX7_both2 else yX7_either2)))) else (bif Nat.ble x 157 then (bif Nat.ble x 153 then (bif Nat.ble x 151 then yX7_atom1 else (bif Nat.ble x 152 then yX7_term1 else yX7_added1)) else (bif Nat.ble x 155 then (bif Nat.ble x 154 then yX7_not1 else yX7_both1) else (bif Nat.ble x 156 then yX7_either1 else yX7_atom0))) else (bif Nat.ble x 160 then (bif Nat.ble x 158 then yX7_term0 else (bif Nat.ble x 159 then yX7_added0 else yX7_not0)) else (bif Nat.ble x 162 then (bif Nat.ble x 161 then yX7_both0 else yX7_either0) else (bif Nat.ble x 163 then yX7_part else yX7_read)))))) else (bif Nat.ble x 192 then (bif Nat.ble x 178 then (bif Nat.ble x 171 then (bif Nat.ble x 167 then (bif Nat.ble x 165 then yX7_text else (bif Nat.ble x 166 then yX7_force else yX7_bitsOf)) else (bif Nat.ble x 169 then (bif Nat.ble x 168 then yX7_nightsOf else yX7_lightMany) else (bif Nat.ble x 170 then yX7_asks else yX7_dueOf))) else (bif Nat.ble x 174 then (bif Nat.ble x 172 then yX7_offOf else (bif Nat.ble x 173 then yX7_extraOf else yX7_owesFor)) else (bif Nat.ble x 176 then (bif Nat.ble x 175 then yX7_owes else yX7_plainOf) else (bif Nat.ble x 177 then yX7_allOf else yX7_allSum)))) else (bif Nat.ble x 185 then (bif Nat.ble x 181 then (bif Nat.ble x 179 then yX7_all else (bif Nat.ble x 180 then yX7_sums else yX7_fewestFor)) else (bif Nat.ble x 183 then (bif Nat.ble x 182 then yX7_pieces else yX7_pay) else (bif Nat.ble x 184 then yX7_cheapest else yX7_leave))) else (bif Nat.ble x 188 then (bif Nat.ble x 186 then yX7_farm else (bif Nat.ble x 187 then yX7_walk else yX7_firstOther)) else (bif Nat.ble x 190 then (bif Nat.ble x 189 then yX7_cloudsBy else yX7_tells) else (bif Nat.ble x 191 then yX7_film else yX7_allBy))))) else (bif Nat.ble x 206 then (bif Nat.ble x 199 then (bif Nat.ble x 195 then (bif Nat.ble x 193 then yX7_drawn else (bif Nat.ble x 194 then yX7_chance else yX7_image)) else (bif Nat.ble x 197 then (bif Nat.ble x 196 then yX7_back else yX7_count) else (bif Nat.ble x 198 then yX7_isSheet else yX7_sheet))) else (bif Nat.ble x 202 then (bif Nat.ble x 200 then yX7_cell else (bif Nat.ble x 201 then yX7_copy else yX7_lights)) else (bif Nat.ble x 204 then (bif Nat.ble x 203 then yX7_over else yX7_taken) else (bif Nat.ble x 205 then yL_law else yJ0_length_8abf5)))) else (bif Nat.ble x 213 then (bif Nat.ble x 209 then (bif Nat.ble x 207 then yJ0_charAt_5068e else (bif Nat.ble x 208 then yJ0_coder_7d493 else yJ0_isLatin1_aae02)) else (bif Nat.ble x 211 then (bif Nat.ble x 210 then yJ0_checkIndex_df160 else yJ1_charAt_3b067) else (bif Nat.ble x 212 then yJ2_getChar_3b067 else yJ2_length_9d52b))) else (bif Nat.ble x 216 then (bif Nat.ble x 214 then yJ2_charAt_3b067 else (bif Nat.ble x 215 then yJ2_checkIndex_2214a else yJ3_checkIndex_8e157)) else (bif Nat.ble x 218 then (bif Nat.ble x 217 then yJ6_bitCount_0f7a4 else Lib.Math.abs.name) else (bif Nat.ble x 219 then Lib.Math.max.name else Lib.Math.min.name)))))))) else yL_law
def vYc (x : Nat) : ByteArray := bif Nat.ble x 220 then (bif Nat.ble x 109 then (bif Nat.ble x 54 then (bif Nat.ble x 26 then (bif Nat.ble x 12 then (bif Nat.ble x 5 then (bif Nat.ble x 2 then (bif Nat.ble x 0 then cX0_init else (bif Nat.ble x 1 then cX0_open else cX0_keepNights)) else (bif Nat.ble x 3 then cX0_lightsSeen else (bif Nat.ble x 4 then cX0_nightsOf else cX0_sum))) else (bif Nat.ble x 8 then (bif Nat.ble x 6 then cX0_firstOtherwise else (bif Nat.ble x 7 then cX0_owed else cX0_dueFor)) else (bif Nat.ble x 10 then (bif Nat.ble x 9 then cX0_giveNames else cX0_due) else (bif Nat.ble x 11 then cX0_off else cX0_extra)))) else (bif Nat.ble x 19 then (bif Nat.ble x 15 then (bif Nat.ble x 13 then cX0_bounded else (bif Nat.ble x 14 then cX1_init else cX1_seek)) else (bif Nat.ble x 17 then (bif Nat.ble x 16 then cX1_keep else cX1_most) else (bif Nat.ble x 18 then cX2_init else cX2_append))) else (bif Nat.ble x 22 then (bif Nat.ble x 20 then cX2_empty else (bif Nat.ble x 21 then cX2_read else cX2_readEither)) else (bif Nat.ble x 24 then (bif Nat.ble x 23 then cX2_readBoth else cX2_readNot) else (bif Nat.ble x 25 then cX2_readSum else cX2_readTerm))))) else (bif Nat.ble x 40 then (bif Nat.ble x 33 then (bif Nat.ble x 29 then (bif Nat.ble x 27 then cX2_readOne else (bif Nat.ble x 28 then cX2_opens else cX2_expect)) else (bif Nat.ble x 31 then (bif Nat.ble x 30 then cX2_fail else cX2_advance) else (bif Nat.ble x 32 then cX2_readNumber else cX2_readWord))) else (bif Nat.ble x 36 then (bif Nat.ble x 34 then cX2_isWord else (bif Nat.ble x 35 then cX2_byteAt else cX2_isLetter)) else (bif Nat.ble x 38 then (bif Nat.ble x 37 then cX2_isDigit else cX2_isSign) else (bif Nat.ble x 39 then cX3_init else cX3_become)))) else (bif Nat.ble x 47 then (bif Nat.ble x 43 then (bif Nat.ble x 41 then cX3_has else (bif Nat.ble x 42 then cX3_item else cX3_put)) else (bif Nat.ble x 45 then (bif Nat.ble x 44 then cX4_init else cX4_empty) else (bif Nat.ble x 46 then cX4_add else cX4_addName))) else (bif Nat.ble x 50 then (bif Nat.ble x 48 then cX4_addSign else (bif Nat.ble x 49 then cX4_endPart else cX4_tell)) else (bif Nat.ble x 52 then (bif Nat.ble x 51 then cX4_joined else cX5_init) else (bif Nat.ble x 53 then cX5_become else cX5_addLight)))))) else (bif Nat.ble x 81 then (bif Nat.ble x 67 then (bif Nat.ble x 60 then (bif Nat.ble x 57 then (bif Nat.ble x 55 then cX5_pieceCount else (bif Nat.ble x 56 then cX5_worth else cX6_init)) else (bif Nat.ble x 58 then cX6_set else (bif Nat.ble x 59 then cX6_light else cX6_look))) else (bif Nat.ble x 63 then (bif Nat.ble x 61 then cX6_told else (bif Nat.ble x 62 then cX6_toldOfLooker else cX6_placesOf)) else (bif Nat.ble x 65 then (bif Nat.ble x 64 then cX6_placeCount else cX6_feed) else (bif Nat.ble x 66 then cX6_text else cX6_force)))) else (bif Nat.ble x 74 then (bif Nat.ble x 70 then (bif Nat.ble x 68 then cX6_owes else (bif Nat.ble x 69 then cX6_all else cX6_pieces)) else (bif Nat.ble x 72 then (bif Nat.ble x 71 then cX6_pay else cX6_whoOwesMost) else (bif Nat.ble x 73 then cX6_cheapest else cX6_leave))) else (bif Nat.ble x 77 then (bif Nat.ble x 75 then cX6_farm else (bif Nat.ble x 76 then cX6_walk else cX6_whoOwe)) else (bif Nat.ble x 79 then (bif Nat.ble x 78 then cX6_firstAt else cX6_tells) else (bif Nat.ble x 80 then cX6_textsThatFit else cX6_cloudsThatFit))))) else (bif Nat.ble x 95 then (bif Nat.ble x 88 then (bif Nat.ble x 84 then (bif Nat.ble x 82 then cX6_traitsThatFit else (bif Nat.ble x 83 then cX6_film else cX6_drawn)) else (bif Nat.ble x 86 then (bif Nat.ble x 85 then cX6_chance else cX6_cloudsBy) else (bif Nat.ble x 87 then cX6_commonMeasure else cX6_image))) else (bif Nat.ble x 91 then (bif Nat.ble x 89 then cX6_back else (bif Nat.ble x 90 then cX6_count else cX6_sheet)) else (bif Nat.ble x 93 then (bif Nat.ble x 92 then cX6_cell else cX6_copy) else (bif Nat.ble x 94 then cX6_lights else cX6_taken)))) else (bif Nat.ble x 102 then (bif Nat.ble x 98 then (bif Nat.ble x 96 then cX6_between else (bif Nat.ble x 97 then cX6_isLooker else cX6_isSheet)) else (bif Nat.ble x 100 then (bif Nat.ble x 99 then cX6_isLight else cX6_ruleOf) else (bif Nat.ble x 101 then cX6_openBill else cX6_allOf))) else (bif Nat.ble x 105 then (bif Nat.ble x 103 then cX6_allTogether else (bif Nat.ble x 104 then cX7_in else cX7_within)) else (bif Nat.ble x 107 then (bif Nat.ble x 106 then cX7_apart else cX7_init) else (bif Nat.ble x 108 then cX7_spell else cX7_isLight))))))) else (bif Nat.ble x 164 then (bif Nat.ble x 136 then (bif Nat.ble x 122 then (bif Nat.ble x 115 then (bif Nat.ble x 112 then (bif Nat.ble x 110 then cX7_isLooker else (bif Nat.ble x 111 then cX7_isOf else cX7_mostOf)) else (bif Nat.ble x 113 then cX7_set else (bif Nat.ble x 114 then cX7_lays else cX7_light))) else (bif Nat.ble x 118 then (bif Nat.ble x 116 then cX7_look else (bif Nat.ble x 117 then cX7_told else cX7_feed)) else (bif Nat.ble x 120 then (bif Nat.ble x 119 then cX7_byteAt else cX7_next) else (bif Nat.ble x 121 then cX7_fail else cX7_isLetter)))) else (bif Nat.ble x 129 then (bif Nat.ble x 125 then (bif Nat.ble x 123 then cX7_isWord else (bif Nat.ble x 124 then cX7_isSign else cX7_opens)) else (bif Nat.ble x 127 then (bif Nat.ble x 126 then cX7_name else cX7_atom5) else (bif Nat.ble x 128 then cX7_term5 else cX7_added5))) else (bif Nat.ble x 132 then (bif Nat.ble x 130 then cX7_not5 else (bif Nat.ble x 131 then cX7_both5 else cX7_either5)) else (bif Nat.ble x 134 then (bif Nat.ble x 133 then cX7_atom4 else cX7_term4) else (bif Nat.ble x 135 then cX7_added4 else cX7_not4))))) else (bif Nat.ble x 150 then (bif Nat.ble x 143 then (bif Nat.ble x 139 then (bif Nat.ble x 137 then cX7_both4 else (bif Nat.ble x 138 then cX7_either4 else cX7_atom3)) else (bif Nat.ble x 141 then (bif Nat.ble x 140 then cX7_term3 else cX7_added3) else (bif Nat.ble x 142 then cX7_not3 else cX7_both3))) else (bif Nat.ble x 146 then (bif Nat.ble x 144 then cX7_either3 else (bif Nat.ble x 145 then cX7_atom2 else cX7_term2)) else (bif Nat.ble x 148 then (bif Nat.ble x 147 then cX7_added2 else cX7_not2) else (bif Nat.ble x 149 then cX7_both2 else cX7_either2)))) else (bif Nat.ble x 157 then (bif Nat.ble x 153 then (bif Nat.ble x 151 then cX7_atom1 else (bif Nat.ble x 152 then cX7_term1 else cX7_added1)) else (bif Nat.ble x 155 then (bif Nat.ble x 154 then cX7_not1 else cX7_both1) else (bif Nat.ble x 156 then cX7_either1 else cX7_atom0))) else (bif Nat.ble x 160 then (bif Nat.ble x 158 then cX7_term0 else (bif Nat.ble x 159 then cX7_added0 else cX7_not0)) else (bif Nat.ble x 162 then (bif Nat.ble x 161 then cX7_both0 else cX7_either0) else (bif Nat.ble x 163 then cX7_part else cX7_read)))))) else (bif Nat.ble x 192 then (bif Nat.ble x 178 then (bif Nat.ble x 171 then (bif Nat.ble x 167 then (bif Nat.ble x 165 then cX7_text else (bif Nat.ble x 166 then cX7_force else cX7_bitsOf)) else (bif Nat.ble x 169 then (bif Nat.ble x 168 then cX7_nightsOf else cX7_lightMany) else (bif Nat.ble x 170 then cX7_asks else cX7_dueOf))) else (bif Nat.ble x 174 then (bif Nat.ble x 172 then cX7_offOf else (bif Nat.ble x 173 then cX7_extraOf else cX7_owesFor)) else (bif Nat.ble x 176 then (bif Nat.ble x 175 then cX7_owes else cX7_plainOf) else (bif Nat.ble x 177 then cX7_allOf else cX7_allSum)))) else (bif Nat.ble x 185 then (bif Nat.ble x 181 then (bif Nat.ble x 179 then cX7_all else (bif Nat.ble x 180 then cX7_sums else cX7_fewestFor)) else (bif Nat.ble x 183 then (bif Nat.ble x 182 then cX7_pieces else cX7_pay) else (bif Nat.ble x 184 then cX7_cheapest else cX7_leave))) else (bif Nat.ble x 188 then (bif Nat.ble x 186 then cX7_farm else (bif Nat.ble x 187 then cX7_walk else cX7_firstOther)) else (bif Nat.ble x 190 then (bif Nat.ble x 189 then cX7_cloudsBy else cX7_tells) else (bif Nat.ble x 191 then cX7_film else cX7_allBy))))) else (bif Nat.ble x 206 then (bif Nat.ble x 199 then (bif Nat.ble x 195 then (bif Nat.ble x 193 then cX7_drawn else (bif Nat.ble x 194 then cX7_chance else cX7_image)) else (bif Nat.ble x 197 then (bif Nat.ble x 196 then cX7_back else cX7_count) else (bif Nat.ble x 198 then cX7_isSheet else cX7_sheet))) else (bif Nat.ble x 202 then (bif Nat.ble x 200 then cX7_cell else (bif Nat.ble x 201 then cX7_copy else cX7_lights)) else (bif Nat.ble x 204 then (bif Nat.ble x 203 then cX7_over else cX7_taken) else (bif Nat.ble x 205 then cL_law else cJ0_length_8abf5)))) else (bif Nat.ble x 213 then (bif Nat.ble x 209 then (bif Nat.ble x 207 then cJ0_charAt_5068e else (bif Nat.ble x 208 then cJ0_coder_7d493 else cJ0_isLatin1_aae02)) else (bif Nat.ble x 211 then (bif Nat.ble x 210 then cJ0_checkIndex_df160 else cJ1_charAt_3b067) else (bif Nat.ble x 212 then cJ2_getChar_3b067 else cJ2_length_9d52b))) else (bif Nat.ble x 216 then (bif Nat.ble x 214 then cJ2_charAt_3b067 else (bif Nat.ble x 215 then cJ2_checkIndex_2214a else cJ3_checkIndex_8e157)) else (bif Nat.ble x 218 then (bif Nat.ble x 217 then cJ6_bitCount_0f7a4 else Lib.Math.abs.code) else (bif Nat.ble x 219 then Lib.Math.max.code else Lib.Math.min.code)))))))) else cL_law
def vYl (x : Nat) : Nat := bif Nat.ble x 220 then (bif Nat.ble x 109 then (bif Nat.ble x 54 then (bif Nat.ble x 26 then (bif Nat.ble x 12 then (bif Nat.ble x 5 then (bif Nat.ble x 2 then (bif Nat.ble x 0 then 2 else (bif Nat.ble x 1 then 6 else 3)) else (bif Nat.ble x 3 then 3 else (bif Nat.ble x 4 then 2 else 3))) else (bif Nat.ble x 8 then (bif Nat.ble x 6 then 4 else (bif Nat.ble x 7 then 7 else 4)) else (bif Nat.ble x 10 then (bif Nat.ble x 9 then 3 else 5) else (bif Nat.ble x 11 then 4 else 5)))) else (bif Nat.ble x 19 then (bif Nat.ble x 15 then (bif Nat.ble x 13 then 2 else (bif Nat.ble x 14 then 1 else 12)) else (bif Nat.ble x 17 then (bif Nat.ble x 16 then 5 else 4) else (bif Nat.ble x 18 then 2 else 2))) else (bif Nat.ble x 22 then (bif Nat.ble x 20 then 1 else (bif Nat.ble x 21 then 3 else 3)) else (bif Nat.ble x 24 then (bif Nat.ble x 23 then 3 else 3) else (bif Nat.ble x 25 then 4 else 3))))) else (bif Nat.ble x 40 then (bif Nat.ble x 33 then (bif Nat.ble x 29 then (bif Nat.ble x 27 then 2 else (bif Nat.ble x 28 then 2 else 2)) else (bif Nat.ble x 31 then (bif Nat.ble x 30 then 1 else 2) else (bif Nat.ble x 32 then 1 else 3))) else (bif Nat.ble x 36 then (bif Nat.ble x 34 then 4 else (bif Nat.ble x 35 then 2 else 1)) else (bif Nat.ble x 38 then (bif Nat.ble x 37 then 1 else 1) else (bif Nat.ble x 39 then 1 else 4)))) else (bif Nat.ble x 47 then (bif Nat.ble x 43 then (bif Nat.ble x 41 then 3 else (bif Nat.ble x 42 then 2 else 3)) else (bif Nat.ble x 45 then (bif Nat.ble x 44 then 1 else 1) else (bif Nat.ble x 46 then 2 else 2))) else (bif Nat.ble x 50 then (bif Nat.ble x 48 then 2 else (bif Nat.ble x 49 then 2 else 7)) else (bif Nat.ble x 52 then (bif Nat.ble x 51 then 3 else 1) else (bif Nat.ble x 53 then 2 else 6)))))) else (bif Nat.ble x 81 then (bif Nat.ble x 67 then (bif Nat.ble x 60 then (bif Nat.ble x 57 then (bif Nat.ble x 55 then 3 else (bif Nat.ble x 56 then 3 else 2)) else (bif Nat.ble x 58 then 6 else (bif Nat.ble x 59 then 4 else 6))) else (bif Nat.ble x 63 then (bif Nat.ble x 61 then 4 else (bif Nat.ble x 62 then 3 else 2)) else (bif Nat.ble x 65 then (bif Nat.ble x 64 then 2 else 2) else (bif Nat.ble x 66 then 2 else 3)))) else (bif Nat.ble x 74 then (bif Nat.ble x 70 then (bif Nat.ble x 68 then 4 else (bif Nat.ble x 69 then 2 else 3)) else (bif Nat.ble x 72 then (bif Nat.ble x 71 then 4 else 5) else (bif Nat.ble x 73 then 10 else 8))) else (bif Nat.ble x 77 then (bif Nat.ble x 75 then 4 else (bif Nat.ble x 76 then 9 else 4)) else (bif Nat.ble x 79 then (bif Nat.ble x 78 then 4 else 6) else (bif Nat.ble x 80 then 4 else 4))))) else (bif Nat.ble x 95 then (bif Nat.ble x 88 then (bif Nat.ble x 84 then (bif Nat.ble x 82 then 12 else (bif Nat.ble x 83 then 5 else 2)) else (bif Nat.ble x 86 then (bif Nat.ble x 85 then 7 else 4) else (bif Nat.ble x 87 then 3 else 1))) else (bif Nat.ble x 91 then (bif Nat.ble x 89 then 1 else (bif Nat.ble x 90 then 2 else 4)) else (bif Nat.ble x 93 then (bif Nat.ble x 92 then 5 else 8) else (bif Nat.ble x 94 then 9 else 5)))) else (bif Nat.ble x 102 then (bif Nat.ble x 98 then (bif Nat.ble x 96 then 3 else (bif Nat.ble x 97 then 1 else 1)) else (bif Nat.ble x 100 then (bif Nat.ble x 99 then 2 else 2) else (bif Nat.ble x 101 then 2 else 3))) else (bif Nat.ble x 105 then (bif Nat.ble x 103 then 4 else (bif Nat.ble x 104 then 6 else 3)) else (bif Nat.ble x 107 then (bif Nat.ble x 106 then 2 else 1) else (bif Nat.ble x 108 then 10 else 2))))))) else (bif Nat.ble x 164 then (bif Nat.ble x 136 then (bif Nat.ble x 122 then (bif Nat.ble x 115 then (bif Nat.ble x 112 then (bif Nat.ble x 110 then 1 else (bif Nat.ble x 111 then 3 else 1)) else (bif Nat.ble x 113 then 5 else (bif Nat.ble x 114 then 4 else 5))) else (bif Nat.ble x 118 then (bif Nat.ble x 116 then 5 else (bif Nat.ble x 117 then 3 else 2)) else (bif Nat.ble x 120 then (bif Nat.ble x 119 then 2 else 3) else (bif Nat.ble x 121 then 1 else 3)))) else (bif Nat.ble x 129 then (bif Nat.ble x 125 then (bif Nat.ble x 123 then 9 else (bif Nat.ble x 124 then 2 else 1)) else (bif Nat.ble x 127 then (bif Nat.ble x 126 then 1 else 2) else (bif Nat.ble x 128 then 2 else 4))) else (bif Nat.ble x 132 then (bif Nat.ble x 130 then 4 else (bif Nat.ble x 131 then 3 else 3)) else (bif Nat.ble x 134 then (bif Nat.ble x 133 then 2 else 2) else (bif Nat.ble x 135 then 4 else 4))))) else (bif Nat.ble x 150 then (bif Nat.ble x 143 then (bif Nat.ble x 139 then (bif Nat.ble x 137 then 3 else (bif Nat.ble x 138 then 3 else 2)) else (bif Nat.ble x 141 then (bif Nat.ble x 140 then 2 else 4) else (bif Nat.ble x 142 then 4 else 3))) else (bif Nat.ble x 146 then (bif Nat.ble x 144 then 3 else (bif Nat.ble x 145 then 2 else 2)) else (bif Nat.ble x 148 then (bif Nat.ble x 147 then 4 else 4) else (bif Nat.ble x 149 then 3 else 3)))) else (bif Nat.ble x 157 then (bif Nat.ble x 153 then (bif Nat.ble x 151 then 2 else (bif Nat.ble x 152 then 2 else 4)) else (bif Nat.ble x 155 then (bif Nat.ble x 154 then 4 else 3) else (bif Nat.ble x 156 then 3 else 2))) else (bif Nat.ble x 160 then (bif Nat.ble x 158 then 2 else (bif Nat.ble x 159 then 4 else 4)) else (bif Nat.ble x 162 then (bif Nat.ble x 161 then 3 else 3) else (bif Nat.ble x 163 then 3 else 6)))))) else (bif Nat.ble x 192 then (bif Nat.ble x 178 then (bif Nat.ble x 171 then (bif Nat.ble x 167 then (bif Nat.ble x 165 then 2 else (bif Nat.ble x 166 then 3 else 3)) else (bif Nat.ble x 169 then (bif Nat.ble x 168 then 3 else 4) else (bif Nat.ble x 170 then 5 else 7))) else (bif Nat.ble x 174 then (bif Nat.ble x 172 then 5 else (bif Nat.ble x 173 then 5 else 6)) else (bif Nat.ble x 176 then (bif Nat.ble x 175 then 4 else 4) else (bif Nat.ble x 177 then 2 else 3)))) else (bif Nat.ble x 185 then (bif Nat.ble x 181 then (bif Nat.ble x 179 then 6 else (bif Nat.ble x 180 then 7 else 2)) else (bif Nat.ble x 183 then (bif Nat.ble x 182 then 5 else 8) else (bif Nat.ble x 184 then 8 else 6))) else (bif Nat.ble x 188 then (bif Nat.ble x 186 then 6 else (bif Nat.ble x 187 then 9 else 4)) else (bif Nat.ble x 190 then (bif Nat.ble x 189 then 6 else 13) else (bif Nat.ble x 191 then 4 else 5))))) else (bif Nat.ble x 206 then (bif Nat.ble x 199 then (bif Nat.ble x 195 then (bif Nat.ble x 193 then 2 else (bif Nat.ble x 194 then 13 else 2)) else (bif Nat.ble x 197 then (bif Nat.ble x 196 then 2 else 2) else (bif Nat.ble x 198 then 1 else 5))) else (bif Nat.ble x 202 then (bif Nat.ble x 200 then 4 else (bif Nat.ble x 201 then 9 else 8)) else (bif Nat.ble x 204 then (bif Nat.ble x 203 then 1 else 4) else (bif Nat.ble x 205 then 4 else 1)))) else (bif Nat.ble x 213 then (bif Nat.ble x 209 then (bif Nat.ble x 207 then 2 else (bif Nat.ble x 208 then 1 else 1)) else (bif Nat.ble x 211 then (bif Nat.ble x 210 then 2 else 2) else (bif Nat.ble x 212 then 2 else 1))) else (bif Nat.ble x 216 then (bif Nat.ble x 214 then 2 else (bif Nat.ble x 215 then 2 else 3)) else (bif Nat.ble x 218 then (bif Nat.ble x 217 then 1 else 1) else (bif Nat.ble x 219 then 2 else 2)))))))) else 0
def vYr (x : Nat) : Option FieldType := bif Nat.ble x 220 then (bif Nat.ble x 109 then (bif Nat.ble x 54 then (bif Nat.ble x 26 then (bif Nat.ble x 12 then (bif Nat.ble x 5 then (bif Nat.ble x 2 then (bif Nat.ble x 0 then none else (bif Nat.ble x 1 then none else none)) else (bif Nat.ble x 3 then (some .int) else (bif Nat.ble x 4 then (some .int) else (some .int)))) else (bif Nat.ble x 8 then (bif Nat.ble x 6 then (some .int) else (bif Nat.ble x 7 then (some .int) else (some .int))) else (bif Nat.ble x 10 then (bif Nat.ble x 9 then (some .int) else (some .int)) else (bif Nat.ble x 11 then (some .int) else (some .int))))) else (bif Nat.ble x 19 then (bif Nat.ble x 15 then (bif Nat.ble x 13 then (some .int) else (bif Nat.ble x 14 then none else none)) else (bif Nat.ble x 17 then (bif Nat.ble x 16 then none else (some .int)) else (bif Nat.ble x 18 then none else none))) else (bif Nat.ble x 22 then (bif Nat.ble x 20 then none else (bif Nat.ble x 21 then (some .int) else none)) else (bif Nat.ble x 24 then (bif Nat.ble x 23 then none else none) else (bif Nat.ble x 25 then none else none))))) else (bif Nat.ble x 40 then (bif Nat.ble x 33 then (bif Nat.ble x 29 then (bif Nat.ble x 27 then none else (bif Nat.ble x 28 then (some .boolean) else none)) else (bif Nat.ble x 31 then (bif Nat.ble x 30 then none else none) else (bif Nat.ble x 32 then none else none))) else (bif Nat.ble x 36 then (bif Nat.ble x 34 then (some .boolean) else (bif Nat.ble x 35 then (some .int) else (some .boolean))) else (bif Nat.ble x 38 then (bif Nat.ble x 37 then (some .boolean) else (some .boolean)) else (bif Nat.ble x 39 then none else none)))) else (bif Nat.ble x 47 then (bif Nat.ble x 43 then (bif Nat.ble x 41 then (some .boolean) else (bif Nat.ble x 42 then (some .int) else none)) else (bif Nat.ble x 45 then (bif Nat.ble x 44 then none else none) else (bif Nat.ble x 46 then none else none))) else (bif Nat.ble x 50 then (bif Nat.ble x 48 then none else (bif Nat.ble x 49 then none else (some .int))) else (bif Nat.ble x 52 then (bif Nat.ble x 51 then (some .int) else none) else (bif Nat.ble x 53 then none else (some .int))))))) else (bif Nat.ble x 81 then (bif Nat.ble x 67 then (bif Nat.ble x 60 then (bif Nat.ble x 57 then (bif Nat.ble x 55 then (some .int) else (bif Nat.ble x 56 then (some .int) else none)) else (bif Nat.ble x 58 then (some .int) else (bif Nat.ble x 59 then (some .int) else (some .int)))) else (bif Nat.ble x 63 then (bif Nat.ble x 61 then (some .int) else (bif Nat.ble x 62 then (some .int) else (some (.array .int)))) else (bif Nat.ble x 65 then (bif Nat.ble x 64 then (some .int) else (some .int)) else (bif Nat.ble x 66 then (some .int) else (some .int))))) else (bif Nat.ble x 74 then (bif Nat.ble x 70 then (bif Nat.ble x 68 then (some .int) else (bif Nat.ble x 69 then (some .int) else (some .int))) else (bif Nat.ble x 72 then (bif Nat.ble x 71 then (some .int) else (some .int)) else (bif Nat.ble x 73 then (some .int) else (some .int)))) else (bif Nat.ble x 77 then (bif Nat.ble x 75 then (some .int) else (bif Nat.ble x 76 then (some .int) else (some .int))) else (bif Nat.ble x 79 then (bif Nat.ble x 78 then (some .int) else (some .int)) else (bif Nat.ble x 80 then (some .int) else (some .int)))))) else (bif Nat.ble x 95 then (bif Nat.ble x 88 then (bif Nat.ble x 84 then (bif Nat.ble x 82 then (some .int) else (bif Nat.ble x 83 then (some .int) else (some .int))) else (bif Nat.ble x 86 then (bif Nat.ble x 85 then (some .long) else (some .int)) else (bif Nat.ble x 87 then (some .int) else (some .int)))) else (bif Nat.ble x 91 then (bif Nat.ble x 89 then (some .int) else (bif Nat.ble x 90 then (some .int) else (some .int))) else (bif Nat.ble x 93 then (bif Nat.ble x 92 then (some .int) else (some .int)) else (bif Nat.ble x 94 then (some .int) else (some .int))))) else (bif Nat.ble x 102 then (bif Nat.ble x 98 then (bif Nat.ble x 96 then (some .boolean) else (bif Nat.ble x 97 then (some .boolean) else (some .boolean))) else (bif Nat.ble x 100 then (bif Nat.ble x 99 then (some .boolean) else (some (.object "LightYearsAreOwed$Rule"))) else (bif Nat.ble x 101 then none else (some .int)))) else (bif Nat.ble x 105 then (bif Nat.ble x 103 then (some .int) else (bif Nat.ble x 104 then (some .boolean) else (some .int))) else (bif Nat.ble x 107 then (bif Nat.ble x 106 then (some .int) else none) else (bif Nat.ble x 108 then none else (some .boolean)))))))) else (bif Nat.ble x 164 then (bif Nat.ble x 136 then (bif Nat.ble x 122 then (bif Nat.ble x 115 then (bif Nat.ble x 112 then (bif Nat.ble x 110 then (some .boolean) else (bif Nat.ble x 111 then (some .boolean) else (some .int))) else (bif Nat.ble x 113 then (some .int) else (bif Nat.ble x 114 then none else (some .int)))) else (bif Nat.ble x 118 then (bif Nat.ble x 116 then (some .int) else (bif Nat.ble x 117 then (some .int) else (some .int))) else (bif Nat.ble x 120 then (bif Nat.ble x 119 then (some .int) else none) else (bif Nat.ble x 121 then none else (some .boolean))))) else (bif Nat.ble x 129 then (bif Nat.ble x 125 then (bif Nat.ble x 123 then (some .boolean) else (bif Nat.ble x 124 then (some .boolean) else (some .boolean))) else (bif Nat.ble x 127 then (bif Nat.ble x 126 then (some .int) else (some .int)) else (bif Nat.ble x 128 then (some .int) else (some .int)))) else (bif Nat.ble x 132 then (bif Nat.ble x 130 then (some .int) else (bif Nat.ble x 131 then (some .int) else (some .int))) else (bif Nat.ble x 134 then (bif Nat.ble x 133 then (some .int) else (some .int)) else (bif Nat.ble x 135 then (some .int) else (some .int)))))) else (bif Nat.ble x 150 then (bif Nat.ble x 143 then (bif Nat.ble x 139 then (bif Nat.ble x 137 then (some .int) else (bif Nat.ble x 138 then (some .int) else (some .int))) else (bif Nat.ble x 141 then (bif Nat.ble x 140 then (some .int) else (some .int)) else (bif Nat.ble x 142 then (some .int) else (some .int)))) else (bif Nat.ble x 146 then (bif Nat.ble x 144 then (some .int) else (bif Nat.ble x 145 then (some .int) else (some .int))) else (bif Nat.ble x 148 then (bif Nat.ble x 147 then (some .int) else (some .int)) else (bif Nat.ble x 149 then (some .int) else (some .int))))) else (bif Nat.ble x 157 then (bif Nat.ble x 153 then (bif Nat.ble x 151 then (some .int) else (bif Nat.ble x 152 then (some .int) else (some .int))) else (bif Nat.ble x 155 then (bif Nat.ble x 154 then (some .int) else (some .int)) else (bif Nat.ble x 156 then (some .int) else (some .int)))) else (bif Nat.ble x 160 then (bif Nat.ble x 158 then (some .int) else (bif Nat.ble x 159 then (some .int) else (some .int))) else (bif Nat.ble x 162 then (bif Nat.ble x 161 then (some .int) else (some .int)) else (bif Nat.ble x 163 then (some .int) else (some .int))))))) else (bif Nat.ble x 192 then (bif Nat.ble x 178 then (bif Nat.ble x 171 then (bif Nat.ble x 167 then (bif Nat.ble x 165 then (some .int) else (bif Nat.ble x 166 then (some .int) else (some .int))) else (bif Nat.ble x 169 then (bif Nat.ble x 168 then (some .int) else (some .int)) else (bif Nat.ble x 170 then (some .int) else (some .int)))) else (bif Nat.ble x 174 then (bif Nat.ble x 172 then (some .int) else (bif Nat.ble x 173 then (some .int) else (some .int))) else (bif Nat.ble x 176 then (bif Nat.ble x 175 then (some .int) else (some .int)) else (bif Nat.ble x 177 then (some .int) else (some .int))))) else (bif Nat.ble x 185 then (bif Nat.ble x 181 then (bif Nat.ble x 179 then (some .int) else (bif Nat.ble x 180 then none else (some .int))) else (bif Nat.ble x 183 then (bif Nat.ble x 182 then (some .int) else (some .int)) else (bif Nat.ble x 184 then (some .int) else (some .int)))) else (bif Nat.ble x 188 then (bif Nat.ble x 186 then (some .int) else (bif Nat.ble x 187 then (some .int) else (some .int))) else (bif Nat.ble x 190 then (bif Nat.ble x 189 then (some .int) else (some .int)) else (bif Nat.ble x 191 then (some .int) else (some .int)))))) else (bif Nat.ble x 206 then (bif Nat.ble x 199 then (bif Nat.ble x 195 then (bif Nat.ble x 193 then (some .int) else (bif Nat.ble x 194 then (some .long) else (some .int))) else (bif Nat.ble x 197 then (bif Nat.ble x 196 then (some .int) else (some .int)) else (bif Nat.ble x 198 then (some .boolean) else (some .int)))) else (bif Nat.ble x 202 then (bif Nat.ble x 200 then (some .int) else (bif Nat.ble x 201 then (some .int) else (some .int))) else (bif Nat.ble x 204 then (bif Nat.ble x 203 then (some .int) else (some .int)) else (bif Nat.ble x 205 then (some .boolean) else (some .int))))) else (bif Nat.ble x 213 then (bif Nat.ble x 209 then (bif Nat.ble x 207 then (some .char) else (bif Nat.ble x 208 then (some .byte) else (some .boolean))) else (bif Nat.ble x 211 then (bif Nat.ble x 210 then none else (some .char)) else (bif Nat.ble x 212 then (some .char) else (some .int)))) else (bif Nat.ble x 216 then (bif Nat.ble x 214 then (some .char) else (bif Nat.ble x 215 then none else (some .int))) else (bif Nat.ble x 218 then (bif Nat.ble x 217 then (some .int) else (some .int)) else (bif Nat.ble x 219 then (some .int) else (some .int))))))))) else none
def vYk (x : Nat) : Nat := bif Nat.ble x 220 then (bif Nat.ble x 109 then (bif Nat.ble x 54 then (bif Nat.ble x 26 then (bif Nat.ble x 12 then (bif Nat.ble x 5 then (bif Nat.ble x 2 then (bif Nat.ble x 0 then 0 else (bif Nat.ble x 1 then 0 else 0)) else (bif Nat.ble x 3 then 0 else (bif Nat.ble x 4 then 0 else 0))) else (bif Nat.ble x 8 then (bif Nat.ble x 6 then 0 else (bif Nat.ble x 7 then 0 else 0)) else (bif Nat.ble x 10 then (bif Nat.ble x 9 then 0 else 0) else (bif Nat.ble x 11 then 0 else 0)))) else (bif Nat.ble x 19 then (bif Nat.ble x 15 then (bif Nat.ble x 13 then 0 else (bif Nat.ble x 14 then 1 else 1)) else (bif Nat.ble x 17 then (bif Nat.ble x 16 then 1 else 1) else (bif Nat.ble x 18 then 2 else 2))) else (bif Nat.ble x 22 then (bif Nat.ble x 20 then 2 else (bif Nat.ble x 21 then 2 else 2)) else (bif Nat.ble x 24 then (bif Nat.ble x 23 then 2 else 2) else (bif Nat.ble x 25 then 2 else 2))))) else (bif Nat.ble x 40 then (bif Nat.ble x 33 then (bif Nat.ble x 29 then (bif Nat.ble x 27 then 2 else (bif Nat.ble x 28 then 2 else 2)) else (bif Nat.ble x 31 then (bif Nat.ble x 30 then 2 else 2) else (bif Nat.ble x 32 then 2 else 2))) else (bif Nat.ble x 36 then (bif Nat.ble x 34 then 2 else (bif Nat.ble x 35 then 2 else 2)) else (bif Nat.ble x 38 then (bif Nat.ble x 37 then 2 else 2) else (bif Nat.ble x 39 then 3 else 3)))) else (bif Nat.ble x 47 then (bif Nat.ble x 43 then (bif Nat.ble x 41 then 3 else (bif Nat.ble x 42 then 3 else 3)) else (bif Nat.ble x 45 then (bif Nat.ble x 44 then 4 else 4) else (bif Nat.ble x 46 then 4 else 4))) else (bif Nat.ble x 50 then (bif Nat.ble x 48 then 4 else (bif Nat.ble x 49 then 4 else 4)) else (bif Nat.ble x 52 then (bif Nat.ble x 51 then 4 else 5) else (bif Nat.ble x 53 then 5 else 5)))))) else (bif Nat.ble x 81 then (bif Nat.ble x 67 then (bif Nat.ble x 60 then (bif Nat.ble x 57 then (bif Nat.ble x 55 then 5 else (bif Nat.ble x 56 then 5 else 6)) else (bif Nat.ble x 58 then 6 else (bif Nat.ble x 59 then 6 else 6))) else (bif Nat.ble x 63 then (bif Nat.ble x 61 then 6 else (bif Nat.ble x 62 then 6 else 6)) else (bif Nat.ble x 65 then (bif Nat.ble x 64 then 6 else 6) else (bif Nat.ble x 66 then 6 else 6)))) else (bif Nat.ble x 74 then (bif Nat.ble x 70 then (bif Nat.ble x 68 then 6 else (bif Nat.ble x 69 then 6 else 6)) else (bif Nat.ble x 72 then (bif Nat.ble x 71 then 6 else 6) else (bif Nat.ble x 73 then 6 else 6))) else (bif Nat.ble x 77 then (bif Nat.ble x 75 then 6 else (bif Nat.ble x 76 then 6 else 6)) else (bif Nat.ble x 79 then (bif Nat.ble x 78 then 6 else 6) else (bif Nat.ble x 80 then 6 else 6))))) else (bif Nat.ble x 95 then (bif Nat.ble x 88 then (bif Nat.ble x 84 then (bif Nat.ble x 82 then 6 else (bif Nat.ble x 83 then 6 else 6)) else (bif Nat.ble x 86 then (bif Nat.ble x 85 then 6 else 6) else (bif Nat.ble x 87 then 6 else 6))) else (bif Nat.ble x 91 then (bif Nat.ble x 89 then 6 else (bif Nat.ble x 90 then 6 else 6)) else (bif Nat.ble x 93 then (bif Nat.ble x 92 then 6 else 6) else (bif Nat.ble x 94 then 6 else 6)))) else (bif Nat.ble x 102 then (bif Nat.ble x 98 then (bif Nat.ble x 96 then 6 else (bif Nat.ble x 97 then 6 else 6)) else (bif Nat.ble x 100 then (bif Nat.ble x 99 then 6 else 6) else (bif Nat.ble x 101 then 6 else 6))) else (bif Nat.ble x 105 then (bif Nat.ble x 103 then 6 else (bif Nat.ble x 104 then 7 else 7)) else (bif Nat.ble x 107 then (bif Nat.ble x 106 then 7 else 7) else (bif Nat.ble x 108 then 7 else 7))))))) else (bif Nat.ble x 164 then (bif Nat.ble x 136 then (bif Nat.ble x 122 then (bif Nat.ble x 115 then (bif Nat.ble x 112 then (bif Nat.ble x 110 then 7 else (bif Nat.ble x 111 then 7 else 7)) else (bif Nat.ble x 113 then 7 else (bif Nat.ble x 114 then 7 else 7))) else (bif Nat.ble x 118 then (bif Nat.ble x 116 then 7 else (bif Nat.ble x 117 then 7 else 7)) else (bif Nat.ble x 120 then (bif Nat.ble x 119 then 7 else 7) else (bif Nat.ble x 121 then 7 else 7)))) else (bif Nat.ble x 129 then (bif Nat.ble x 125 then (bif Nat.ble x 123 then 7 else (bif Nat.ble x 124 then 7 else 7)) else (bif Nat.ble x 127 then (bif Nat.ble x 126 then 7 else 7) else (bif Nat.ble x 128 then 7 else 7))) else (bif Nat.ble x 132 then (bif Nat.ble x 130 then 7 else (bif Nat.ble x 131 then 7 else 7)) else (bif Nat.ble x 134 then (bif Nat.ble x 133 then 7 else 7) else (bif Nat.ble x 135 then 7 else 7))))) else (bif Nat.ble x 150 then (bif Nat.ble x 143 then (bif Nat.ble x 139 then (bif Nat.ble x 137 then 7 else (bif Nat.ble x 138 then 7 else 7)) else (bif Nat.ble x 141 then (bif Nat.ble x 140 then 7 else 7) else (bif Nat.ble x 142 then 7 else 7))) else (bif Nat.ble x 146 then (bif Nat.ble x 144 then 7 else (bif Nat.ble x 145 then 7 else 7)) else (bif Nat.ble x 148 then (bif Nat.ble x 147 then 7 else 7) else (bif Nat.ble x 149 then 7 else 7)))) else (bif Nat.ble x 157 then (bif Nat.ble x 153 then (bif Nat.ble x 151 then 7 else (bif Nat.ble x 152 then 7 else 7)) else (bif Nat.ble x 155 then (bif Nat.ble x 154 then 7 else 7) else (bif Nat.ble x 156 then 7 else 7))) else (bif Nat.ble x 160 then (bif Nat.ble x 158 then 7 else (bif Nat.ble x 159 then 7 else 7)) else (bif Nat.ble x 162 then (bif Nat.ble x 161 then 7 else 7) else (bif Nat.ble x 163 then 7 else 7)))))) else (bif Nat.ble x 192 then (bif Nat.ble x 178 then (bif Nat.ble x 171 then (bif Nat.ble x 167 then (bif Nat.ble x 165 then 7 else (bif Nat.ble x 166 then 7 else 7)) else (bif Nat.ble x 169 then (bif Nat.ble x 168 then 7 else 7) else (bif Nat.ble x 170 then 7 else 7))) else (bif Nat.ble x 174 then (bif Nat.ble x 172 then 7 else (bif Nat.ble x 173 then 7 else 7)) else (bif Nat.ble x 176 then (bif Nat.ble x 175 then 7 else 7) else (bif Nat.ble x 177 then 7 else 7)))) else (bif Nat.ble x 185 then (bif Nat.ble x 181 then (bif Nat.ble x 179 then 7 else (bif Nat.ble x 180 then 7 else 7)) else (bif Nat.ble x 183 then (bif Nat.ble x 182 then 7 else 7) else (bif Nat.ble x 184 then 7 else 7))) else (bif Nat.ble x 188 then (bif Nat.ble x 186 then 7 else (bif Nat.ble x 187 then 7 else 7)) else (bif Nat.ble x 190 then (bif Nat.ble x 189 then 7 else 7) else (bif Nat.ble x 191 then 7 else 7))))) else (bif Nat.ble x 206 then (bif Nat.ble x 199 then (bif Nat.ble x 195 then (bif Nat.ble x 193 then 7 else (bif Nat.ble x 194 then 7 else 7)) else (bif Nat.ble x 197 then (bif Nat.ble x 196 then 7 else 7) else (bif Nat.ble x 198 then 7 else 7))) else (bif Nat.ble x 202 then (bif Nat.ble x 200 then 7 else (bif Nat.ble x 201 then 7 else 7)) else (bif Nat.ble x 204 then (bif Nat.ble x 203 then 7 else 7) else (bif Nat.ble x 205 then 8 else 9)))) else (bif Nat.ble x 213 then (bif Nat.ble x 209 then (bif Nat.ble x 207 then 9 else (bif Nat.ble x 208 then 9 else 9)) else (bif Nat.ble x 211 then (bif Nat.ble x 210 then 9 else 10) else (bif Nat.ble x 212 then 11 else 11))) else (bif Nat.ble x 216 then (bif Nat.ble x 214 then 11 else (bif Nat.ble x 215 then 11 else 12)) else (bif Nat.ble x 218 then (bif Nat.ble x 217 then 13 else 14) else (bif Nat.ble x 219 then 14 else 14)))))))) else 99
abbrev iX0_init : Nat := 0
abbrev iX0_open : Nat := 1
abbrev iX0_keepNights : Nat := 2
abbrev iX0_lightsSeen : Nat := 3
abbrev iX0_nightsOf : Nat := 4
abbrev iX0_sum : Nat := 5
abbrev iX0_firstOtherwise : Nat := 6
abbrev iX0_owed : Nat := 7
abbrev iX0_dueFor : Nat := 8
abbrev iX0_giveNames : Nat := 9
abbrev iX0_due : Nat := 10
abbrev iX0_off : Nat := 11
abbrev iX0_extra : Nat := 12
abbrev iX0_bounded : Nat := 13
abbrev iX1_init : Nat := 14
abbrev iX1_seek : Nat := 15
abbrev iX1_keep : Nat := 16
abbrev iX1_most : Nat := 17
abbrev iX2_init : Nat := 18
abbrev iX2_append : Nat := 19
abbrev iX2_empty : Nat := 20
abbrev iX2_read : Nat := 21
abbrev iX2_readEither : Nat := 22
abbrev iX2_readBoth : Nat := 23
abbrev iX2_readNot : Nat := 24
abbrev iX2_readSum : Nat := 25
abbrev iX2_readTerm : Nat := 26
abbrev iX2_readOne : Nat := 27
abbrev iX2_opens : Nat := 28
abbrev iX2_expect : Nat := 29
abbrev iX2_fail : Nat := 30
abbrev iX2_advance : Nat := 31
abbrev iX2_readNumber : Nat := 32
abbrev iX2_readWord : Nat := 33
abbrev iX2_isWord : Nat := 34
abbrev iX2_byteAt : Nat := 35
abbrev iX2_isLetter : Nat := 36
abbrev iX2_isDigit : Nat := 37
abbrev iX2_isSign : Nat := 38
abbrev iX3_init : Nat := 39
abbrev iX3_become : Nat := 40
abbrev iX3_has : Nat := 41
abbrev iX3_item : Nat := 42
abbrev iX3_put : Nat := 43
abbrev iX4_init : Nat := 44
abbrev iX4_empty : Nat := 45
abbrev iX4_add : Nat := 46
abbrev iX4_addName : Nat := 47
abbrev iX4_addSign : Nat := 48
abbrev iX4_endPart : Nat := 49
abbrev iX4_tell : Nat := 50
abbrev iX4_joined : Nat := 51
abbrev iX5_init : Nat := 52
abbrev iX5_become : Nat := 53
abbrev iX5_addLight : Nat := 54
abbrev iX5_pieceCount : Nat := 55
abbrev iX5_worth : Nat := 56
abbrev iX6_init : Nat := 57
abbrev iX6_set : Nat := 58
abbrev iX6_light : Nat := 59
abbrev iX6_look : Nat := 60
abbrev iX6_told : Nat := 61
abbrev iX6_toldOfLooker : Nat := 62
abbrev iX6_placesOf : Nat := 63
abbrev iX6_placeCount : Nat := 64
abbrev iX6_feed : Nat := 65
abbrev iX6_text : Nat := 66
abbrev iX6_force : Nat := 67
abbrev iX6_owes : Nat := 68
abbrev iX6_all : Nat := 69
abbrev iX6_pieces : Nat := 70
abbrev iX6_pay : Nat := 71
abbrev iX6_whoOwesMost : Nat := 72
abbrev iX6_cheapest : Nat := 73
abbrev iX6_leave : Nat := 74
abbrev iX6_farm : Nat := 75
abbrev iX6_walk : Nat := 76
abbrev iX6_whoOwe : Nat := 77
abbrev iX6_firstAt : Nat := 78
abbrev iX6_tells : Nat := 79
abbrev iX6_textsThatFit : Nat := 80
abbrev iX6_cloudsThatFit : Nat := 81
abbrev iX6_traitsThatFit : Nat := 82
abbrev iX6_film : Nat := 83
abbrev iX6_drawn : Nat := 84
abbrev iX6_chance : Nat := 85
abbrev iX6_cloudsBy : Nat := 86
abbrev iX6_commonMeasure : Nat := 87
abbrev iX6_image : Nat := 88
abbrev iX6_back : Nat := 89
abbrev iX6_count : Nat := 90
abbrev iX6_sheet : Nat := 91
abbrev iX6_cell : Nat := 92
abbrev iX6_copy : Nat := 93
abbrev iX6_lights : Nat := 94
abbrev iX6_taken : Nat := 95
abbrev iX6_between : Nat := 96
abbrev iX6_isLooker : Nat := 97
abbrev iX6_isSheet : Nat := 98
abbrev iX6_isLight : Nat := 99
abbrev iX6_ruleOf : Nat := 100
abbrev iX6_openBill : Nat := 101
abbrev iX6_allOf : Nat := 102
abbrev iX6_allTogether : Nat := 103
abbrev iX7_in : Nat := 104
abbrev iX7_within : Nat := 105
abbrev iX7_apart : Nat := 106
abbrev iX7_init : Nat := 107
abbrev iX7_spell : Nat := 108
abbrev iX7_isLight : Nat := 109
abbrev iX7_isLooker : Nat := 110
abbrev iX7_isOf : Nat := 111
abbrev iX7_mostOf : Nat := 112
abbrev iX7_set : Nat := 113
abbrev iX7_lays : Nat := 114
abbrev iX7_light : Nat := 115
abbrev iX7_look : Nat := 116
abbrev iX7_told : Nat := 117
abbrev iX7_feed : Nat := 118
abbrev iX7_byteAt : Nat := 119
abbrev iX7_next : Nat := 120
abbrev iX7_fail : Nat := 121
abbrev iX7_isLetter : Nat := 122
abbrev iX7_isWord : Nat := 123
abbrev iX7_isSign : Nat := 124
abbrev iX7_opens : Nat := 125
abbrev iX7_name : Nat := 126
abbrev iX7_atom5 : Nat := 127
abbrev iX7_term5 : Nat := 128
abbrev iX7_added5 : Nat := 129
abbrev iX7_not5 : Nat := 130
abbrev iX7_both5 : Nat := 131
abbrev iX7_either5 : Nat := 132
abbrev iX7_atom4 : Nat := 133
abbrev iX7_term4 : Nat := 134
abbrev iX7_added4 : Nat := 135
abbrev iX7_not4 : Nat := 136
abbrev iX7_both4 : Nat := 137
abbrev iX7_either4 : Nat := 138
abbrev iX7_atom3 : Nat := 139
abbrev iX7_term3 : Nat := 140
abbrev iX7_added3 : Nat := 141
abbrev iX7_not3 : Nat := 142
abbrev iX7_both3 : Nat := 143
abbrev iX7_either3 : Nat := 144
abbrev iX7_atom2 : Nat := 145
abbrev iX7_term2 : Nat := 146
abbrev iX7_added2 : Nat := 147
abbrev iX7_not2 : Nat := 148
abbrev iX7_both2 : Nat := 149
abbrev iX7_either2 : Nat := 150
abbrev iX7_atom1 : Nat := 151
abbrev iX7_term1 : Nat := 152
abbrev iX7_added1 : Nat := 153
abbrev iX7_not1 : Nat := 154
abbrev iX7_both1 : Nat := 155
abbrev iX7_either1 : Nat := 156
abbrev iX7_atom0 : Nat := 157
abbrev iX7_term0 : Nat := 158
abbrev iX7_added0 : Nat := 159
abbrev iX7_not0 : Nat := 160
abbrev iX7_both0 : Nat := 161
abbrev iX7_either0 : Nat := 162
abbrev iX7_part : Nat := 163
abbrev iX7_read : Nat := 164
abbrev iX7_text : Nat := 165
abbrev iX7_force : Nat := 166
abbrev iX7_bitsOf : Nat := 167
abbrev iX7_nightsOf : Nat := 168
abbrev iX7_lightMany : Nat := 169
abbrev iX7_asks : Nat := 170
abbrev iX7_dueOf : Nat := 171
abbrev iX7_offOf : Nat := 172
abbrev iX7_extraOf : Nat := 173
abbrev iX7_owesFor : Nat := 174
abbrev iX7_owes : Nat := 175
abbrev iX7_plainOf : Nat := 176
abbrev iX7_allOf : Nat := 177
abbrev iX7_allSum : Nat := 178
abbrev iX7_all : Nat := 179
abbrev iX7_sums : Nat := 180
abbrev iX7_fewestFor : Nat := 181
abbrev iX7_pieces : Nat := 182
abbrev iX7_pay : Nat := 183
abbrev iX7_cheapest : Nat := 184
abbrev iX7_leave : Nat := 185
abbrev iX7_farm : Nat := 186
abbrev iX7_walk : Nat := 187
abbrev iX7_firstOther : Nat := 188
abbrev iX7_cloudsBy : Nat := 189
abbrev iX7_tells : Nat := 190
abbrev iX7_film : Nat := 191
abbrev iX7_allBy : Nat := 192
abbrev iX7_drawn : Nat := 193
abbrev iX7_chance : Nat := 194
abbrev iX7_image : Nat := 195
abbrev iX7_back : Nat := 196
abbrev iX7_count : Nat := 197
abbrev iX7_isSheet : Nat := 198
abbrev iX7_sheet : Nat := 199
abbrev iX7_cell : Nat := 200
abbrev iX7_copy : Nat := 201
abbrev iX7_lights : Nat := 202
abbrev iX7_over : Nat := 203
abbrev iX7_taken : Nat := 204
abbrev iL_law : Nat := 205
abbrev iJ0_length_8abf5 : Nat := 206
abbrev iJ0_charAt_5068e : Nat := 207
abbrev iJ0_coder_7d493 : Nat := 208
abbrev iJ0_isLatin1_aae02 : Nat := 209
abbrev iJ0_checkIndex_df160 : Nat := 210
abbrev iJ1_charAt_3b067 : Nat := 211
abbrev iJ2_getChar_3b067 : Nat := 212
abbrev iJ2_length_9d52b : Nat := 213
abbrev iJ2_charAt_3b067 : Nat := 214
abbrev iJ2_checkIndex_2214a : Nat := 215
abbrev iJ3_checkIndex_8e157 : Nat := 216
abbrev iJ6_bitCount_0f7a4 : Nat := 217
abbrev iJ9_abs : Nat := 218
abbrev iJ9_max : Nat := 219
abbrev iJ9_min : Nat := 220
def vSw : List (Nat × Nat × List (Int32 × Nat) × Nat) := [(10, 14, [(1, 48), (2, 59), (3, 70), (4, 95), (5, 116)], 118), (11, 13, [(2, 40), (3, 55), (4, 40)], 57), (12, 14, [(1, 48), (2, 72), (3, 48), (4, 59), (5, 70)], 72), (51, 1, [(9, 60), (10, 74), (43, 110), (45, 114), (60, 88), (61, 99)], 118), (62, 11, [(7, 36), (8, 46), (9, 59)], 72), (63, 1, [(1, 40), (2, 48), (3, 56), (4, 64), (5, 72), (6, 80)], 88), (64, 1, [(3, 28), (4, 30), (5, 30)], 32), (69, 1, [(0, 28), (1, 40), (2, 45)], 53), (79, 104, [(0, 132), (1, 143), (2, 150)], 157), (90, 1, [(0, 40), (1, 48), (2, 59), (3, 67), (4, 72), (5, 80)], 88), (205, 33, [(0, 156), (1, 199), (2, 242), (3, 285), (4, 318), (5, 341), (6, 354), (7, 377), (8, 420), (9, 443), (10, 476), (11, 499), (12, 542), (13, 575), (14, 608), (15, 651), (16, 694), (17, 727), (18, 750), (19, 804), (20, 817), (21, 830), (22, 853), (23, 896), (24, 939), (25, 1002), (26, 1055)], 1088)]
def vPf0 : List (Nat × (Nat × Nat × Nat)) := [(9, (0, 2, 75)), (15, (0, 3, 76)), (18, (0, 4, 77)), (21, (0, 5, 78)), (24, (0, 7, 79)), (27, (0, 8, 80)), (30, (0, 1, 81)), (34, (5, 0, 645)), (40, (0, 0, 646)), (41, (5, 2, 647)), (50, (0, 6, 651)), (51, (5, 3, 652)), (52, (5, 4, 653)), (53, (5, 5, 654)), (54, (5, 6, 655)), (72, (4, 0, 664))]
def vPf1 : List (Nat × (Nat × Nat × Nat)) := [(9, (1, 2, 54)), (15, (1, 0, 785)), (19, (1, 1, 786))]
def vPf2 : List (Nat × (Nat × Nat × Nat)) := [(9, (2, 1, 69)), (15, (2, 2, 70)), (19, (2, 0, 135)), (28, (2, 3, 140)), (31, (2, 5, 141)), (47, (2, 6, 142)), (75, (2, 7, 165)), (84, (2, 4, 153))]
def vPf3 : List (Nat × (Nat × Nat × Nat)) := [(9, (3, 0, 63)), (15, (3, 2, 64)), (28, (3, 1, 892))]
def vPf4 : List (Nat × (Nat × Nat × Nat)) := [(9, (4, 1, 58)), (15, (4, 2, 59)), (18, (4, 3, 147)), (22, (4, 0, 148))]
def vPf5 : List (Nat × (Nat × Nat × Nat)) := [(9, (5, 3, 43)), (15, (5, 4, 44)), (18, (5, 5, 45)), (21, (5, 6, 46)), (24, (5, 7, 47)), (27, (5, 8, 48)), (30, (5, 9, 49)), (33, (5, 10, 50)), (36, (5, 0, 989)), (40, (5, 1, 990)), (43, (5, 2, 591))]
def vPf6 : List (Nat × (Nat × Nat × Nat)) := [(10, (6, 0, 15)), (16, (6, 1, 16)), (21, (6, 3, 18)), (28, (6, 7, 22)), (34, (6, 8, 24)), (40, (5, 9, 29)), (49, (6, 5, 33)), (56, (6, 6, 37)), (83, (6, 4, 38)), (93, (5, 0, 280)), (119, (5, 6, 601)), (126, (5, 8, 622)), (138, (5, 4, 285)), (141, (5, 5, 286)), (144, (5, 7, 287)), (147, (5, 10, 288)), (150, (5, 3, 289)), (153, (5, 2, 294)), (156, (2, 0, 709)), (159, (5, 1, 636)), (184, (1, 0, 779)), (187, (1, 1, 780)), (190, (1, 2, 812)), (193, (0, 5, 821)), (194, (0, 0, 627)), (227, (3, 0, 879)), (230, (3, 1, 880)), (250, (0, 1, 897)), (253, (0, 2, 906)), (254, (0, 3, 907)), (255, (0, 4, 908)), (278, (6, 2, 984)), (289, (3, 2, 1038))]
def vPf7 : List (Nat × (Nat × Nat × Nat)) := [(13, (7, 1, 243)), (17, (7, 2, 244)), (20, (7, 5, 245)), (23, (7, 8, 246)), (26, (7, 9, 247)), (29, (7, 10, 248)), (32, (7, 12, 249)), (35, (7, 13, 250)), (38, (7, 14, 251)), (41, (7, 15, 252)), (44, (7, 16, 253)), (47, (7, 32, 254)), (50, (7, 35, 255)), (53, (7, 36, 256)), (56, (7, 37, 257)), (59, (7, 38, 258)), (62, (7, 39, 259)), (65, (7, 40, 260)), (68, (7, 41, 261)), (71, (7, 42, 262)), (74, (7, 43, 263)), (77, (7, 46, 265)), (81, (7, 47, 266)), (84, (7, 48, 267)), (87, (7, 49, 268)), (94, (7, 3, 269)), (97, (7, 11, 312)), (133, (7, 7, 325)), (136, (7, 4, 360)), (153, (7, 6, 715)), (156, (7, 24, 370)), (159, (7, 23, 369)), (162, (7, 25, 371)), (168, (7, 27, 379)), (171, (7, 26, 374)), (182, (7, 28, 384)), (188, (7, 30, 373)), (192, (7, 31, 406)), (198, (7, 29, 372)), (211, (7, 17, 354)), (214, (7, 18, 355)), (217, (7, 19, 356)), (220, (7, 20, 357)), (223, (7, 21, 358)), (226, (7, 22, 359)), (403, (7, 33, 826)), (406, (7, 34, 827)), (438, (7, 44, 999)), (441, (7, 45, 1000))]
def vPf (c : Nat) : List (Nat × (Nat × Nat × Nat)) := match c with
  | 0 => vPf0
  | 1 => vPf1
  | 2 => vPf2
  | 3 => vPf3
  | 4 => vPf4
  | 5 => vPf5
  | 6 => vPf6
  | 7 => vPf7
  | _ => []
def vPm0 : List (Nat × (Nat × Nat × Nat × List Nat)) := [(44, (221, 2, 5, [648])), (55, (217, 1, 0, [670, 671, 672])), (61, (7, 2, 1, [660, 661, 662, 36])), (64, (42, 2, 1, [888, 889, 890, 28])), (69, (9, 2, 1, [666, 667, 668, 36])), (78, (50, 4, 1, [681, 682, 683, 26])), (82, (10, 4, 1, [688, 689, 690, 36])), (86, (12, 4, 1, [695, 696, 697, 36])), (89, (11, 3, 1, [699, 700, 701, 36])), (92, (221, 2, 4, [665])), (95, (3, 1, 1, [677, 678, 679, 36])), (99, (13, 2, 0, [692, 693, 36]))]
def vPm1 : List (Nat × (Nat × Nat × Nat × List Nat)) := [(22, (17, 4, 0, [788, 789, 21])), (26, (221, 2, 5, [787])), (32, (16, 5, 1, [791, 792, 793, 21]))]
def vPm2 : List (Nat × (Nat × Nat × Nat × List Nat)) := [(23, (45, 1, 1, [143, 144, 145, 26])), (34, (31, 1, 1, [149, 150, 151, 32])), (37, (29, 2, 1, [182, 183, 184, 32])), (41, (22, 2, 1, [190, 191, 192, 32])), (44, (49, 2, 1, [231, 232, 233, 26])), (50, (30, 1, 1, [186, 187, 188, 32])), (53, (23, 2, 1, [194, 195, 196, 32])), (56, (48, 2, 1, [197, 198, 199, 26])), (59, (24, 2, 1, [206, 207, 208, 32])), (62, (28, 2, 1, [210, 211, 212, 32])), (66, (25, 2, 1, [214, 215, 216, 32])), (69, (26, 2, 1, [227, 228, 229, 32])), (72, (27, 2, 1, [223, 224, 225, 32])), (78, (46, 2, 1, [218, 202, 203, 26])), (81, (47, 2, 1, [219, 220, 221, 26])), (87, (35, 2, 1, [154, 155, 156, 32])), (91, (36, 1, 0, [158, 159, 32])), (94, (33, 1, 1, [161, 162, 163, 32])), (97, (37, 1, 0, [172, 173, 32])), (100, (32, 1, 1, [175, 176, 177, 32])), (103, (38, 1, 0, [179, 180, 32])), (108, (206, 1, 1, [166, 83, 84, 85])), (114, (207, 2, 1, [167, 95, 96, 85])), (118, (34, 3, 1, [168, 169, 170, 32]))]
def vPm3 : List (Nat × (Nat × Nat × Nat × List Nat)) := [(19, (221, 2, 5, [934])), (25, (221, 2, 4, [935]))]
def vPm4 : List (Nat × (Nat × Nat × Nat × List Nat)) := [(26, (46, 2, 1, [201, 202, 203, 26])), (30, (51, 3, 0, [685, 686, 26]))]
def vPm5 : List (Nat × (Nat × Nat × Nat × List Nat)) := [(46, (221, 5, 3, [991]))]
def vPm6 : List (Nat × (Nat × Nat × Nat × List Nat)) := [(46, (18, 2, 2, [65])), (55, (0, 2, 2, [71])), (62, (206, 1, 1, [82, 83, 84, 85])), (68, (207, 2, 1, [94, 95, 96, 85])), (72, (19, 2, 1, [131, 132, 133, 32])), (76, (21, 2, 1, [136, 137, 138, 32])), (80, (20, 1, 1, [235, 236, 237, 32])), (96, (63, 2, 1, [281, 282, 283, 2])), (100, (64, 2, 1, [290, 291, 292, 2])), (104, (96, 3, 0, [584, 585, 2])), (108, (54, 4, 1, [587, 588, 589, 14])), (112, (97, 1, 0, [602, 603, 2])), (116, (99, 2, 1, [605, 606, 607, 2])), (122, (62, 3, 1, [618, 619, 620, 2])), (129, (102, 3, 1, [623, 624, 625, 2])), (132, (101, 2, 1, [632, 633, 634, 2])), (135, (3, 1, 1, [703, 678, 679, 36])), (162, (7, 2, 1, [736, 661, 662, 36])), (165, (4, 2, 1, [737, 738, 739, 36])), (168, (8, 3, 1, [741, 742, 743, 36])), (171, (103, 2, 1, [754, 755, 756, 2])), (174, (72, 1, 1, [758, 759, 760, 2])), (177, (56, 1, 1, [762, 763, 764, 14])), (180, (15, 4, 1, [781, 782, 783, 21])), (195, (5, 1, 1, [656, 657, 658, 36])), (199, (2, 2, 1, [841, 842, 843, 36])), (202, (77, 2, 1, [858, 859, 860, 2])), (205, (217, 1, 0, [862, 671, 672])), (210, (221, 2, 5, [854])), (215, (221, 2, 4, [628])), (218, (221, 1, 6, [855])), (221, (78, 3, 1, [863, 864, 865, 2])), (224, (98, 1, 0, [881, 882, 2])), (231, (6, 3, 1, [884, 885, 886, 36])), (235, (80, 2, 1, [893, 894, 895, 2])), (239, (81, 2, 1, [898, 899, 900, 2])), (242, (82, 4, 1, [902, 903, 904, 2])), (246, (100, 2, 1, [637, 638, 639, 2])), (256, (42, 2, 1, [909, 889, 890, 28])), (259, (40, 3, 1, [930, 931, 932, 28])), (263, (43, 3, 1, [936, 937, 938, 28])), (266, (86, 1, 0, [953, 954, 2])), (271, (87, 2, 0, [971, 972, 2])), (275, (53, 2, 1, [985, 986, 987, 14])), (282, (55, 1, 1, [1013, 1014, 1015, 14])), (285, (41, 3, 1, [1040, 1041, 1042, 28])), (292, (221, 5, 3, [1039])), (298, (59, 4, 1, [1052, 581, 582, 2])), (304, (1, 4, 1, [641, 642, 643, 36]))]
def vPm7 : List (Nat × (Nat × Nat × Nat × List Nat)) := [(90, (108, 10, 1, [270, 271, 272, 5])), (100, (104, 3, 0, [300, 301, 5])), (106, (109, 2, 1, [308, 309, 310, 5])), (112, (110, 1, 0, [313, 314, 5])), (117, (111, 3, 1, [303, 304, 305, 5])), (121, (112, 1, 0, [317, 318, 5])), (125, (117, 3, 1, [320, 321, 322, 5])), (129, (114, 4, 1, [576, 577, 578, 5])), (145, (177, 2, 1, [326, 327, 328, 5])), (148, (169, 2, 1, [361, 362, 363, 5])), (165, (119, 2, 1, [386, 387, 388, 5])), (195, (122, 3, 1, [394, 395, 396, 5])), (201, (121, 1, 1, [402, 403, 404, 5])), (204, (120, 1, 1, [375, 376, 377, 5])), (207, (123, 9, 1, [390, 391, 392, 5])), (229, (124, 2, 1, [457, 458, 459, 5])), (232, (125, 1, 1, [420, 421, 422, 5])), (236, (126, 1, 1, [461, 462, 463, 5])), (240, (127, 1, 1, [453, 454, 455, 5])), (243, (128, 1, 1, [449, 450, 451, 5])), (248, (129, 1, 1, [444, 445, 446, 5])), (253, (130, 1, 1, [440, 441, 442, 5])), (256, (131, 1, 1, [481, 482, 483, 5])), (259, (132, 1, 1, [477, 478, 479, 5])), (262, (133, 1, 1, [473, 474, 475, 5])), (265, (134, 1, 1, [469, 470, 471, 5])), (268, (135, 1, 1, [465, 466, 467, 5])), (271, (136, 1, 1, [436, 437, 438, 5])), (274, (137, 1, 1, [501, 502, 503, 5])), (277, (138, 1, 1, [497, 498, 499, 5])), (280, (139, 1, 1, [493, 494, 495, 5])), (283, (140, 1, 1, [489, 490, 491, 5])), (286, (141, 1, 1, [485, 486, 487, 5])), (289, (142, 1, 1, [432, 433, 434, 5])), (292, (143, 1, 1, [521, 522, 523, 5])), (295, (144, 1, 1, [517, 518, 519, 5])), (298, (145, 1, 1, [513, 514, 515, 5])), (301, (146, 1, 1, [509, 510, 511, 5])), (304, (147, 1, 1, [505, 506, 507, 5])), (307, (148, 1, 1, [428, 429, 430, 5])), (310, (149, 1, 1, [541, 542, 543, 5])), (313, (150, 1, 1, [537, 538, 539, 5])), (316, (151, 1, 1, [533, 534, 535, 5])), (319, (152, 1, 1, [529, 530, 531, 5])), (322, (153, 1, 1, [525, 526, 527, 5])), (325, (154, 1, 1, [424, 425, 426, 5])), (328, (155, 1, 1, [561, 562, 563, 5])), (331, (156, 1, 1, [557, 558, 559, 5])), (334, (157, 1, 1, [553, 554, 555, 5])), (337, (158, 1, 1, [549, 550, 551, 5])), (340, (159, 1, 1, [545, 546, 547, 5])), (343, (160, 1, 1, [415, 416, 417, 5])), (346, (161, 1, 1, [411, 412, 413, 5])), (349, (162, 1, 1, [407, 408, 409, 5])), (352, (163, 2, 1, [398, 399, 400, 5])), (356, (164, 3, 1, [365, 366, 367, 5])), (359, (167, 1, 0, [343, 344, 5])), (362, (168, 3, 1, [339, 340, 341, 5])), (365, (105, 3, 0, [565, 566, 5])), (369, (170, 5, 1, [350, 351, 352, 5])), (373, (173, 3, 1, [346, 347, 348, 5])), (376, (172, 3, 1, [568, 569, 570, 5])), (379, (171, 4, 1, [572, 573, 574, 5])), (384, (174, 3, 1, [335, 336, 337, 5])), (387, (176, 2, 1, [331, 332, 333, 5])), (393, (178, 1, 1, [771, 772, 773, 5])), (397, (180, 1, 1, [800, 801, 802, 5])), (400, (181, 2, 1, [804, 805, 806, 5])), (413, (106, 2, 0, [872, 873, 5])), (416, (188, 3, 1, [918, 919, 920, 5])), (421, (198, 1, 0, [915, 916, 5])), (424, (189, 3, 1, [922, 923, 924, 5])), (427, (199, 4, 1, [944, 945, 946, 5])), (431, (192, 2, 1, [961, 962, 963, 5])), (448, (115, 4, 1, [1058, 593, 594, 5])), (451, (203, 1, 0, [1068, 1069, 5]))]
def vPm8 : List (Nat × (Nat × Nat × Nat × List Nat)) := [(9, (57, 1, 2, [6])), (12, (107, 1, 2, [239])), (13, (58, 4, 1, [274, 275, 276, 2])), (17, (113, 4, 1, [295, 296, 297, 5])), (18, (59, 4, 1, [580, 581, 582, 2])), (21, (115, 4, 1, [592, 593, 594, 5])), (22, (60, 4, 1, [597, 598, 599, 2])), (25, (116, 4, 1, [609, 610, 611, 5])), (26, (61, 3, 1, [614, 615, 616, 2])), (30, (117, 3, 1, [704, 321, 322, 5])), (31, (65, 2, 1, [705, 706, 707, 2])), (35, (118, 2, 1, [710, 711, 712, 5])), (36, (66, 1, 1, [716, 717, 718, 2])), (40, (165, 1, 1, [720, 721, 722, 5])), (41, (67, 2, 1, [724, 725, 726, 2])), (44, (166, 2, 1, [728, 729, 730, 5])), (45, (68, 4, 1, [732, 733, 734, 2])), (48, (175, 4, 1, [745, 746, 747, 5])), (49, (69, 2, 1, [750, 751, 752, 2])), (52, (179, 2, 1, [766, 767, 768, 5])), (53, (70, 3, 1, [775, 776, 777, 2])), (56, (182, 3, 1, [795, 796, 797, 5])), (57, (71, 2, 1, [808, 809, 810, 2])), (60, (183, 2, 1, [813, 814, 815, 5])), (61, (73, 4, 1, [817, 818, 819, 2])), (64, (184, 4, 1, [822, 823, 824, 5])), (65, (74, 3, 1, [828, 829, 830, 2])), (68, (185, 3, 1, [832, 833, 834, 5])), (69, (75, 3, 1, [836, 837, 838, 2])), (72, (186, 3, 1, [845, 846, 847, 5])), (73, (76, 4, 1, [850, 851, 852, 2])), (76, (187, 4, 1, [867, 868, 869, 5])), (77, (79, 4, 1, [875, 876, 877, 2])), (80, (190, 4, 1, [910, 911, 912, 5])), (81, (83, 3, 1, [926, 927, 928, 2])), (84, (191, 3, 1, [940, 941, 942, 5])), (85, (84, 2, 1, [949, 950, 951, 2])), (88, (193, 2, 1, [957, 958, 959, 5])), (89, (85, 5, 1, [966, 967, 968, 2])), (93, (194, 5, 1, [974, 975, 976, 5])), (94, (88, 1, 1, [980, 981, 982, 2])), (97, (195, 1, 1, [995, 996, 997, 5])), (98, (89, 1, 1, [1001, 1002, 1003, 2])), (101, (196, 1, 1, [1005, 1006, 1007, 5])), (102, (90, 2, 1, [1009, 1010, 1011, 2])), (105, (197, 2, 1, [1017, 1018, 1019, 5])), (106, (91, 4, 1, [1021, 1022, 1023, 2])), (109, (199, 4, 1, [1025, 945, 946, 5])), (110, (92, 4, 1, [1026, 1027, 1028, 2])), (113, (200, 4, 1, [1030, 1031, 1032, 5])), (114, (93, 6, 1, [1034, 1035, 1036, 2])), (118, (201, 6, 1, [1044, 1045, 1046, 5])), (119, (94, 5, 1, [1048, 1049, 1050, 2])), (123, (202, 5, 1, [1053, 1054, 1055, 5])), (124, (95, 3, 1, [1059, 1060, 1061, 2])), (127, (204, 3, 1, [1064, 1065, 1066, 5]))]
def vPm9 : List (Nat × (Nat × Nat × Nat × List Nat)) := [(335, (208, 1, 1, [88, 89, 90, 85])), (492, (209, 1, 1, [98, 99, 100, 85])), (495, (211, 2, 0, [102, 103, 104])), (498, (214, 2, 0, [114, 115, 116])), (1059, (216, 3, 0, [110, 111, 112]))]
def vPm10 : List (Nat × (Nat × Nat × Nat × List Nat)) := [(9, (210, 2, 0, [106, 107, 85]))]
def vPm11 : List (Nat × (Nat × Nat × Nat × List Nat)) := [(48, (213, 1, 0, [121, 122, 116])), (67, (215, 2, 0, [118, 119, 116])), (71, (212, 2, 0, [125, 126, 116])), (414, (210, 2, 0, [124, 107, 85]))]
def vPm (c : Nat) : List (Nat × (Nat × Nat × Nat × List Nat)) := match c with
  | 0 => vPm0
  | 1 => vPm1
  | 2 => vPm2
  | 3 => vPm3
  | 4 => vPm4
  | 5 => vPm5
  | 6 => vPm6
  | 7 => vPm7
  | 8 => vPm8
  | 9 => vPm9
  | 10 => vPm10
  | 11 => vPm11
  | _ => []
def vYp (x : Nat) : Nat := bif Nat.ble x 220 then (bif Nat.ble x 109 then (bif Nat.ble x 54 then (bif Nat.ble x 26 then (bif Nat.ble x 12 then (bif Nat.ble x 5 then (bif Nat.ble x 2 then (bif Nat.ble x 0 then 73 else (bif Nat.ble x 1 then 644 else 844)) else (bif Nat.ble x 3 then 680 else (bif Nat.ble x 4 then 740 else 659))) else (bif Nat.ble x 8 then (bif Nat.ble x 6 then 887 else (bif Nat.ble x 7 then 663 else 744)) else (bif Nat.ble x 10 then (bif Nat.ble x 9 then 669 else 691) else (bif Nat.ble x 11 then 702 else 698)))) else (bif Nat.ble x 19 then (bif Nat.ble x 15 then (bif Nat.ble x 13 then 694 else (bif Nat.ble x 14 then 52 else 784)) else (bif Nat.ble x 17 then (bif Nat.ble x 16 then 794 else 790) else (bif Nat.ble x 18 then 67 else 134))) else (bif Nat.ble x 22 then (bif Nat.ble x 20 then 238 else (bif Nat.ble x 21 then 139 else 193)) else (bif Nat.ble x 24 then (bif Nat.ble x 23 then 205 else 209) else (bif Nat.ble x 25 then 226 else 230))))) else (bif Nat.ble x 40 then (bif Nat.ble x 33 then (bif Nat.ble x 29 then (bif Nat.ble x 27 then 217 else (bif Nat.ble x 28 then 213 else 185)) else (bif Nat.ble x 31 then (bif Nat.ble x 30 then 189 else 152) else (bif Nat.ble x 32 then 178 else 164))) else (bif Nat.ble x 36 then (bif Nat.ble x 34 then 171 else (bif Nat.ble x 35 then 157 else 160)) else (bif Nat.ble x 38 then (bif Nat.ble x 37 then 174 else 181) else (bif Nat.ble x 39 then 61 else 933)))) else (bif Nat.ble x 47 then (bif Nat.ble x 43 then (bif Nat.ble x 41 then 1043 else (bif Nat.ble x 42 then 891 else 939)) else (bif Nat.ble x 45 then (bif Nat.ble x 44 then 56 else 146) else (bif Nat.ble x 46 then 204 else 222))) else (bif Nat.ble x 50 then (bif Nat.ble x 48 then 200 else (bif Nat.ble x 49 then 234 else 684)) else (bif Nat.ble x 52 then (bif Nat.ble x 51 then 687 else 40) else (bif Nat.ble x 53 then 988 else 590)))))) else (bif Nat.ble x 81 then (bif Nat.ble x 67 then (bif Nat.ble x 60 then (bif Nat.ble x 57 then (bif Nat.ble x 55 then 1016 else (bif Nat.ble x 56 then 765 else 8)) else (bif Nat.ble x 58 then 277 else (bif Nat.ble x 59 then 583 else 600))) else (bif Nat.ble x 63 then (bif Nat.ble x 61 then 617 else (bif Nat.ble x 62 then 621 else 284)) else (bif Nat.ble x 65 then (bif Nat.ble x 64 then 293 else 708) else (bif Nat.ble x 66 then 719 else 727)))) else (bif Nat.ble x 74 then (bif Nat.ble x 70 then (bif Nat.ble x 68 then 735 else (bif Nat.ble x 69 then 753 else 778)) else (bif Nat.ble x 72 then (bif Nat.ble x 71 then 811 else 761) else (bif Nat.ble x 73 then 820 else 831))) else (bif Nat.ble x 77 then (bif Nat.ble x 75 then 839 else (bif Nat.ble x 76 then 853 else 861)) else (bif Nat.ble x 79 then (bif Nat.ble x 78 then 866 else 878) else (bif Nat.ble x 80 then 896 else 901))))) else (bif Nat.ble x 95 then (bif Nat.ble x 88 then (bif Nat.ble x 84 then (bif Nat.ble x 82 then 905 else (bif Nat.ble x 83 then 929 else 952)) else (bif Nat.ble x 86 then (bif Nat.ble x 85 then 969 else 955) else (bif Nat.ble x 87 then 973 else 983))) else (bif Nat.ble x 91 then (bif Nat.ble x 89 then 1004 else (bif Nat.ble x 90 then 1012 else 1024)) else (bif Nat.ble x 93 then (bif Nat.ble x 92 then 1029 else 1037) else (bif Nat.ble x 94 then 1051 else 1062)))) else (bif Nat.ble x 102 then (bif Nat.ble x 98 then (bif Nat.ble x 96 then 586 else (bif Nat.ble x 97 then 604 else 883)) else (bif Nat.ble x 100 then (bif Nat.ble x 99 then 608 else 640) else (bif Nat.ble x 101 then 635 else 626))) else (bif Nat.ble x 105 then (bif Nat.ble x 103 then 757 else (bif Nat.ble x 104 then 302 else 567)) else (bif Nat.ble x 107 then (bif Nat.ble x 106 then 874 else 241) else (bif Nat.ble x 108 then 273 else 311))))))) else (bif Nat.ble x 164 then (bif Nat.ble x 136 then (bif Nat.ble x 122 then (bif Nat.ble x 115 then (bif Nat.ble x 112 then (bif Nat.ble x 110 then 315 else (bif Nat.ble x 111 then 306 else 319)) else (bif Nat.ble x 113 then 298 else (bif Nat.ble x 114 then 579 else 595))) else (bif Nat.ble x 118 then (bif Nat.ble x 116 then 612 else (bif Nat.ble x 117 then 323 else 713)) else (bif Nat.ble x 120 then (bif Nat.ble x 119 then 389 else 378) else (bif Nat.ble x 121 then 405 else 397)))) else (bif Nat.ble x 129 then (bif Nat.ble x 125 then (bif Nat.ble x 123 then 393 else (bif Nat.ble x 124 then 460 else 423)) else (bif Nat.ble x 127 then (bif Nat.ble x 126 then 464 else 456) else (bif Nat.ble x 128 then 452 else 447))) else (bif Nat.ble x 132 then (bif Nat.ble x 130 then 443 else (bif Nat.ble x 131 then 484 else 480)) else (bif Nat.ble x 134 then (bif Nat.ble x 133 then 476 else 472) else (bif Nat.ble x 135 then 468 else 439))))) else (bif Nat.ble x 150 then (bif Nat.ble x 143 then (bif Nat.ble x 139 then (bif Nat.ble x 137 then 504 else (bif Nat.ble x 138 then 500 else 496)) else (bif Nat.ble x 141 then (bif Nat.ble x 140 then 492 else 488) else (bif Nat.ble x 142 then 435 else 524))) else (bif Nat.ble x 146 then (bif Nat.ble x 144 then 520 else (bif Nat.ble x 145 then 516 else 512)) else (bif Nat.ble x 148 then (bif Nat.ble x 147 then 508 else 431) else (bif Nat.ble x 149 then 544 else 540)))) else (bif Nat.ble x 157 then (bif Nat.ble x 153 then (bif Nat.ble x 151 then 536 else (bif Nat.ble x 152 then 532 else 528)) else (bif Nat.ble x 155 then (bif Nat.ble x 154 then 427 else 564) else (bif Nat.ble x 156 then 560 else 556))) else (bif Nat.ble x 160 then (bif Nat.ble x 158 then 552 else (bif Nat.ble x 159 then 548 else 418)) else (bif Nat.ble x 162 then (bif Nat.ble x 161 then 414 else 410) else (bif Nat.ble x 163 then 401 else 368)))))) else (bif Nat.ble x 192 then (bif Nat.ble x 178 then (bif Nat.ble x 171 then (bif Nat.ble x 167 then (bif Nat.ble x 165 then 723 else (bif Nat.ble x 166 then 731 else 345)) else (bif Nat.ble x 169 then (bif Nat.ble x 168 then 342 else 364) else (bif Nat.ble x 170 then 353 else 575))) else (bif Nat.ble x 174 then (bif Nat.ble x 172 then 571 else (bif Nat.ble x 173 then 349 else 338)) else (bif Nat.ble x 176 then (bif Nat.ble x 175 then 748 else 334) else (bif Nat.ble x 177 then 329 else 774)))) else (bif Nat.ble x 185 then (bif Nat.ble x 181 then (bif Nat.ble x 179 then 769 else (bif Nat.ble x 180 then 803 else 807)) else (bif Nat.ble x 183 then (bif Nat.ble x 182 then 798 else 816) else (bif Nat.ble x 184 then 825 else 835))) else (bif Nat.ble x 188 then (bif Nat.ble x 186 then 848 else (bif Nat.ble x 187 then 870 else 921)) else (bif Nat.ble x 190 then (bif Nat.ble x 189 then 925 else 913) else (bif Nat.ble x 191 then 943 else 964))))) else (bif Nat.ble x 206 then (bif Nat.ble x 199 then (bif Nat.ble x 195 then (bif Nat.ble x 193 then 960 else (bif Nat.ble x 194 then 977 else 998)) else (bif Nat.ble x 197 then (bif Nat.ble x 196 then 1008 else 1020) else (bif Nat.ble x 198 then 917 else 947))) else (bif Nat.ble x 202 then (bif Nat.ble x 200 then 1033 else (bif Nat.ble x 201 then 1047 else 1056)) else (bif Nat.ble x 204 then (bif Nat.ble x 203 then 1070 else 1067) else (bif Nat.ble x 205 then 9999 else 86)))) else (bif Nat.ble x 213 then (bif Nat.ble x 209 then (bif Nat.ble x 207 then 97 else (bif Nat.ble x 208 then 91 else 101)) else (bif Nat.ble x 211 then (bif Nat.ble x 210 then 108 else 105) else (bif Nat.ble x 212 then 127 else 123))) else (bif Nat.ble x 216 then (bif Nat.ble x 214 then 117 else (bif Nat.ble x 215 then 120 else 113)) else (bif Nat.ble x 218 then (bif Nat.ble x 217 then 673 else 857) else (bif Nat.ble x 219 then 631 else 650)))))))) else 9999
def vcn (x : Nat) : String := bif Nat.ble x 14 then (bif Nat.ble x 6 then (bif Nat.ble x 2 then (bif Nat.ble x 0 then RX0 else (bif Nat.ble x 1 then RX1 else RX2)) else (bif Nat.ble x 4 then (bif Nat.ble x 3 then RX3 else RX4) else (bif Nat.ble x 5 then RX5 else RX6))) else (bif Nat.ble x 10 then (bif Nat.ble x 8 then (bif Nat.ble x 7 then RX7 else RL) else (bif Nat.ble x 9 then RJ0 else RJ1)) else (bif Nat.ble x 12 then (bif Nat.ble x 11 then RJ2 else RJ3) else (bif Nat.ble x 13 then RJ6 else "java/lang/Math")))) else ""
def vPk6 : List (Nat × Value) := [(198, .int 99999), (274, .int 1103515245), (269, .long (-4611686018427387904))]
def vPk7 : List (Nat × Value) := [(390, .int 999999), (396, .int 1000000), (430, .int 1103515245), (104, .long 4), (110, .long 3), (115, .long 5), (139, .long 9), (141, .long 999), (143, .long 4095), (151, .long 255), (174, .long 97), (176, .long 122), (178, .long 48), (180, .long 57), (186, .long 10), (246, .long 43), (251, .long 60), (382, .long 21), (391, .long 2), (409, .long 99999), (411, .long 99), (419, .long 49), (434, .long 20), (436, .long (-4611686018427387904)), (444, .long (-1)), (446, .long 6)]
def vPk13 : List (Nat × Value) := [(265, .int 1431655765), (266, .int 858993459), (267, .int 252645135)]
def vPk (c : Nat) : List (Nat × Value) := match c with
  | 6 => vPk6
  | 7 => vPk7
  | 13 => vPk13
  | _ => []
def vPs6 : List (Nat × Value) := [(87, .ref 1006), (90, .ref 1005), (301, .ref 1004)]
def vPs9 : List (Nat × Value) := [(38, .int 1), (1053, .ref 1008)]
def vPs (c : Nat) : List (Nat × Value) := match c with
  | 6 => vPs6
  | 9 => vPs9
  | _ => []
def vPj9 : List (Nat × Nat) := [(9, 0), (15, 1)]
def vPj (c : Nat) : List (Nat × Nat) := match c with
  | 9 => vPj9
  | _ => []
end
section
/-! ===== the tables hold: every entry against decode, every link against the law's words ===== -/
def vlks (pc : Nat) : List (Int32 × Nat) → List (Int × Int) → Bool
  | [], [] => true
  | q :: l, r :: t => decide (q.1.toInt = r.1) && decide ((pc : Int) + r.2 = (q.2 : Int)) && vlks pc l t
  | _, _ => false
def vchk1 (y pc : Nat) (i : Instr) (nx tg : Nat) (im : Int32) : Bool := match i with
  | .iconst n => Nat.beq nx (pc + 1) && decide (Int32.ofInt n = im)
  | .bipush n => Nat.beq nx (pc + 2) && decide ((Int8.ofInt n).toInt32 = im)
  | .sipush n => Nat.beq nx (pc + 3) && decide ((Int16.ofInt n).toInt32 = im)
  | .iinc _ n => Nat.beq nx (pc + 3) && decide (Int32.ofInt n = im)
  | .ifCond _ o => Nat.beq nx (pc + 3) && decide ((pc : Int) + o = (tg : Int))
  | .if_icmp _ o => Nat.beq nx (pc + 3) && decide ((pc : Int) + o = (tg : Int))
  | .goto o => Nat.beq nx (pc + 3) && decide ((pc : Int) + o = (tg : Int))
  | .ifnull o => Nat.beq nx (pc + 3) && decide ((pc : Int) + o = (tg : Int))
  | .tableswitch d lo hi offs => (match vswfind vSw y pc with
    | some (l, df) => decide ((pc : Int) + d = (df : Int)) && (Nat.beq l.length offs.size && (decide (hi = lo + (offs.size : Int) - 1) && (List.range l.length).all (fun k => match l[k]?, offs[k]? with
      | some q, some o => decide (q.1.toInt = lo + (k : Int)) && decide ((pc : Int) + o = (q.2 : Int))
      | _, _ => false)))
    | none => false)
  | .lookupswitch d ps => (match vswfind vSw y pc with
    | some (l, df) => decide ((pc : Int) + d = (df : Int)) && (vlks pc l ps.toList && (ps.toList.zip (ps.toList.drop 1)).all (fun (a, next) => a.1 < next.1))
    | none => false)
  | .iload _ => Nat.beq nx (pc + 2)
  | .lload _ => Nat.beq nx (pc + 2)
  | .aload _ => Nat.beq nx (pc + 2)
  | .istore _ => Nat.beq nx (pc + 2)
  | .lstore _ => Nat.beq nx (pc + 2)
  | .astore _ => Nat.beq nx (pc + 2)
  | .ldc _ => Nat.beq nx (pc + 2)
  | .getfield _ => Nat.beq nx (pc + 3)
  | .putfield _ => Nat.beq nx (pc + 3)
  | .getstatic _ => Nat.beq nx (pc + 3)
  | .invokestatic _ => Nat.beq nx (pc + 3)
  | .invokevirtual _ => Nat.beq nx (pc + 3)
  | .ldc_w _ => Nat.beq nx (pc + 3)
  | .ldc2_w _ => Nat.beq nx (pc + 3)
  | .invokespecial _ => true
  | .new _ => true
  | .newarray _ => true
  | .anewarray _ => true
  | _ => Nat.beq nx (pc + 1)
def vchk (y : Nat) (c : ByteArray) (tb : List (Nat × vI)) : Bool := tb.all (fun q => decide (decode c q.1 = .ok (q.2.1, q.2.2.1 - q.1)) && vchk1 y q.1 q.2.1 q.2.2.1 q.2.2.2.1 q.2.2.2.2)
set_option maxRecDepth 100000 in
theorem vckL_0 : vchk 205 (vYc 205) vtb205_0 = true := by decide +kernel
set_option maxRecDepth 100000 in
theorem vckL_1 : vchk 205 (vYc 205) vtb205_1 = true := by decide +kernel
set_option maxRecDepth 100000 in
theorem vckL_2 : vchk 205 (vYc 205) vtb205_2 = true := by decide +kernel
set_option maxRecDepth 100000 in
theorem vckL_3 : vchk 205 (vYc 205) vtb205_3 = true := by decide +kernel
set_option maxRecDepth 100000 in
theorem vckL_4 : vchk 205 (vYc 205) vtb205_4 = true := by decide +kernel
set_option maxRecDepth 100000 in
theorem vckL_5 : vchk 205 (vYc 205) vtb205_5 = true := by decide +kernel
set_option maxRecDepth 100000 in
theorem vckL_6 : vchk 205 (vYc 205) vtb205_6 = true := by decide +kernel
set_option maxRecDepth 100000 in
theorem vckL_7 : vchk 205 (vYc 205) vtb205_7 = true := by decide +kernel
set_option maxRecDepth 100000 in
theorem vckL_8 : vchk 205 (vYc 205) vtb205_8 = true := by decide +kernel
set_option maxRecDepth 100000 in
theorem vckL_9 : vchk 205 (vYc 205) vtb205_9 = true := by decide +kernel
theorem vchk_ap {y : Nat} {c : ByteArray} {a b : List (Nat × vI)} (ha : vchk y c a = true) (hb : vchk y c b = true) : vchk y c (a ++ b) = true := by
  unfold vchk at *
  rw [List.all_append, ha, hb]; rfl
theorem vckL : vchk 205 (vYc 205) (vTb 205) = true := vchk_ap vckL_0 (vchk_ap vckL_1 (vchk_ap vckL_2 (vchk_ap vckL_3 (vchk_ap vckL_4 (vchk_ap vckL_5 (vchk_ap vckL_6 (vchk_ap vckL_7 (vchk_ap vckL_8 vckL_9))))))))
set_option maxRecDepth 100000 in
theorem vck_0 : (List.range 10).all (fun j => vchk (0 + j) (vYc (0 + j)) (vTb (0 + j))) = true := by decide +kernel
set_option maxRecDepth 100000 in
theorem vck_1 : (List.range 10).all (fun j => vchk (10 + j) (vYc (10 + j)) (vTb (10 + j))) = true := by decide +kernel
set_option maxRecDepth 100000 in
theorem vck_2 : (List.range 10).all (fun j => vchk (20 + j) (vYc (20 + j)) (vTb (20 + j))) = true := by decide +kernel
set_option maxRecDepth 100000 in
theorem vck_3 : (List.range 10).all (fun j => vchk (30 + j) (vYc (30 + j)) (vTb (30 + j))) = true := by decide +kernel
set_option maxRecDepth 100000 in
theorem vck_4 : (List.range 10).all (fun j => vchk (40 + j) (vYc (40 + j)) (vTb (40 + j))) = true := by decide +kernel
set_option maxRecDepth 100000 in
theorem vck_5 : (List.range 10).all (fun j => vchk (50 + j) (vYc (50 + j)) (vTb (50 + j))) = true := by decide +kernel
set_option maxRecDepth 100000 in
theorem vck_6 : (List.range 10).all (fun j => vchk (60 + j) (vYc (60 + j)) (vTb (60 + j))) = true := by decide +kernel
set_option maxRecDepth 100000 in
theorem vck_7 : (List.range 10).all (fun j => vchk (70 + j) (vYc (70 + j)) (vTb (70 + j))) = true := by decide +kernel
set_option maxRecDepth 100000 in
theorem vck_8 : (List.range 10).all (fun j => vchk (80 + j) (vYc (80 + j)) (vTb (80 + j))) = true := by decide +kernel
set_option maxRecDepth 100000 in
theorem vck_9 : (List.range 10).all (fun j => vchk (90 + j) (vYc (90 + j)) (vTb (90 + j))) = true := by decide +kernel
set_option maxRecDepth 100000 in
theorem vck_10 : (List.range 10).all (fun j => vchk (100 + j) (vYc (100 + j)) (vTb (100 + j))) = true := by decide +kernel
set_option maxRecDepth 100000 in
theorem vck_11 : (List.range 10).all (fun j => vchk (110 + j) (vYc (110 + j)) (vTb (110 + j))) = true := by decide +kernel
set_option maxRecDepth 100000 in
theorem vck_12 : (List.range 10).all (fun j => vchk (120 + j) (vYc (120 + j)) (vTb (120 + j))) = true := by decide +kernel
set_option maxRecDepth 100000 in
theorem vck_13 : (List.range 10).all (fun j => vchk (130 + j) (vYc (130 + j)) (vTb (130 + j))) = true := by decide +kernel
set_option maxRecDepth 100000 in
theorem vck_14 : (List.range 10).all (fun j => vchk (140 + j) (vYc (140 + j)) (vTb (140 + j))) = true := by decide +kernel
set_option maxRecDepth 100000 in
theorem vck_15 : (List.range 10).all (fun j => vchk (150 + j) (vYc (150 + j)) (vTb (150 + j))) = true := by decide +kernel
set_option maxRecDepth 100000 in
theorem vck_16 : (List.range 10).all (fun j => vchk (160 + j) (vYc (160 + j)) (vTb (160 + j))) = true := by decide +kernel
set_option maxRecDepth 100000 in
theorem vck_17 : (List.range 10).all (fun j => vchk (170 + j) (vYc (170 + j)) (vTb (170 + j))) = true := by decide +kernel
set_option maxRecDepth 100000 in
theorem vck_18 : (List.range 10).all (fun j => vchk (180 + j) (vYc (180 + j)) (vTb (180 + j))) = true := by decide +kernel
set_option maxRecDepth 100000 in
theorem vck_19 : (List.range 10).all (fun j => vchk (190 + j) (vYc (190 + j)) (vTb (190 + j))) = true := by decide +kernel
set_option maxRecDepth 100000 in
theorem vck_20 : ∀ j ∈ List.range 10, vchk (200 + j) (vYc (200 + j)) (vTb (200 + j)) = true := by
  have h : ((List.range 10).filter (fun j => !Nat.beq (200 + j) 205)).all (fun j => vchk (200 + j) (vYc (200 + j)) (vTb (200 + j))) = true := by decide +kernel
  intro j hj
  by_cases e : j = 5
  · subst e; exact vckL
  · refine List.all_eq_true.mp h j (List.mem_filter.mpr ⟨hj, ?_⟩)
    cases hb : Nat.beq (200 + j) 205 with
    | false => rfl
    | true => have := Nat.eq_of_beq_eq_true hb; omega
set_option maxRecDepth 100000 in
theorem vck_21 : (List.range 10).all (fun j => vchk (210 + j) (vYc (210 + j)) (vTb (210 + j))) = true := by decide +kernel
set_option maxRecDepth 100000 in
theorem vck_22 : (List.range 10).all (fun j => vchk (220 + j) (vYc (220 + j)) (vTb (220 + j))) = true := by decide +kernel
theorem vTb_big {y : Nat} (h : 221 ≤ y) : vTb y = [] := by
  have h1 : Nat.ble y 220 = false := by
    cases hb : Nat.ble y 220 with
    | false => rfl
    | true => have := Nat.le_of_ble_eq_true hb; omega
  unfold vTb
  rw [h1]
  rfl
theorem vchk_all (y : Nat) : vchk y (vYc y) (vTb y) = true := by
  by_cases hy : 221 ≤ y
  · rw [vTb_big hy]; rfl
  · have hm : y % 10 ∈ List.range 10 := List.mem_range.mpr (Nat.mod_lt _ (by decide))
    have hk : y / 10 < 23 := by omega
    rcases (show y / 10 = 0 ∨ y / 10 = 1 ∨ y / 10 = 2 ∨ y / 10 = 3 ∨ y / 10 = 4 ∨ y / 10 = 5 ∨ y / 10 = 6 ∨ y / 10 = 7 ∨ y / 10 = 8 ∨ y / 10 = 9 ∨ y / 10 = 10 ∨ y / 10 = 11 ∨ y / 10 = 12 ∨ y / 10 = 13 ∨ y / 10 = 14 ∨ y / 10 = 15 ∨ y / 10 = 16 ∨ y / 10 = 17 ∨ y / 10 = 18 ∨ y / 10 = 19 ∨ y / 10 = 20 ∨ y / 10 = 21 ∨ y / 10 = 22 by omega) with h | h | h | h | h | h | h | h | h | h | h | h | h | h | h | h | h | h | h | h | h | h | h
    · have := List.all_eq_true.mp vck_0 _ hm;
       rw [show 0 + y % 10 = y by omega] at this; exact this
    · have := List.all_eq_true.mp vck_1 _ hm;
       rw [show 10 + y % 10 = y by omega] at this; exact this
    · have := List.all_eq_true.mp vck_2 _ hm;
       rw [show 20 + y % 10 = y by omega] at this; exact this
    · have := List.all_eq_true.mp vck_3 _ hm;
       rw [show 30 + y % 10 = y by omega] at this; exact this
    · have := List.all_eq_true.mp vck_4 _ hm;
       rw [show 40 + y % 10 = y by omega] at this; exact this
    · have := List.all_eq_true.mp vck_5 _ hm;
       rw [show 50 + y % 10 = y by omega] at this; exact this
    · have := List.all_eq_true.mp vck_6 _ hm;
       rw [show 60 + y % 10 = y by omega] at this; exact this
    · have := List.all_eq_true.mp vck_7 _ hm;
       rw [show 70 + y % 10 = y by omega] at this; exact this
    · have := List.all_eq_true.mp vck_8 _ hm;
       rw [show 80 + y % 10 = y by omega] at this; exact this
    · have := List.all_eq_true.mp vck_9 _ hm;
       rw [show 90 + y % 10 = y by omega] at this; exact this
    · have := List.all_eq_true.mp vck_10 _ hm;
       rw [show 100 + y % 10 = y by omega] at this; exact this
    · have := List.all_eq_true.mp vck_11 _ hm;
       rw [show 110 + y % 10 = y by omega] at this; exact this
    · have := List.all_eq_true.mp vck_12 _ hm;
       rw [show 120 + y % 10 = y by omega] at this; exact this
    · have := List.all_eq_true.mp vck_13 _ hm;
       rw [show 130 + y % 10 = y by omega] at this; exact this
    · have := List.all_eq_true.mp vck_14 _ hm;
       rw [show 140 + y % 10 = y by omega] at this; exact this
    · have := List.all_eq_true.mp vck_15 _ hm;
       rw [show 150 + y % 10 = y by omega] at this; exact this
    · have := List.all_eq_true.mp vck_16 _ hm;
       rw [show 160 + y % 10 = y by omega] at this; exact this
    · have := List.all_eq_true.mp vck_17 _ hm;
       rw [show 170 + y % 10 = y by omega] at this; exact this
    · have := List.all_eq_true.mp vck_18 _ hm;
       rw [show 180 + y % 10 = y by omega] at this; exact this
    · have := List.all_eq_true.mp vck_19 _ hm;
       rw [show 190 + y % 10 = y by omega] at this; exact this
    · have := vck_20 _ hm;
       rw [show 200 + y % 10 = y by omega] at this; exact this
    · have := List.all_eq_true.mp vck_21 _ hm;
       rw [show 210 + y % 10 = y by omega] at this; exact this
    · have := List.all_eq_true.mp vck_22 _ hm;
       rw [show 220 + y % 10 = y by omega] at this; exact this
theorem vfind_mem {α : Type} {l : List (Nat × α)} {i : Nat} {a : α} (h : vfind l i = some a) : (i, a) ∈ l := by
  induction l with
  | nil => cases h
  | cons q l ih =>
    unfold vfind at h
    cases hb : Nat.beq q.1 i with
    | true =>
      rw [hb] at h
      have e : q.1 = i := Nat.eq_of_beq_eq_true hb
      have e2 : q.2 = a := Option.some.inj h
      rw [← e, ← e2]
      exact List.mem_cons_self
    | false =>
      rw [hb] at h
      exact List.mem_cons_of_mem _ (ih h)
theorem vtb_ok {y pc : Nat} {i : Instr} {nx tg : Nat} {im : Int32} (h : vfind (vTb y) pc = some (i, nx, tg, im)) : decode (vYc y) pc = .ok (i, nx - pc) ∧ vchk1 y pc i nx tg im = true := by
  have h1 := List.all_eq_true.mp (vchk_all y) _ (vfind_mem h)
  simp only [Bool.and_eq_true, decide_eq_true_eq] at h1
  exact h1
/-- classes by number, their fields -/
def vfT (c : Nat) : u_T := match c with
  | 0 => TX0
  | 1 => TX1
  | 2 => TX2
  | 3 => TX3
  | 4 => TX4
  | 5 => TX5
  | 6 => TX6
  | _ => TX7
def vfN (c : Nat) : Nat := match c with
  | 0 => 9
  | 1 => 3
  | 2 => 8
  | 3 => 3
  | 4 => 4
  | 5 => 11
  | 6 => 9
  | _ => 50
def vfY (c : Nat) : Nat → FieldType := match c with
  | 0 => tyX0
  | 1 => tyX1
  | 2 => tyX2
  | 3 => tyX3
  | 4 => tyX4
  | 5 => tyX5
  | 6 => tyX6
  | _ => tyX7
theorem vcl_at {c : Nat} (h : c < 8) : vwCl[c]? = some (vcn c, vfT c, vfN c) := by
  rcases (show c = 0 ∨ c = 1 ∨ c = 2 ∨ c = 3 ∨ c = 4 ∨ c = 5 ∨ c = 6 ∨ c = 7 by omega) with rfl | rfl | rfl | rfl | rfl | rfl | rfl | rfl <;> rfl
theorem vin_at {c : Nat} (h : c < 8) : ∀ w ∈ u_ws (vcn c) (vfT c) (vfN c), w ∈ wsL_law := by
  rcases (show c = 0 ∨ c = 1 ∨ c = 2 ∨ c = 3 ∨ c = 4 ∨ c = 5 ∨ c = 6 ∨ c = 7 by omega) with rfl | rfl | rfl | rfl | rfl | rfl | rfl | rfl
  · exact inlX0
  · exact inlX1
  · exact inlX2
  · exact inlX3
  · exact inlX4
  · exact inlX5
  · exact inlX6
  · exact inlX7
theorem vty_at {c : Nat} (h : c < 8) : ∀ k, k < vfN c → parseFieldDescriptor (vfT c k).2.2.1 = some (vfY c k) := by
  rcases (show c = 0 ∨ c = 1 ∨ c = 2 ∨ c = 3 ∨ c = 4 ∨ c = 5 ∨ c = 6 ∨ c = 7 by omega) with rfl | rfl | rfl | rfl | rfl | rfl | rfl | rfl
  · exact tyX0_ok
  · exact tyX1_ok
  · exact tyX2_ok
  · exact tyX3_ok
  · exact tyX4_ok
  · exact tyX5_ok
  · exact tyX6_ok
  · exact tyX7_ok
theorem vnm_at {c : Nat} (h : c < 8) : ∀ a, a < vfN c → ∀ b, b < vfN c → a ≠ b → (vfT c a).2.1 ≠ (vfT c b).2.1 := by
  rcases (show c = 0 ∨ c = 1 ∨ c = 2 ∨ c = 3 ∨ c = 4 ∨ c = 5 ∨ c = 6 ∨ c = 7 by omega) with rfl | rfl | rfl | rfl | rfl | rfl | rfl | rfl
  · exact nmX0
  · exact nmX1
  · exact nmX2
  · exact nmX3
  · exact nmX4
  · exact nmX5
  · exact nmX6
  · exact nmX7
/-- the cells: classes below 8, as many fields as the class has, each of its kind's type -/
def vtagT (t : Nat) (ty : FieldType) (fin : Bool) : Bool := match t with
  | 0 => decide (ty = .int) && !fin
  | 1 => true
  | 2 => decide (ty = .long) && !fin
  | 3 => (match ty with | .object _ => !fin | _ => false)
  | 4 => decide (ty = .boolean) && !fin
  | _ => false
def vcellOk (x : vC) : Bool := match x with
  | .inl (t, _, es) => Nat.ble t 3 && (Nat.beq t 2 || Nat.beq t 3 || Nat.beq es.length 0) && es.all (fun e => Nat.ble e 57)
  | .inr (ci, fs) => Nat.ble ci 7 && Nat.beq fs.length (vfN ci) && (List.range (vfN ci)).all (fun k => match fs[k]? with
    | some (t, r) => vtagT t (vfY ci k) (vfT ci k).2.2.2 && Nat.ble r 82
    | none => false)
theorem vcells_ok : (List.range 83).all (fun i => vcellOk (vlayT i)) = true := by decide +kernel
def vpos : List Cond → List Nat → Bool
  | [], [] => true
  | w :: l, p :: r => decide (wsL_law[p]? = some w) && vpos l r
  | _, _ => false
theorem vpos_mem {l : List Cond} {r : List Nat} (h : vpos l r = true) : ∀ w ∈ l, w ∈ wsL_law := by
  induction l generalizing r with
  | nil => intro w hw; cases hw
  | cons a l ih =>
    cases r with
    | nil => cases h
    | cons p r =>
      simp only [vpos, Bool.and_eq_true, decide_eq_true_eq] at h
      intro w hw
      rcases List.mem_cons.mp hw with rfl | hw
      · exact List.mem_of_getElem? h.1
      · exact ih h.2 w hw
def vPfC (c : Nat) (q : Nat × Nat × Nat × Nat) : Bool := Nat.ble q.2.1 7 && Nat.ble (q.2.2.1 + 1) (vfN q.2.1) && vpos [.fieldLink (vcn c) q.1 (vfT q.2.1 q.2.2.1).1 (vfT q.2.1 q.2.2.1).2.1 (vfT q.2.1 q.2.2.1).2.2.1] [q.2.2.2]
set_option maxRecDepth 100000 in
theorem vPf_ok0 : (List.range 15).all (fun c => (vPf c).all (vPfC c)) = true := by decide +kernel
def vMw (c idx y : Nat) (kd : Nat) : List Cond := match kd with
  | 0 => [.methodLink (vcn c) idx (vYn y), .static (vYn y), .initialized (vYn y).cls]
  | 1 => [.methodLink (vcn c) idx (vYn y), .instanceMethod (vYn y), .selects (vYn y).cls (vYn y) (vYn y), .initialized (vYn y).cls]
  | _ => []
def vdn (y : Nat) : Option Nat := (parseMethodDescriptor (vYn y).desc).map (fun d => d.parameters.length)
def vPmC (c : Nat) (q : Nat × Nat × Nat × Nat × List Nat) : Bool := match q with
  | (idx, _, _, 3, ps) => vpos [.methodLink (vcn c) idx arraycopyName] ps
  | (idx, _, _, 4, ps) => vpos [.methodLink (vcn c) idx Lib.Math.max.name] ps
  | (idx, _, _, 5, ps) => vpos [.methodLink (vcn c) idx Lib.Math.min.name] ps
  | (idx, _, _, 6, ps) => vpos [.methodLink (vcn c) idx Lib.Math.abs.name] ps
  | (_, _, _, 2, _) => true
  | (idx, y, n, kd, ps) => Nat.ble kd 1 && (vpos (vMw c idx y kd) ps && (decide (vdn y = some (bif Nat.beq kd 0 then n else n - 1)) && (Nat.ble kd n && ( (plainName (vYn y).cls && (decide ((vYn y).cls ≠ "java/lang/invoke/MethodHandle") && (decide ((vYn y).cls ≠ "java/lang/invoke/VarHandle") && (Nat.ble (vYl y) 40 && (Nat.ble y 220 && (Nat.ble (vYp y) 9998 && decide (vcn (vYk y) = (vYn y).cls)))))))))))
set_option maxRecDepth 100000 in
theorem vPm_ok0 : (List.range 15).all (fun c => (vPm c).all (vPmC c)) = true := by decide +kernel
set_option maxRecDepth 100000 in
theorem vYk_ok : (List.range 221).all (fun y => Nat.ble (vYk y) 14 && Nat.ble (vYl y) 40 && decide (vcn (vYk y) = (vYn y).cls)) = true := by decide +kernel
def vPkC (c : Nat) (q : Nat × Value) : Bool := match q.2 with
  | .int v => decide (Cond.constant (vcn c) q.1 v ∈ wsL_law)
  | .long v => decide (Cond.constantLong (vcn c) q.1 v ∈ wsL_law)
  | _ => false
set_option maxRecDepth 100000 in
theorem vPk_ok0 : (List.range 15).all (fun c => (vPk c).all (vPkC c)) = true := by decide +kernel
end
section
/-! ===== ONE STEP of the virtual machine ===== -/
def vI1 (st : List Value) (k : Int32 → List Value → Prop) : Prop := match st with
  | .int x :: r => k x r
  | _ => False
def vI2 (st : List Value) (k : Int32 → Int32 → List Value → Prop) : Prop := match st with
  | .int y :: .int x :: r => k x y r
  | _ => False
def vL2 (st : List Value) (k : Int64 → Int64 → List Value → Prop) : Prop := match st with
  | .long y :: .long x :: r => k x y r
  | _ => False
def vldI (ls : vL) (i : Nat) (k : Value → Prop) : Prop := match vget ls i with
  | some (.int x) => k (.int x)
  | _ => False
def vldL (ls : vL) (i : Nat) (k : Value → Prop) : Prop := match vget ls i with
  | some (.long x) => k (.long x)
  | _ => False
def vldA (ls : vL) (i : Nat) (k : Value → Prop) : Prop := match vget ls i with
  | some (.ref x) => k (.ref x)
  | some .null => k .null
  | _ => False
def vstI (ls : vL) (st : List Value) (i : Nat) (k : vL → List Value → Prop) : Prop := match st with
  | .int x :: r => bif vfree ls i && Nat.ble (i + 1) ls.length then k (vset ls i (some (.int x))) r else False
  | _ => False
def vstA (ls : vL) (st : List Value) (i : Nat) (k : vL → List Value → Prop) : Prop := match st with
  | .ref x :: r => bif vfree ls i && (Nat.ble (i + 1) ls.length && Nat.ble x 1007) then k (vset ls i (some (.ref x))) r else False
  | .null :: r => bif vfree ls i && Nat.ble (i + 1) ls.length then k (vset ls i (some .null)) r else False
  | _ => False
def vstL (ls : vL) (st : List Value) (i : Nat) (k : vL → List Value → Prop) : Prop := match st with
  | .long x :: r => bif vfree ls i && Nat.ble (i + 2) ls.length then k (vset (vset ls i (some (.long x))) (i + 1) none) r else False
  | _ => False
/-- the kind and size of the array at r that is ours, or a constant -/
def vald (G : vG) (σ : vM) (kd : Nat) (st : List Value) (k : Value → List Value → Prop) : Prop := match st with
  | .int i :: .ref a :: r => match vlay G a with
    | some (.inl (t, n, es)) => bif Nat.beq kd 2 then (bif Nat.ble 2 t then ∃ j : Nat, i = nI j ∧ j < n ∧ k (.ref (es.getD j 0)) r else False) else bif Nat.beq t kd then ∃ j : Nat, i = nI j ∧ j < n ∧ k (.int (σ.1 a j)) r else False
    | some (.inr _) => False
    | none => match vcon G a with
      | some (t, n, f) => bif Nat.beq t kd then ∃ j : Nat, i = nI j ∧ j < n ∧ k (.int (f j)) r else False
      | none => False
  | _ => False
def vast (G : vG) (σ : vM) (kd : Nat) (st : List Value) (k : vM → List Value → Prop) : Prop := match st with
  | .int x :: .int i :: .ref a :: r => match vlay G a with
    | some (.inl (t, n, _)) => bif Nat.beq t kd then (kd = 1 → x = 0 ∨ x = 1) ∧ ∃ j : Nat, i = nI j ∧ j < n ∧ k (vput σ a j x) r else False
    | _ => False
  | _ => False
def valen (G : vG) (st : List Value) (k : Int32 → List Value → Prop) : Prop := match st with
  | .ref a :: r => match vlay G a with
    | some (.inl (_, n, _)) => k (nI n) r
    | some (.inr _) => False
    | none => match vcon G a with
      | some (_, n, _) => k (nI n) r
      | none => False
  | _ => False
def vgetf (G : vG) (σ : vM) (c idx : Nat) (st : List Value) (k : Value → List Value → Prop) : Prop := match st with
  | .ref a :: r => match vlay G a with
    | some (.inr (ci, fs)) => match vfind (vPf c) idx with
      | some (ci', f, _) => bif Nat.beq ci ci' then (match vnth fs f with
        | some (0, _) => k (.int (σ.1 a f)) r
        | some (1, t) => k (.ref t) r
        | some (2, _) => k (.long (σ.2 a f)) r
        | some (3, _) => ∃ t : Nat, σ.1 a f = nI t ∧ t < 83 ∧ k (.ref t) r
        | some (4, _) => k (.int (σ.1 a f)) r
        | _ => False) else False
      | none => False
    | some (.inl _) => False
    | none => match vfind (vPj c) idx with
      | some 0 => bif Nat.beq a 1000 || Nat.beq a 1001 then k (.ref (a + 2)) r else False
      | some 1 => bif Nat.beq a 1000 || Nat.beq a 1001 then k (.int 0) r else False
      | _ => False
  | _ => False
def vputf (G : vG) (σ : vM) (c idx : Nat) (st : List Value) (k : vM → List Value → Prop) : Prop := match st with
  | v :: .ref a :: r => match vlay G a with
    | some (.inr (ci, fs)) => match vfind (vPf c) idx with
      | some (ci', f, _) => bif Nat.beq ci ci' then (match vnth fs f with
        | some (0, _) => (match v with | .int x => k (vput σ a f x) r | _ => False)
        | some (2, _) => (match v with | .long x => k (vputL σ a f x) r | _ => False)
        | some (3, _) => (match v with | .ref t => bif Nat.ble t 82 then k (vput σ a f (nI t)) r else False | _ => False)
        | some (4, _) => (match v with | .int x => (x = 0 ∨ x = 1) ∧ k (vput σ a f x) r | _ => False)
        | _ => False) else False
      | none => False
    | _ => False
  | _ => False
def vldc (c idx : Nat) (st : List Value) (k : List Value → Prop) : Prop := match vfind (vPk c) idx with
  | some (.int x) => k (.int x :: st)
  | _ => bif Nat.beq c 6 && Nat.beq idx 60 then k (.ref 1000 :: st) else bif Nat.beq c 2 && Nat.beq idx 106 then k (.ref 1001 :: st) else False
def vldc2 (c idx : Nat) (st : List Value) (k : List Value → Prop) : Prop := match vfind (vPk c) idx with
  | some (.long x) => k (.long x :: st)
  | _ => False
def vacopy (G : vG) (σ : vM) (st : List Value) (k : vM → List Value → Prop) : Prop := match st with
  | .int n :: .int j :: .ref b :: .int i :: .ref a :: r => match vlay G a with
    | some (.inl (0, na, _)) => match vlay G b with
      | some (.inl (0, nb, _)) => bif Nat.ble (vcats r) 8 then ∃ sp dp m : Nat, i = nI sp ∧ j = nI dp ∧ n = nI m ∧ sp + m ≤ na ∧ dp + m ≤ nb ∧ k (vcopy σ a sp b dp m) r else False
      | _ => False
    | _ => False
  | _ => False
/-- no double among them -/
def vnd (as : List Value) : Bool := as.all (fun v => match v with | .double _ => false | _ => true)
def vcall (G : vG) (P : vP) (d y nx c idx kd : Nat) (ls : vL) (st : List Value) (σ : vM) (post : vQ) : Prop := match d with
  | 0 => False
  | d' + 1 => (match vfind (vPm c) idx with
    | some (y', n, kd', _) => (match kd' with
      | 3 => bif Nat.beq kd 0 then vacopy G σ st (fun σ' r => P (d' + 1) y nx ls r σ' post) else False
      | 4 => bif Nat.beq kd 0 then vI2 st (fun a b r => bif Nat.ble (vcats r) 8 then P (d' + 1) y nx ls (.int (if a < b then b else a) :: r) σ post else False) else False
      | 5 => bif Nat.beq kd 0 then vI2 st (fun a b r => bif Nat.ble (vcats r) 8 then P (d' + 1) y nx ls (.int (if b < a then b else a) :: r) σ post else False) else False
      | 6 => bif Nat.beq kd 0 then vI1 st (fun a r => bif Nat.ble (vcats r) 8 then P (d' + 1) y nx ls (.int (if 0 ≤ a then a else 0 - a) :: r) σ post else False) else False
      | kd' => bif Nat.beq kd kd' then (match vpopn n [] st with
        | some (as, r) => bif vnd as && (Nat.ble (vcats r) 8 && (Nat.beq (vfill (vYl y') (vsl as)).length (vYl y') && (Nat.beq kd 0 || (match as with | .ref a :: _ => vrecv G a (vYk y') | _ => false)))) then
          (∃ Mid : vQ, P d' y' 0 (vfill (vYl y') (vsl as)) [] σ Mid ∧ ∀ (v : Option Value) (σ' : vM), Mid v σ' → P (d' + 1) y nx ls (vpush v r) σ' post) else False
        | none => False) else False)
    | none => False)
def vretI (y : Nat) (x : Int32) (k : Prop) : Prop := match vYr y with
  | some .int => k
  | some .boolean => (x = 0 ∨ x = 1) ∧ k
  | some .char => narrow .char (.int x) = .int x ∧ k
  | some .byte => narrow .byte (.int x) = .int x ∧ k
  | _ => False
def vX (G : vG) (P : vP) (d y : Nat) (ls : vL) (st : List Value) (σ : vM) (post : vQ) (pc nx tg : Nat) (im : Int32) (i : Instr) : Prop := match i with
  | .iconst _ => P d y nx ls (.int im :: st) σ post
  | .bipush _ => P d y nx ls (.int im :: st) σ post
  | .sipush _ => P d y nx ls (.int im :: st) σ post
  | .lconst n => P d y nx ls (.long (Int64.ofNat n.val) :: st) σ post
  | .aconst_null => P d y nx ls (.null :: st) σ post
  | .iload k => vldI ls k (fun v => P d y nx ls (v :: st) σ post)
  | .iload_n k => vldI ls k.val (fun v => P d y nx ls (v :: st) σ post)
  | .lload k => vldL ls k (fun v => P d y nx ls (v :: st) σ post)
  | .lload_n k => vldL ls k.val (fun v => P d y nx ls (v :: st) σ post)
  | .aload k => vldA ls k (fun v => P d y nx ls (v :: st) σ post)
  | .aload_n k => vldA ls k.val (fun v => P d y nx ls (v :: st) σ post)
  | .istore k => vstI ls st k (fun ls r => P d y nx ls r σ post)
  | .istore_n k => vstI ls st k.val (fun ls r => P d y nx ls r σ post)
  | .lstore k => vstL ls st k (fun ls r => P d y nx ls r σ post)
  | .astore k => vstA ls st k (fun ls r => P d y nx ls r σ post)
  | .astore_n k => vstA ls st k.val (fun ls r => P d y nx ls r σ post)
  | .iinc k _ => (match vget ls k with
    | some (.int x) => bif vfree ls k then P d y nx (vset ls k (some (.int (x + im)))) st σ post else False
    | _ => False)
  | .iadd => vI2 st (fun a b r => P d y nx ls (.int (a + b) :: r) σ post)
  | .isub => vI2 st (fun a b r => P d y nx ls (.int (a - b) :: r) σ post)
  | .imul => vI2 st (fun a b r => P d y nx ls (.int (a * b) :: r) σ post)
  | .idiv => vI2 st (fun a b r => ¬ b = 0 ∧ P d y nx ls (.int (a / b) :: r) σ post)
  | .irem => vI2 st (fun a b r => ¬ b = 0 ∧ P d y nx ls (.int (a - a / b * b) :: r) σ post)
  | .ineg => vI1 st (fun a r => P d y nx ls (.int (-a) :: r) σ post)
  | .iand => vI2 st (fun a b r => P d y nx ls (.int (a &&& b) :: r) σ post)
  | .ior => vI2 st (fun a b r => P d y nx ls (.int (a ||| b) :: r) σ post)
  | .ixor => vI2 st (fun a b r => P d y nx ls (.int (a ^^^ b) :: r) σ post)
  | .ishl => vI2 st (fun a b r => P d y nx ls (.int (a <<< (b &&& 31)) :: r) σ post)
  | .ishr => vI2 st (fun a b r => P d y nx ls (.int (a >>> (b &&& 31)) :: r) σ post)
  | .iushr => vI2 st (fun a b r => P d y nx ls (.int (a.toUInt32 >>> (b.toUInt32 &&& Int32.toUInt32 31)).toInt32 :: r) σ post)
  | .i2l => vI1 st (fun a r => P d y nx ls (.long a.toInt64 :: r) σ post)
  | .i2b => vI1 st (fun a r => P d y nx ls (.int a.toInt8.toInt32 :: r) σ post)
  | .i2s => vI1 st (fun a r => P d y nx ls (.int a.toInt16.toInt32 :: r) σ post)
  | .i2c => vI1 st (fun a r => P d y nx ls (.int (a.toUInt32 % 65536).toInt32 :: r) σ post)
  | .l2i => (match st with
    | .long a :: r => P d y nx ls (.int a.toInt32 :: r) σ post
    | _ => False)
  | .ladd => vL2 st (fun a b r => P d y nx ls (.long (a + b) :: r) σ post)
  | .lsub => vL2 st (fun a b r => P d y nx ls (.long (a - b) :: r) σ post)
  | .lmul => vL2 st (fun a b r => P d y nx ls (.long (a * b) :: r) σ post)
  | .ldiv => vL2 st (fun a b r => ¬ b = 0 ∧ P d y nx ls (.long (a / b) :: r) σ post)
  | .lrem => vL2 st (fun a b r => ¬ b = 0 ∧ P d y nx ls (.long (a - a / b * b) :: r) σ post)
  | .lcmp => vL2 st (fun a b r => P d y nx ls (.int (lg_cmp a b) :: r) σ post)
  | .dup => (match st with
    | v :: r => bif vone v then P d y nx ls (v :: v :: r) σ post else False
    | _ => False)
  | .dup2 => (match st with
    | v :: w :: r => bif vone v && vone w then P d y nx ls (v :: w :: v :: w :: r) σ post else False
    | _ => False)
  | .pop => (match st with
    | v :: r => bif vone v then P d y nx ls r σ post else False
    | _ => False)
  | .ifCond .eq _ => vI1 st (fun a r => (a = 0 → P d y tg ls r σ post) ∧ (¬ a = 0 → P d y nx ls r σ post))
  | .ifCond .ne _ => vI1 st (fun a r => (¬ a = 0 → P d y tg ls r σ post) ∧ (a = 0 → P d y nx ls r σ post))
  | .ifCond .lt _ => vI1 st (fun a r => (a < 0 → P d y tg ls r σ post) ∧ (¬ a < 0 → P d y nx ls r σ post))
  | .ifCond .ge _ => vI1 st (fun a r => (0 ≤ a → P d y tg ls r σ post) ∧ (¬ 0 ≤ a → P d y nx ls r σ post))
  | .ifCond .gt _ => vI1 st (fun a r => (0 < a → P d y tg ls r σ post) ∧ (¬ 0 < a → P d y nx ls r σ post))
  | .ifCond .le _ => vI1 st (fun a r => (a ≤ 0 → P d y tg ls r σ post) ∧ (¬ a ≤ 0 → P d y nx ls r σ post))
  | .if_icmp .eq _ => vI2 st (fun a b r => (a = b → P d y tg ls r σ post) ∧ (¬ a = b → P d y nx ls r σ post))
  | .if_icmp .ne _ => vI2 st (fun a b r => (¬ a = b → P d y tg ls r σ post) ∧ (a = b → P d y nx ls r σ post))
  | .if_icmp .lt _ => vI2 st (fun a b r => (a < b → P d y tg ls r σ post) ∧ (¬ a < b → P d y nx ls r σ post))
  | .if_icmp .ge _ => vI2 st (fun a b r => (b ≤ a → P d y tg ls r σ post) ∧ (¬ b ≤ a → P d y nx ls r σ post))
  | .if_icmp .gt _ => vI2 st (fun a b r => (b < a → P d y tg ls r σ post) ∧ (¬ b < a → P d y nx ls r σ post))
  | .if_icmp .le _ => vI2 st (fun a b r => (a ≤ b → P d y tg ls r σ post) ∧ (¬ a ≤ b → P d y nx ls r σ post))
  | .goto _ => P d y tg ls st σ post
  | .ifnull _ => (match st with
    | .null :: r => P d y tg ls r σ post
    | .ref x :: r => bif Nat.ble x 1007 then P d y nx ls r σ post else False
    | _ => False)
  | .tableswitch _ _ _ _ => vI1 st (fun a r => match vswfind vSw y pc with
    | some (l, df) => vswF (fun t => P d y t ls r σ post) a df l
    | none => False)
  | .lookupswitch _ _ => vI1 st (fun a r => match vswfind vSw y pc with
    | some (l, df) => vswF (fun t => P d y t ls r σ post) a df l
    | none => False)
  | .iaload => vald G σ 0 st (fun v r => P d y nx ls (v :: r) σ post)
  | .baload => vald G σ 1 st (fun v r => P d y nx ls (v :: r) σ post)
  | .aaload => vald G σ 2 st (fun v r => P d y nx ls (v :: r) σ post)
  | .iastore => vast G σ 0 st (fun σ r => P d y nx ls r σ post)
  | .bastore => vast G σ 1 st (fun σ r => P d y nx ls r σ post)
  | .arraylength => valen G st (fun n r => P d y nx ls (.int n :: r) σ post)
  | .getfield idx => vgetf G σ (vYk y) idx st (fun v r => P d y nx ls (v :: r) σ post)
  | .putfield idx => vputf G σ (vYk y) idx st (fun σ r => P d y nx ls r σ post)
  | .getstatic idx => (match vfind (vPs (vYk y)) idx with
    | some v => P d y nx ls (v :: st) σ post
    | none => False)
  | .ldc idx => vldc (vYk y) idx st (fun r => P d y nx ls r σ post)
  | .ldc_w idx => (match vfind (vPk (vYk y)) idx with
    | some (.int x) => P d y nx ls (.int x :: st) σ post
    | _ => False)
  | .ldc2_w idx => vldc2 (vYk y) idx st (fun r => P d y nx ls r σ post)
  | .invokestatic idx => vcall G P d y nx (vYk y) idx 0 ls st σ post
  | .invokevirtual idx => vcall G P d y nx (vYk y) idx 1 ls st σ post
  | .ireturn => (match st with
    | [.int x] => vretI y x (post (some (.int x)) σ)
    | _ => False)
  | .lreturn => (match st with
    | [.long x] => (match vYr y with | some .long => post (some (.long x)) σ | _ => False)
    | _ => False)
  | .areturn => (match st with
    | [.ref x] => (match vYr y with | some (.object _) => post (some (.ref x)) σ | some (.array _) => post (some (.ref x)) σ | _ => False)
    | [.null] => (match vYr y with | some (.object _) => post (some .null) σ | some (.array _) => post (some .null) σ | _ => False)
    | _ => False)
  | .return_ => (match st with
    | [] => (match vYr y with | none => post none σ | _ => False)
    | _ => False)
  | _ => False
def vF (G : vG) (P : vP) : vP := fun d y pc ls st σ post => match vfind (vTb y) pc with
  | some (i, nx, tg, im) => vX G P d y ls st σ post pc nx tg im i
  | none => False
/-- the virtual machine comes from this configuration to the method's end, with 'post': the least such predicate -/
def VM (G : vG) : vP := fun d y pc ls st σ post => ∀ P : vP, (∀ d y pc ls st σ post, vF G P d y pc ls st σ post → P d y pc ls st σ post) → P d y pc ls st σ post
def vle (P Q : vP) : Prop := ∀ d y pc ls st σ post, P d y pc ls st σ post → Q d y pc ls st σ post
end
section
/-! ===== SOUND: what the virtual machine says holds of the machine ===== -/
/-- the actual value of a virtual one: ad gives each cell's (and each constant's) address, ef the one unknown reference -/
def vcv (ad : Nat → Nat) (ef : Value) : Value → Value
  | .ref r => bif Nat.beq r 1008 then ef else .ref (ad r)
  | v => v
theorem vcv_r {ad : Nat → Nat} {ef : Value} {r : Nat} : vcv ad ef (.ref r) = bif Nat.beq r 1008 then ef else .ref (ad r) := rfl
def vfld (ad : Nat → Nat) (σ : vM) (i k : Nat) (f : Nat × Nat) : Value := match f.1 with
  | 1 => .ref (ad f.2)
  | 2 => .long (σ.2 i k)
  | 3 => .ref (ad (σ.1 i k).toNatClampNeg)
  | _ => .int (σ.1 i k)
def vflds (ad : Nat → Nat) (σ : vM) (i : Nat) (fs : List (Nat × Nat)) : List Value := (List.range fs.length).map (fun k => vfld ad σ i k (fs.getD k (0, 0)))
def vcell (ad : Nat → Nat) (cA : Nat → ClassId) (σ : vM) (i : Nat) : va_E := match vlayT i with
  | .inl (t, n, es) => .inl (cA i, n, bif Nat.ble t 1 then .inl (σ.1 i) else .inr (.inr (.inr (.inr (fun k => some (ad (es.getD k 0)))))))
  | .inr (ci, fs) => .inr (ci, vflds ad σ i fs)
def vsz (G : vG) : Nat := bif G.1 then 83 else 58
def vwd (G : vG) (ad : Nat → Nat) (cA : Nat → ClassId) (σ : vM) : va_W := (List.range (vsz G)).map (fun i => (ad i, vcell ad cA σ i))
def vty (t : Nat) : FieldType := match t with
  | 0 => .int
  | 1 => .boolean
  | 2 => .object RX4
  | _ => .object RX3
def vKt (G : vG) (D : va_G) (cA : Nat → ClassId) (U : State) : Prop := va_K D vwCl [] U ∧ ∀ (i t n : Nat) (es : List Nat), vlay G i = some (.inl (t, n, es)) → ArrOfT U (cA i) (vty t) ∧ va_RA U (cA i) (vty t)
theorem vKt.moved {G : vG} {D : va_G} {cA : Nat → ClassId} {u U : State} (hvm : u.vm.Alike U.vm) (h : vKt G D cA u) : vKt G D cA U := ⟨h.1.moved hvm, fun i t n es hl => ⟨arrOfT_moved hvm (h.2 i t n es hl).1, (h.2 i t n es hl).2.moved hvm⟩⟩
theorem vKt.one {G : vG} {D : va_G} {cA : Nat → ClassId} {U : State} (h : vKt G D cA U) {i t n : Nat} {es : List Nat} (hl : vlay G i = some (.inl (t, n, es))) : va_K D vwCl [(cA i, vty t)] U := by
  refine ⟨h.1.1, fun k q hk => ?_⟩
  cases k with
  | zero => cases hk; exact h.2 i t n es hl
  | succ k => simp at hk
theorem vKt.two {G : vG} {D : va_G} {cA : Nat → ClassId} {U : State} (h : vKt G D cA U) {i t n i2 t2 n2 : Nat} {es es2 : List Nat} (hl : vlay G i = some (.inl (t, n, es))) (hl2 : vlay G i2 = some (.inl (t2, n2, es2))) : va_K D vwCl [(cA i, vty t), (cA i2, vty t2)] U := by
  refine ⟨h.1.1, fun k q hk => ?_⟩
  match k, hk with
  | 0, hk => cases hk; exact h.2 i t n es hl
  | 1, hk => cases hk; exact h.2 i2 t2 n2 es2 hl2
  | k + 2, hk => simp at hk
def vCn (G : vG) (ad : Nat → Nat) (ef : Value) (A : Nat → Prop) (U : State) (H : Heap) : Prop :=
  vk_S 2 [32, 68] [vFirst, vWords] (fun i => ad (1000 + i)) (fun i => ad (1002 + i)) A U H ∧ vk_R RX6 60 "dues years ; offs 0 ; extras 3 ;" (ad 1000) U ∧ vk_R RX2 106 "years nights number night cloudy lights dues offs extras or and not " (ad 1001) U ∧
  va_Z "LightYearsAreOwed" "UNDER" "[I" (.ref (ad 1004)) A U H ∧ va_Z "LightYearsAreOwed" "LEAST" "[I" (.ref (ad 1005)) A U H ∧ va_Z "LightYearsAreOwed" "MOST" "[I" (.ref (ad 1006)) A U H ∧
  va_Z "java/lang/String" "COMPACT_STRINGS" "Z" (.int 1) A U H ∧ va_Z "jdk/internal/util/Preconditions" "SIOOBE_FORMATTER" "Ljava/util/function/BiFunction;" ef A U H ∧ (ef = .null ∨ ∃ t, ef = .ref t) ∧
  ∀ (r t n : Nat) (f : Nat → Int32), vcon G r = some (t, n, f) → n < 2 ^ 31 ∧ va_T (if t = 1 then .byte else .int) (ad r) n (fun j => .int (f j)) A U H
theorem vCn.next {G : vG} {ad : Nat → Nat} {ef : Value} {A B : Nat → Prop} {s U : State} {H : Heap} (hW : s.WarmedH U.vm) (hq : ∀ a : Nat, a < s.heap.size → ¬ A a → H[a]? = s.heap[a]?) (hU : U.heap = H) (hAB : ∀ q, B q → A q) (h : vCn G ad ef A s s.heap) : vCn G ad ef B U U.heap := by
  obtain ⟨h1, h2, h3, h4, h5, h6, h7, h8, h9, h10⟩ := h
  subst hU
  exact ⟨((h1.moved hW.alike).kept hq).narrow hAB, h2.warm hW, h3.warm hW, ((h4.moved hW.alike).kept hq).narrow hAB, ((h5.moved hW.alike).kept hq).narrow hAB, ((h6.moved hW.alike).kept hq).narrow hAB, ((h7.moved hW.alike).kept hq).narrow hAB, ((h8.moved hW.alike).kept hq).narrow hAB, h9, fun r t n f hr => ⟨(h10 r t n f hr).1, (((h10 r t n f hr).2.moved hW.alike).kept hq).narrow hAB⟩⟩
def vlok (ad : Nat → Nat) (ef : Value) (L : Array Slot) (ls : vL) : Prop := L.size = ls.length ∧ lv_wf L ∧ ∀ (i : Nat) (v : Value), vget ls i = some v → L[i]? = some (.val (vcv ad ef v))
theorem vset_len {α : Type} (l : List (Option α)) (k : Nat) (v : Option α) : (vset l k v).length = l.length := by
  induction l generalizing k with
  | nil => rfl
  | cons a l ih => cases k with
    | zero => rfl
    | succ k => simp [vset, ih]
theorem vget_set {α : Type} (l : List (Option α)) (k : Nat) (v : Option α) (i : Nat) : vget (vset l k v) i = if i = k ∧ k < l.length then v else vget l i := by
  induction l generalizing k i with
  | nil => simp [vset, vget]
  | cons a l ih =>
    cases k with
    | zero => cases i with
      | zero => simp [vset, vget]
      | succ i => simp [vset, vget]
    | succ k => cases i with
      | zero => simp [vset, vget]
      | succ i => simp [vset, vget, ih]
theorem vget_lt {α : Type} {l : List (Option α)} {i : Nat} {v : α} (h : vget l i = some v) : i < l.length := by
  induction l generalizing i with
  | nil => cases h
  | cons a l ih => cases i with
    | zero => simp
    | succ i => have := ih (i := i) h; simp; omega
def vprs (ad : Nat → Nat) (ef : Value) (ls : vL) : List (Nat × Value) := (List.range ls.length).filterMap (fun i => (vget ls i).map (fun v => (i, vcv ad ef v)))
theorem vprs_mem {ad : Nat → Nat} {ef : Value} {ls : vL} {q : Nat × Value} : q ∈ vprs ad ef ls ↔ ∃ v, vget ls q.1 = some v ∧ q.2 = vcv ad ef v := by
  unfold vprs
  rw [List.mem_filterMap]
  constructor
  · rintro ⟨i, -, h⟩
    cases hv : vget ls i with
    | none => rw [hv] at h; cases h
    | some v => rw [hv] at h; cases h; exact ⟨v, hv, rfl⟩
  · rintro ⟨v, hv, e⟩
    exact ⟨q.1, List.mem_range.mpr (vget_lt hv), by rw [hv]; simp [← e]⟩
theorem vlok.has {ad : Nat → Nat} {ef : Value} {L : Array Slot} {ls : vL} (h : vlok ad ef L ls) : lv_has L ls.length (vprs ad ef ls) := by
  refine ⟨h.1, h.2.1, fun q hq => ?_⟩
  obtain ⟨v, hv, e⟩ := vprs_mem.mp hq
  rw [e]
  exact h.2.2 _ _ hv
theorem vcv_cat {ad : Nat → Nat} {ef : Value} (he : ef.category = 1) (v : Value) : (vcv ad ef v).category = v.category := by
  cases v with
  | ref r =>
    rw [vcv_r]
    cases Nat.beq r 1008 with
    | true => exact he
    | false => rfl
  | _ => rfl
theorem vlok.st1 {ad : Nat → Nat} {ef : Value} (he : ef.category = 1) {L : Array Slot} {ls : vL} {k : Nat} {v : Value} (hf : vfree ls k = true) (h : lv_has L ls.length ((k, vcv ad ef v) :: (vprs ad ef ls).filter (fun q => !(q.1 == k) && !(q.1 + 1 == k && q.2.category == 2)))) : vlok ad ef L (vset ls k (some v)) := by
  refine ⟨by rw [vset_len]; exact h.1, h.2.1, fun i w hw => ?_⟩
  rw [vget_set] at hw
  by_cases hi : i = k
  · subst hi
    by_cases hl : i < ls.length
    · rw [if_pos ⟨rfl, hl⟩] at hw
      cases hw
      exact h.2.2 (i, vcv ad ef v) List.mem_cons_self
    · rw [if_neg (fun q => hl q.2)] at hw
      exact absurd (vget_lt hw) hl
  · rw [if_neg (fun q => hi q.1)] at hw
    refine h.2.2 (i, vcv ad ef w) (List.mem_cons_of_mem _ (List.mem_filter.mpr ⟨vprs_mem.mpr ⟨w, hw, rfl⟩, ?_⟩))
    have h1 : ¬ (i + 1 = k ∧ (vcv ad ef w).category = 2) := by
      rintro ⟨e, h2⟩
      subst e
      unfold vfree at hf
      simp only [hw] at hf
      have := Nat.eq_of_beq_eq_true hf
      rw [vcv_cat he] at h2
      omega
    simp only [Bool.and_eq_true, Bool.not_eq_true', beq_eq_false_iff_ne, ne_eq, Bool.and_eq_false_iff]
    refine ⟨hi, ?_⟩
    by_cases e : i + 1 = k
    · exact Or.inr (fun q => h1 ⟨e, q⟩)
    · exact Or.inl e
theorem vlok.st2 {ad : Nat → Nat} {ef : Value} (he : ef.category = 1) {L : Array Slot} {ls : vL} {k : Nat} {x : Int64} (hf : vfree ls k = true) (h : lv_has L ls.length ((k, .long x) :: (vprs ad ef ls).filter (fun q => !(q.1 == k) && (!(q.1 == k + 1) && !(q.1 + 1 == k && q.2.category == 2))))) : vlok ad ef L (vset (vset ls k (some (.long x))) (k + 1) none) := by
  refine ⟨by rw [vset_len, vset_len]; exact h.1, h.2.1, fun i w hw => ?_⟩
  rw [vget_set, vset_len] at hw
  by_cases hi1 : i = k + 1
  · subst hi1
    by_cases hl : k + 1 < ls.length
    · rw [if_pos ⟨rfl, hl⟩] at hw; cases hw
    · rw [if_neg (fun q => hl q.2), vget_set, if_neg (fun q => by omega)] at hw
      exact absurd (vget_lt hw) hl
  rw [if_neg (fun q => hi1 q.1), vget_set] at hw
  by_cases hi : i = k
  · subst hi
    by_cases hl : i < ls.length
    · rw [if_pos ⟨rfl, hl⟩] at hw
      cases hw
      exact h.2.2 (i, .long x) List.mem_cons_self
    · rw [if_neg (fun q => hl q.2)] at hw
      exact absurd (vget_lt hw) hl
  · rw [if_neg (fun q => hi q.1)] at hw
    refine h.2.2 (i, vcv ad ef w) (List.mem_cons_of_mem _ (List.mem_filter.mpr ⟨vprs_mem.mpr ⟨w, hw, rfl⟩, ?_⟩))
    have h1 : ¬ (i + 1 = k ∧ (vcv ad ef w).category = 2) := by
      rintro ⟨e, h2⟩
      subst e
      unfold vfree at hf
      simp only [hw] at hf
      have := Nat.eq_of_beq_eq_true hf
      rw [vcv_cat he] at h2
      omega
    simp only [Bool.and_eq_true, Bool.not_eq_true', beq_eq_false_iff_ne, ne_eq, Bool.and_eq_false_iff]
    refine ⟨hi, hi1, ?_⟩
    by_cases e : i + 1 = k
    · exact Or.inr (fun q => h1 ⟨e, q⟩)
    · exact Or.inl e
/-- cells of the world -/
theorem vlay_some {G : vG} {i : Nat} {x : vC} (h : vlay G i = some x) : i < vsz G ∧ vlayT i = x := by
  unfold vlay at h
  cases hv : vok G i with
  | false => rw [hv] at h; cases h
  | true =>
    rw [hv] at h
    refine ⟨?_, Option.some.inj h⟩
    unfold vok at hv
    unfold vsz
    simp only [Bool.or_eq_true, Bool.and_eq_true] at hv
    rcases hv with h1 | ⟨h2, h1⟩
    · have := Nat.le_of_ble_eq_true h1
      cases G.1 <;> simp <;> omega
    · have := Nat.le_of_ble_eq_true h2
      rw [h1]; simp; omega
theorem vlay_ok {G : vG} {i : Nat} {x : vC} (h : vlay G i = some x) : vcellOk x = true := by
  obtain ⟨h1, h2⟩ := vlay_some h
  rw [← h2]
  refine List.all_eq_true.mp vcells_ok i (List.mem_range.mpr ?_)
  unfold vsz at h1
  cases hG : G.1 <;> rw [hG] at h1 <;> simp at h1 <;> omega
theorem vwd_get {G : vG} {ad : Nat → Nat} {cA : Nat → ClassId} {σ : vM} {i : Nat} (h : i < vsz G) : (vwd G ad cA σ)[i]? = some (ad i, vcell ad cA σ i) := by
  simp [vwd, h]
theorem vwd_set {G : vG} {ad : Nat → Nat} {cA : Nat → ClassId} {σ σ' : vM} {i : Nat} {e : va_E} (h0 : i < vsz G) (h1 : ∀ j, j ≠ i → vcell ad cA σ' j = vcell ad cA σ j) (h2 : vcell ad cA σ' i = e) : (vwd G ad cA σ).set i (ad i, e) = vwd G ad cA σ' := by
  apply List.ext_getElem?
  intro j
  by_cases hj : j < vsz G
  · rw [vwd_get hj, List.getElem?_set]
    by_cases e1 : i = j
    · subst e1
      simp [vwd, h0, h2]
    · rw [if_neg e1, vwd_get hj, h1 j (fun q => e1 q.symm)]
  · have e1 : (vwd G ad cA σ').length = vsz G := by simp [vwd]
    have e2 : ((vwd G ad cA σ).set i (ad i, e)).length = vsz G := by simp [vwd]
    rw [List.getElem?_eq_none (by omega), List.getElem?_eq_none (by omega)]
theorem vwd_D {G : vG} {ad : Nat → Nat} {cA : Nat → ClassId} {σ σ' : vM} {A : Nat → Prop} (h : va_D A (vwd G ad cA σ)) : va_D A (vwd G ad cA σ') := by
  have key : ∀ (k : Nat) (q : Nat × va_E), (vwd G ad cA σ')[k]? = some q → ∃ q', (vwd G ad cA σ)[k]? = some q' ∧ q'.1 = q.1 := by
    intro k q hk
    have hl : k < vsz G := by
      rcases Nat.lt_or_ge k (vsz G) with h | h
      · exact h
      · rw [List.getElem?_eq_none (by simp [vwd]; omega)] at hk; cases hk
    rw [vwd_get hl] at hk
    cases hk
    exact ⟨_, vwd_get hl, rfl⟩
  refine ⟨fun i j p q hi hj e => ?_, fun k q hk => ?_⟩
  · obtain ⟨p', h1, e1⟩ := key i p hi
    obtain ⟨q', h2, e2⟩ := key j q hj
    exact h.1 i j p' q' h1 h2 (by rw [e1, e2]; exact e)
  · obtain ⟨q', h1, e1⟩ := key k q hk
    rw [← e1]; exact h.2 k q' h1
theorem vcell_put {ad : Nat → Nat} {cA : Nat → ClassId} {σ : vM} {a k : Nat} {x : Int32} {j : Nat} (h : j ≠ a) : vcell ad cA (vput σ a k x) j = vcell ad cA σ j := by
  have e : ∀ k', (vput σ a k x).1 j k' = σ.1 j k' := fun k' => if_neg (fun q => h q.1)
  unfold vcell
  cases vlayT j with
  | inl t => simp only [show (vput σ a k x).1 j = σ.1 j from funext e]
  | inr o =>
    have : ∀ k' f, vfld ad (vput σ a k x) j k' f = vfld ad σ j k' f := by
      intro k' f
      unfold vfld
      rw [e k']
      rfl
    simp only [vflds, this]
theorem vcell_putL {ad : Nat → Nat} {cA : Nat → ClassId} {σ : vM} {a k : Nat} {x : Int64} {j : Nat} (h : j ≠ a) : vcell ad cA (vputL σ a k x) j = vcell ad cA σ j := by
  have e : ∀ k', (vputL σ a k x).2 j k' = σ.2 j k' := fun k' => if_neg (fun q => h q.1)
  unfold vcell
  cases vlayT j with
  | inl t => rfl
  | inr o =>
    have : ∀ k' f, vfld ad (vputL σ a k x) j k' f = vfld ad σ j k' f := by
      intro k' f
      unfold vfld
      rw [e k']
      rfl
    simp only [vflds, this]
theorem vcell_copy {ad : Nat → Nat} {cA : Nat → ClassId} {σ : vM} {a sp b dp n : Nat} {j : Nat} (h : j ≠ b) : vcell ad cA (vcopy σ a sp b dp n) j = vcell ad cA σ j := by
  have e : ∀ k', (vcopy σ a sp b dp n).1 j k' = σ.1 j k' := fun k' => if_neg (fun q => h q.1)
  unfold vcell
  cases vlayT j with
  | inl t => simp only [show (vcopy σ a sp b dp n).1 j = σ.1 j from funext e]
  | inr o =>
    have : ∀ k' f, vfld ad (vcopy σ a sp b dp n) j k' f = vfld ad σ j k' f := by
      intro k' f
      unfold vfld
      rw [e k']
      rfl
    simp only [vflds, this]
theorem vflds_get {ad : Nat → Nat} {σ : vM} {i : Nat} {fs : List (Nat × Nat)} {k : Nat} {f : Nat × Nat} (h : vnth fs k = some f) : (vflds ad σ i fs)[k]? = some (vfld ad σ i k f) := by
  have h1 : fs[k]? = some f := by
    induction fs generalizing k with
    | nil => cases h
    | cons a l ih => cases k with
      | zero => exact h
      | succ k => exact ih (k := k) h
  obtain ⟨hl, he⟩ := List.getElem?_eq_some_iff.mp h1
  simp [vflds, hl, he, h1]
theorem vflds_set {ad : Nat → Nat} {σ σ' : vM} {i : Nat} {fs : List (Nat × Nat)} {k : Nat} {f : Nat × Nat} {v : Value} (h : vnth fs k = some f) (h1 : ∀ j g, j ≠ k → vfld ad σ' i j g = vfld ad σ i j g) (h2 : vfld ad σ' i k f = v) : (vflds ad σ i fs).set k v = vflds ad σ' i fs := by
  apply List.ext_getElem?
  intro j
  have hk : fs[k]? = some f := by
    clear h1 h2
    induction fs generalizing k with
    | nil => cases h
    | cons a l ih => cases k with
      | zero => exact h
      | succ k => exact ih (k := k) h
  obtain ⟨hl, he⟩ := List.getElem?_eq_some_iff.mp hk
  rw [List.getElem?_set]
  by_cases e : k = j
  · subst e
    simp [vflds, hl, hk, he, h2]
  · rw [if_neg e]
    by_cases hj : j < fs.length
    · simp [vflds, hj, h1 j _ (fun q => e q.symm)]
    · rw [List.getElem?_eq_none (by simp [vflds]; omega), List.getElem?_eq_none (by simp [vflds]; omega)]
end
section
def vrt (y : Nat) (i : Instr) (v : Option Value) : Prop :=
  (i = .ireturn ∧ ∃ (x : Int32) (ty : FieldType), v = some (.int x) ∧ vYr y = some ty ∧ narrow ty (.int x) = .int x) ∨ (i = .lreturn ∧ ∃ x : Int64, v = some (.long x) ∧ vYr y = some .long) ∨
  (i = .areturn ∧ ∃ (r : Value) (rt : FieldType), v = some r ∧ (r = .null ∨ ∃ x, r = .ref x) ∧ vYr y = some rt ∧ ((∃ n, rt = .object n) ∨ ∃ t, rt = .array t)) ∨ (i = .return_ ∧ v = none ∧ vYr y = none)
def vEnd (l : Launch) (G : vG) (p : Program) (e : Env) (R : Room) (s : State) (m : MethodId) (args : Array Value) (below : List Frame) (meth : Method) (c : Code) (A : Nat → Prop) (ad : Nat → Nat) (cA : Nat → ClassId) (D : va_G) (ef : Value) (cells slots : Nat) (Q : State → Prop) (y : Nat) (post : vQ) : Prop :=
  ∀ (H : Heap) (locs : List Loc) (L : Array Slot) (pc : Nat) (v : Option Value) (σ : vM) (i : Instr), post v σ → decode (vYc y) pc = .ok (i, 1) → vrt y i v → va_P D vwCl (vwd G ad cA σ) H → va_S A s.heap H locs → W p l e R s m args below meth c H locs cells slots Q (F0 m pc L (v.toList.map (vcv ad ef)))
def vCf (G : vG) (p : Program) (R : Room) (s : State) (m : MethodId) (args : Array Value) (c : Code) (A : Nat → Prop) (ad : Nat → Nat) (cA : Nat → ClassId) (D : va_G) (ef : Value) (cells slots d y : Nat) : Prop :=
  p.tables.exec = Jvm.exec ∧ c.code = vYc y ∧ c.maxLocals = vYl y ∧ s.vm.findClass (vcn (vYk y)) = some m.cls ∧ (∀ w ∈ wsL_law, w.before args s = true) ∧ vKt G D cA s ∧ vCn G ad ef A s s.heap ∧ (∀ q : Nat, s.heap.size ≤ q → A q) ∧ (∀ σ, va_D A (vwd G ad cA σ)) ∧ (d ≤ R.frames ∧ 64 * d ≤ R.locals ∧ cells ≤ R.cells ∧ slots ≤ R.slots)
def vS (l : Launch) (G : vG) : vP := fun d y pc ls st σ post =>
  ∀ (p : Program) (e : Env) (R : Room) (s : State) (m : MethodId) (args : Array Value) (below : List Frame) (meth : Method) (c : Code) (A : Nat → Prop) (ad : Nat → Nat) (cA : Nat → ClassId) (D : va_G) (ef : Value) (cells slots : Nat) (Q : State → Prop),
    vCf G p R s m args c A ad cA D ef cells slots d y → vEnd l G p e R s m args below meth c A ad cA D ef cells slots Q y post →
    ∀ (H : Heap) (locs : List Loc) (L : Array Slot), va_P D vwCl (vwd G ad cA σ) H → va_S A s.heap H locs → vlok ad ef L ls → ls.length = vYl y → W p l e R s m args below meth c H locs cells slots Q (F0 m pc L (st.map (vcv ad ef)))
theorem vef_cat {G : vG} {ad : Nat → Nat} {ef : Value} {A : Nat → Prop} {U : State} {H : Heap} (h : vCn G ad ef A U H) : ef.category = 1 := by
  obtain ⟨-, -, -, -, -, -, -, -, h9, -⟩ := h
  rcases h9 with rfl | ⟨t, rfl⟩ <;> rfl
theorem vI1_e {st : List Value} {k : Int32 → List Value → Prop} (h : vI1 st k) : ∃ a r, st = .int a :: r ∧ k a r := by
  unfold vI1 at h
  split at h
  · exact ⟨_, _, rfl, h⟩
  · cases h
theorem vI2_e {st : List Value} {k : Int32 → Int32 → List Value → Prop} (h : vI2 st k) : ∃ a b r, st = .int b :: .int a :: r ∧ k a b r := by
  unfold vI2 at h
  split at h
  · exact ⟨_, _, _, rfl, h⟩
  · cases h
theorem vL2_e {st : List Value} {k : Int64 → Int64 → List Value → Prop} (h : vL2 st k) : ∃ a b r, st = .long b :: .long a :: r ∧ k a b r := by
  unfold vL2 at h
  split at h
  · exact ⟨_, _, _, rfl, h⟩
  · cases h
theorem vldI_e {ls : vL} {i : Nat} {k : Value → Prop} (h : vldI ls i k) : ∃ x, vget ls i = some (.int x) ∧ k (.int x) := by
  unfold vldI at h
  split at h
  · exact ⟨_, by assumption, h⟩
  · cases h
theorem vldL_e {ls : vL} {i : Nat} {k : Value → Prop} (h : vldL ls i k) : ∃ x, vget ls i = some (.long x) ∧ k (.long x) := by
  unfold vldL at h
  split at h
  · exact ⟨_, by assumption, h⟩
  · cases h
theorem vldA_e {ls : vL} {i : Nat} {k : Value → Prop} (h : vldA ls i k) : (∃ x, vget ls i = some (.ref x) ∧ k (.ref x)) ∨ (vget ls i = some .null ∧ k .null) := by
  unfold vldA at h
  split at h
  · exact Or.inl ⟨_, by assumption, h⟩
  · exact Or.inr ⟨by assumption, h⟩
  · cases h
theorem vcond {b : Bool} {P : Prop} (h : bif b then P else False) : b = true ∧ P := by
  cases b
  · cases h
  · exact ⟨rfl, h⟩
theorem vstI_e {ls : vL} {st : List Value} {i : Nat} {k : vL → List Value → Prop} (h : vstI ls st i k) : ∃ x r, st = .int x :: r ∧ vfree ls i = true ∧ i < ls.length ∧ k (vset ls i (some (.int x))) r := by
  unfold vstI at h
  split at h
  · obtain ⟨h1, h2⟩ := vcond h
    simp only [Bool.and_eq_true] at h1
    exact ⟨_, _, rfl, h1.1, Nat.le_of_ble_eq_true h1.2, h2⟩
  · cases h
theorem vstL_e {ls : vL} {st : List Value} {i : Nat} {k : vL → List Value → Prop} (h : vstL ls st i k) : ∃ x r, st = .long x :: r ∧ vfree ls i = true ∧ i + 1 < ls.length ∧ k (vset (vset ls i (some (.long x))) (i + 1) none) r := by
  unfold vstL at h
  split at h
  · obtain ⟨h1, h2⟩ := vcond h
    simp only [Bool.and_eq_true] at h1
    exact ⟨_, _, rfl, h1.1, Nat.le_of_ble_eq_true h1.2, h2⟩
  · cases h
theorem vstA_e {ls : vL} {st : List Value} {i : Nat} {k : vL → List Value → Prop} (h : vstA ls st i k) : ∃ v r, st = v :: r ∧ (v = .null ∨ ∃ x, v = .ref x ∧ x ≤ 1007) ∧ vfree ls i = true ∧ i < ls.length ∧ k (vset ls i (some v)) r := by
  unfold vstA at h
  split at h
  · obtain ⟨h1, h2⟩ := vcond h
    simp only [Bool.and_eq_true] at h1
    exact ⟨_, _, rfl, Or.inr ⟨_, rfl, Nat.le_of_ble_eq_true h1.2.2⟩, h1.1, Nat.le_of_ble_eq_true h1.2.1, h2⟩
  · obtain ⟨h1, h2⟩ := vcond h
    simp only [Bool.and_eq_true] at h1
    exact ⟨_, _, rfl, Or.inl rfl, h1.1, Nat.le_of_ble_eq_true h1.2, h2⟩
  · cases h
theorem vcv_ref {ad : Nat → Nat} {ef : Value} {x : Nat} (h : x ≤ 1007) : vcv ad ef (.ref x) = .ref (ad x) := by
  rw [vcv_r]
  cases hb : Nat.beq x 1008 with
  | false => rfl
  | true => have := Nat.eq_of_beq_eq_true hb; omega
section SN
variable {l : Launch} {G : vG} {d y pc nx : Nat} {ls : vL} {st : List Value} {σ : vM} {post : vQ}
theorem vs_iconst {n : Int} {im : Int32} (hd : decode (vYc y) pc = .ok (.iconst n, 1)) (hi : Int32.ofInt n = im) (h : vS l G d y (pc + 1) ls (.int im :: st) σ post) : vS l G d y pc ls st σ post := fun p e R s m args below meth c A ad cA D ef cells slots Q hF hE H locs L hP hS hL hn => lv_iconst hF.1 hF.2.1 hd hi (h p e R s m args below meth c A ad cA D ef cells slots Q hF hE H locs _ hP hS hL hn)
theorem vs_bipush {n : Int} {im : Int32} (hd : decode (vYc y) pc = .ok (.bipush n, 2)) (hi : (Int8.ofInt n).toInt32 = im) (h : vS l G d y (pc + 2) ls (.int im :: st) σ post) : vS l G d y pc ls st σ post := fun p e R s m args below meth c A ad cA D ef cells slots Q hF hE H locs L hP hS hL hn => lv_bipush hF.1 hF.2.1 hd hi (h p e R s m args below meth c A ad cA D ef cells slots Q hF hE H locs _ hP hS hL hn)
theorem vs_sipush {n : Int} {im : Int32} (hd : decode (vYc y) pc = .ok (.sipush n, 3)) (hi : (Int16.ofInt n).toInt32 = im) (h : vS l G d y (pc + 3) ls (.int im :: st) σ post) : vS l G d y pc ls st σ post := fun p e R s m args below meth c A ad cA D ef cells slots Q hF hE H locs L hP hS hL hn => lv_sipush hF.1 hF.2.1 hd hi (h p e R s m args below meth c A ad cA D ef cells slots Q hF hE H locs _ hP hS hL hn)
theorem vs_lconst {n : Fin 2} (hd : decode (vYc y) pc = .ok (.lconst n, 1)) (h : vS l G d y (pc + 1) ls (.long (Int64.ofNat n.val) :: st) σ post) : vS l G d y pc ls st σ post := fun p e R s m args below meth c A ad cA D ef cells slots Q hF hE H locs L hP hS hL hn => lv_lconst hF.1 hF.2.1 hd rfl (h p e R s m args below meth c A ad cA D ef cells slots Q hF hE H locs _ hP hS hL hn)
theorem vs_aconst_null (hd : decode (vYc y) pc = .ok (.aconst_null, 1)) (h : vS l G d y (pc + 1) ls (.null :: st) σ post) : vS l G d y pc ls st σ post := fun p e R s m args below meth c A ad cA D ef cells slots Q hF hE H locs L hP hS hL hn => lv_null hF.1 hF.2.1 hd (h p e R s m args below meth c A ad cA D ef cells slots Q hF hE H locs _ hP hS hL hn)
theorem vs_iload {k : Nat} (hd : decode (vYc y) pc = .ok (.iload k, 2)) (h : vldI ls k (fun v => vS l G d y (pc + 2) ls (v :: st) σ post)) : vS l G d y pc ls st σ post := by
  obtain ⟨x, hx, h⟩ := vldI_e h
  intro p e R s m args below meth c A ad cA D ef cells slots Q hF hE H locs L hP hS hL hn
  exact lv_iload hF.1 hF.2.1 hd (hL.2.2 _ _ hx) (h p e R s m args below meth c A ad cA D ef cells slots Q hF hE H locs _ hP hS hL hn)
theorem vs_iload_n {k : Fin 4} (hd : decode (vYc y) pc = .ok (.iload_n k, 1)) (h : vldI ls k.val (fun v => vS l G d y (pc + 1) ls (v :: st) σ post)) : vS l G d y pc ls st σ post := by
  obtain ⟨x, hx, h⟩ := vldI_e h
  intro p e R s m args below meth c A ad cA D ef cells slots Q hF hE H locs L hP hS hL hn
  exact lv_iload_n hF.1 hF.2.1 hd rfl (hL.2.2 _ _ hx) (h p e R s m args below meth c A ad cA D ef cells slots Q hF hE H locs _ hP hS hL hn)
theorem vs_lload {k : Nat} (hd : decode (vYc y) pc = .ok (.lload k, 2)) (h : vldL ls k (fun v => vS l G d y (pc + 2) ls (v :: st) σ post)) : vS l G d y pc ls st σ post := by
  obtain ⟨x, hx, h⟩ := vldL_e h
  intro p e R s m args below meth c A ad cA D ef cells slots Q hF hE H locs L hP hS hL hn
  exact lv_lload hF.1 hF.2.1 hd (hL.2.2 _ _ hx) (h p e R s m args below meth c A ad cA D ef cells slots Q hF hE H locs _ hP hS hL hn)
theorem vs_lload_n {k : Fin 4} (hd : decode (vYc y) pc = .ok (.lload_n k, 1)) (h : vldL ls k.val (fun v => vS l G d y (pc + 1) ls (v :: st) σ post)) : vS l G d y pc ls st σ post := by
  obtain ⟨x, hx, h⟩ := vldL_e h
  intro p e R s m args below meth c A ad cA D ef cells slots Q hF hE H locs L hP hS hL hn
  exact lv_lload_n hF.1 hF.2.1 hd rfl (hL.2.2 _ _ hx) (h p e R s m args below meth c A ad cA D ef cells slots Q hF hE H locs _ hP hS hL hn)
theorem vs_aload {k : Nat} (hd : decode (vYc y) pc = .ok (.aload k, 2)) (h : vldA ls k (fun v => vS l G d y (pc + 2) ls (v :: st) σ post)) : vS l G d y pc ls st σ post := by
  rcases vldA_e h with ⟨x, hx, h⟩ | ⟨hx, h⟩
  · intro p e R s m args below meth c A ad cA D ef cells slots Q hF hE H locs L hP hS hL hn
    have h0 := hL.2.2 _ _ hx
    have h1 : W p l e R s m args below meth c H locs cells slots Q (F0 m (pc + 2) L (vcv ad ef (.ref x) :: st.map (vcv ad ef))) := (h p e R s m args below meth c A ad cA D ef cells slots Q hF hE H locs _ hP hS hL hn)
    have hC := hF.2.2.2.2.2.2.1
    revert h0 h1
    have hv : vcv ad ef (.ref x) = .null ∨ ∃ t, vcv ad ef (.ref x) = .ref t := by
      rw [vcv_r]
      cases Nat.beq x 1008 with
      | true =>
        obtain ⟨-, -, -, -, -, -, -, -, h9, -⟩ := hC
        exact h9
      | false => exact Or.inr ⟨_, rfl⟩
    rcases hv with hv | ⟨t, hv⟩ <;> rw [hv] <;> intro h0 h1
    · exact lv_aloadN hF.1 hF.2.1 hd h0 h1
    · exact lv_aload hF.1 hF.2.1 hd h0 h1
  · intro p e R s m args below meth c A ad cA D ef cells slots Q hF hE H locs L hP hS hL hn
    exact lv_aloadN hF.1 hF.2.1 hd (hL.2.2 _ _ hx) (h p e R s m args below meth c A ad cA D ef cells slots Q hF hE H locs _ hP hS hL hn)
theorem vs_aload_n {k : Fin 4} (hd : decode (vYc y) pc = .ok (.aload_n k, 1)) (h : vldA ls k.val (fun v => vS l G d y (pc + 1) ls (v :: st) σ post)) : vS l G d y pc ls st σ post := by
  rcases vldA_e h with ⟨x, hx, h⟩ | ⟨hx, h⟩
  · intro p e R s m args below meth c A ad cA D ef cells slots Q hF hE H locs L hP hS hL hn
    have h0 := hL.2.2 _ _ hx
    have h1 : W p l e R s m args below meth c H locs cells slots Q (F0 m (pc + 1) L (vcv ad ef (.ref x) :: st.map (vcv ad ef))) := (h p e R s m args below meth c A ad cA D ef cells slots Q hF hE H locs _ hP hS hL hn)
    have hC := hF.2.2.2.2.2.2.1
    revert h0 h1
    have hv : vcv ad ef (.ref x) = .null ∨ ∃ t, vcv ad ef (.ref x) = .ref t := by
      rw [vcv_r]
      cases Nat.beq x 1008 with
      | true =>
        obtain ⟨-, -, -, -, -, -, -, -, h9, -⟩ := hC
        exact h9
      | false => exact Or.inr ⟨_, rfl⟩
    rcases hv with hv | ⟨t, hv⟩ <;> rw [hv] <;> intro h0 h1
    · exact lv_aload_nN hF.1 hF.2.1 hd rfl h0 h1
    · exact lv_aload_n hF.1 hF.2.1 hd rfl h0 h1
  · intro p e R s m args below meth c A ad cA D ef cells slots Q hF hE H locs L hP hS hL hn
    exact lv_aload_nN hF.1 hF.2.1 hd rfl (hL.2.2 _ _ hx) (h p e R s m args below meth c A ad cA D ef cells slots Q hF hE H locs _ hP hS hL hn)
theorem vs_istore {k : Nat} (hd : decode (vYc y) pc = .ok (.istore k, 2)) (h : vstI ls st k (fun ls r => vS l G d y (pc + 2) ls r σ post)) : vS l G d y pc ls st σ post := by
  obtain ⟨x, r, rfl, hf, hk, h⟩ := vstI_e h
  intro p e R s m args below meth c A ad cA D ef cells slots Q hF hE H locs L hP hS hL hn
  exact lv_istore hF.1 hF.2.1 hd hL.has hk rfl (fun L' hL' => h p e R s m args below meth c A ad cA D ef cells slots Q hF hE H locs L' hP hS (vlok.st1 (vef_cat hF.2.2.2.2.2.2.1) (v := .int x) hf hL') (by rw [vset_len]; exact hn))
theorem vs_astore {k : Nat} (hd : decode (vYc y) pc = .ok (.astore k, 2)) (h : vstA ls st k (fun ls r => vS l G d y (pc + 2) ls r σ post)) : vS l G d y pc ls st σ post := by
  obtain ⟨v, r, rfl, hv, hf, hk, h⟩ := vstA_e h
  rcases hv with rfl | ⟨x, rfl, hx⟩
  · intro p e R s m args below meth c A ad cA D ef cells slots Q hF hE H locs L hP hS hL hn
    exact lv_astoreN hF.1 hF.2.1 hd hL.has hk rfl (fun L' hL' => h p e R s m args below meth c A ad cA D ef cells slots Q hF hE H locs L' hP hS (vlok.st1 (vef_cat hF.2.2.2.2.2.2.1) (v := .null) hf hL') (by rw [vset_len]; exact hn))
  · intro p e R s m args below meth c A ad cA D ef cells slots Q hF hE H locs L hP hS hL hn
    have e0 : ((Value.ref x) :: r).map (vcv ad ef) = .ref (ad x) :: r.map (vcv ad ef) := by rw [List.map_cons, vcv_ref hx]
    rw [e0]
    exact lv_astore hF.1 hF.2.1 hd hL.has hk rfl (fun L' hL' => h p e R s m args below meth c A ad cA D ef cells slots Q hF hE H locs L' hP hS (vlok.st1 (vef_cat hF.2.2.2.2.2.2.1) (v := .ref x) hf (by rw [vcv_ref hx]; exact hL')) (by rw [vset_len]; exact hn))
theorem vs_istore_n {k : Fin 4} (hd : decode (vYc y) pc = .ok (.istore_n k, 1)) (h : vstI ls st k.val (fun ls r => vS l G d y (pc + 1) ls r σ post)) : vS l G d y pc ls st σ post := by
  obtain ⟨x, r, rfl, hf, hk, h⟩ := vstI_e h
  intro p e R s m args below meth c A ad cA D ef cells slots Q hF hE H locs L hP hS hL hn
  exact lv_istore_n hF.1 hF.2.1 hd rfl hL.has hk rfl (fun L' hL' => h p e R s m args below meth c A ad cA D ef cells slots Q hF hE H locs L' hP hS (vlok.st1 (vef_cat hF.2.2.2.2.2.2.1) (v := .int x) hf hL') (by rw [vset_len]; exact hn))
theorem vs_astore_n {k : Fin 4} (hd : decode (vYc y) pc = .ok (.astore_n k, 1)) (h : vstA ls st k.val (fun ls r => vS l G d y (pc + 1) ls r σ post)) : vS l G d y pc ls st σ post := by
  obtain ⟨v, r, rfl, hv, hf, hk, h⟩ := vstA_e h
  rcases hv with rfl | ⟨x, rfl, hx⟩
  · intro p e R s m args below meth c A ad cA D ef cells slots Q hF hE H locs L hP hS hL hn
    exact lv_astore_nN hF.1 hF.2.1 hd rfl hL.has hk rfl (fun L' hL' => h p e R s m args below meth c A ad cA D ef cells slots Q hF hE H locs L' hP hS (vlok.st1 (vef_cat hF.2.2.2.2.2.2.1) (v := .null) hf hL') (by rw [vset_len]; exact hn))
  · intro p e R s m args below meth c A ad cA D ef cells slots Q hF hE H locs L hP hS hL hn
    have e0 : ((Value.ref x) :: r).map (vcv ad ef) = .ref (ad x) :: r.map (vcv ad ef) := by rw [List.map_cons, vcv_ref hx]
    rw [e0]
    exact lv_astore_n hF.1 hF.2.1 hd rfl hL.has hk rfl (fun L' hL' => h p e R s m args below meth c A ad cA D ef cells slots Q hF hE H locs L' hP hS (vlok.st1 (vef_cat hF.2.2.2.2.2.2.1) (v := .ref x) hf (by rw [vcv_ref hx]; exact hL')) (by rw [vset_len]; exact hn))
theorem vs_lstore {k : Nat} (hd : decode (vYc y) pc = .ok (.lstore k, 2)) (h : vstL ls st k (fun ls r => vS l G d y (pc + 2) ls r σ post)) : vS l G d y pc ls st σ post := by
  obtain ⟨x, r, rfl, hf, hk, h⟩ := vstL_e h
  intro p e R s m args below meth c A ad cA D ef cells slots Q hF hE H locs L hP hS hL hn
  exact lv_lstore hF.1 hF.2.1 hd hL.has hk rfl (fun L' hL' => h p e R s m args below meth c A ad cA D ef cells slots Q hF hE H locs L' hP hS (vlok.st2 (vef_cat hF.2.2.2.2.2.2.1) hf hL') (by rw [vset_len, vset_len]; exact hn))
theorem vs_iinc {k : Nat} {n : Int} {im : Int32} (hd : decode (vYc y) pc = .ok (.iinc k n, 3)) (hi : Int32.ofInt n = im) (h : match vget ls k with | some (.int x) => bif vfree ls k then vS l G d y (pc + 3) (vset ls k (some (.int (x + im)))) st σ post else False | _ => False) : vS l G d y pc ls st σ post := by
  split at h
  next x hx =>
    obtain ⟨hf, h⟩ := vcond h
    intro p e R s m args below meth c A ad cA D ef cells slots Q hF hE H locs L hP hS hL hn
    subst hi
    obtain ⟨j, hj⟩ := List.getElem?_of_mem (vprs_mem (ad := ad) (ef := ef) (q := (k, .int x)).mpr ⟨_, hx, rfl⟩)
    exact lv_iinc hF.1 hF.2.1 hd hL.has hj rfl (vget_lt hx) rfl (fun L' hL' => h p e R s m args below meth c A ad cA D ef cells slots Q hF hE H locs L' hP hS (vlok.st1 (vef_cat hF.2.2.2.2.2.2.1) (v := .int (x + Int32.ofInt n)) hf hL') (by rw [vset_len]; exact hn))
  · cases h
theorem vs_iadd (hd : decode (vYc y) pc = .ok (.iadd, 1)) (h : vI2 st (fun a b r => vS l G d y (pc + 1) ls (.int (a + b) :: r) σ post)) : vS l G d y pc ls st σ post := by
  obtain ⟨a, b, r, rfl, h⟩ := vI2_e h
  intro p e R s m args below meth c A ad cA D ef cells slots Q hF hE H locs L hP hS hL hn
  exact lv_iadd hF.1 hF.2.1 hd (h p e R s m args below meth c A ad cA D ef cells slots Q hF hE H locs _ hP hS hL hn)
theorem vs_isub (hd : decode (vYc y) pc = .ok (.isub, 1)) (h : vI2 st (fun a b r => vS l G d y (pc + 1) ls (.int (a - b) :: r) σ post)) : vS l G d y pc ls st σ post := by
  obtain ⟨a, b, r, rfl, h⟩ := vI2_e h
  intro p e R s m args below meth c A ad cA D ef cells slots Q hF hE H locs L hP hS hL hn
  exact lv_isub hF.1 hF.2.1 hd (h p e R s m args below meth c A ad cA D ef cells slots Q hF hE H locs _ hP hS hL hn)
theorem vs_imul (hd : decode (vYc y) pc = .ok (.imul, 1)) (h : vI2 st (fun a b r => vS l G d y (pc + 1) ls (.int (a * b) :: r) σ post)) : vS l G d y pc ls st σ post := by
  obtain ⟨a, b, r, rfl, h⟩ := vI2_e h
  intro p e R s m args below meth c A ad cA D ef cells slots Q hF hE H locs L hP hS hL hn
  exact lv_imul hF.1 hF.2.1 hd (h p e R s m args below meth c A ad cA D ef cells slots Q hF hE H locs _ hP hS hL hn)
theorem vs_iand (hd : decode (vYc y) pc = .ok (.iand, 1)) (h : vI2 st (fun a b r => vS l G d y (pc + 1) ls (.int (a &&& b) :: r) σ post)) : vS l G d y pc ls st σ post := by
  obtain ⟨a, b, r, rfl, h⟩ := vI2_e h
  intro p e R s m args below meth c A ad cA D ef cells slots Q hF hE H locs L hP hS hL hn
  exact lv_iand hF.1 hF.2.1 hd (h p e R s m args below meth c A ad cA D ef cells slots Q hF hE H locs _ hP hS hL hn)
theorem vs_ior (hd : decode (vYc y) pc = .ok (.ior, 1)) (h : vI2 st (fun a b r => vS l G d y (pc + 1) ls (.int (a ||| b) :: r) σ post)) : vS l G d y pc ls st σ post := by
  obtain ⟨a, b, r, rfl, h⟩ := vI2_e h
  intro p e R s m args below meth c A ad cA D ef cells slots Q hF hE H locs L hP hS hL hn
  exact lv_ior hF.1 hF.2.1 hd (h p e R s m args below meth c A ad cA D ef cells slots Q hF hE H locs _ hP hS hL hn)
theorem vs_ixor (hd : decode (vYc y) pc = .ok (.ixor, 1)) (h : vI2 st (fun a b r => vS l G d y (pc + 1) ls (.int (a ^^^ b) :: r) σ post)) : vS l G d y pc ls st σ post := by
  obtain ⟨a, b, r, rfl, h⟩ := vI2_e h
  intro p e R s m args below meth c A ad cA D ef cells slots Q hF hE H locs L hP hS hL hn
  exact lv_ixor hF.1 hF.2.1 hd (h p e R s m args below meth c A ad cA D ef cells slots Q hF hE H locs _ hP hS hL hn)
theorem vs_ishl (hd : decode (vYc y) pc = .ok (.ishl, 1)) (h : vI2 st (fun a b r => vS l G d y (pc + 1) ls (.int (a <<< (b &&& 31)) :: r) σ post)) : vS l G d y pc ls st σ post := by
  obtain ⟨a, b, r, rfl, h⟩ := vI2_e h
  intro p e R s m args below meth c A ad cA D ef cells slots Q hF hE H locs L hP hS hL hn
  exact lv_ishl hF.1 hF.2.1 hd (h p e R s m args below meth c A ad cA D ef cells slots Q hF hE H locs _ hP hS hL hn)
theorem vs_ishr (hd : decode (vYc y) pc = .ok (.ishr, 1)) (h : vI2 st (fun a b r => vS l G d y (pc + 1) ls (.int (a >>> (b &&& 31)) :: r) σ post)) : vS l G d y pc ls st σ post := by
  obtain ⟨a, b, r, rfl, h⟩ := vI2_e h
  intro p e R s m args below meth c A ad cA D ef cells slots Q hF hE H locs L hP hS hL hn
  exact lv_ishr hF.1 hF.2.1 hd (h p e R s m args below meth c A ad cA D ef cells slots Q hF hE H locs _ hP hS hL hn)
theorem vs_iushr (hd : decode (vYc y) pc = .ok (.iushr, 1)) (h : vI2 st (fun a b r => vS l G d y (pc + 1) ls (.int (a.toUInt32 >>> (b.toUInt32 &&& Int32.toUInt32 31)).toInt32 :: r) σ post)) : vS l G d y pc ls st σ post := by
  obtain ⟨a, b, r, rfl, h⟩ := vI2_e h
  intro p e R s m args below meth c A ad cA D ef cells slots Q hF hE H locs L hP hS hL hn
  exact lv_iushr hF.1 hF.2.1 hd rfl (h p e R s m args below meth c A ad cA D ef cells slots Q hF hE H locs _ hP hS hL hn)
theorem vs_idiv (hd : decode (vYc y) pc = .ok (.idiv, 1)) (h : vI2 st (fun a b r => ¬ b = 0 ∧ vS l G d y (pc + 1) ls (.int (a / b) :: r) σ post)) : vS l G d y pc ls st σ post := by
  obtain ⟨a, b, r, rfl, h0, h⟩ := vI2_e h
  intro p e R s m args below meth c A ad cA D ef cells slots Q hF hE H locs L hP hS hL hn
  exact lv_idiv hF.1 hF.2.1 hd h0 (h p e R s m args below meth c A ad cA D ef cells slots Q hF hE H locs _ hP hS hL hn)
theorem vs_irem (hd : decode (vYc y) pc = .ok (.irem, 1)) (h : vI2 st (fun a b r => ¬ b = 0 ∧ vS l G d y (pc + 1) ls (.int (a - a / b * b) :: r) σ post)) : vS l G d y pc ls st σ post := by
  obtain ⟨a, b, r, rfl, h0, h⟩ := vI2_e h
  intro p e R s m args below meth c A ad cA D ef cells slots Q hF hE H locs L hP hS hL hn
  exact lv_irem hF.1 hF.2.1 hd h0 (h p e R s m args below meth c A ad cA D ef cells slots Q hF hE H locs _ hP hS hL hn)
theorem vs_ladd (hd : decode (vYc y) pc = .ok (.ladd, 1)) (h : vL2 st (fun a b r => vS l G d y (pc + 1) ls (.long (a + b) :: r) σ post)) : vS l G d y pc ls st σ post := by
  obtain ⟨a, b, r, rfl, h⟩ := vL2_e h
  intro p e R s m args below meth c A ad cA D ef cells slots Q hF hE H locs L hP hS hL hn
  exact lv_ladd hF.1 hF.2.1 hd (h p e R s m args below meth c A ad cA D ef cells slots Q hF hE H locs _ hP hS hL hn)
theorem vs_lsub (hd : decode (vYc y) pc = .ok (.lsub, 1)) (h : vL2 st (fun a b r => vS l G d y (pc + 1) ls (.long (a - b) :: r) σ post)) : vS l G d y pc ls st σ post := by
  obtain ⟨a, b, r, rfl, h⟩ := vL2_e h
  intro p e R s m args below meth c A ad cA D ef cells slots Q hF hE H locs L hP hS hL hn
  exact lv_lsub hF.1 hF.2.1 hd (h p e R s m args below meth c A ad cA D ef cells slots Q hF hE H locs _ hP hS hL hn)
theorem vs_lmul (hd : decode (vYc y) pc = .ok (.lmul, 1)) (h : vL2 st (fun a b r => vS l G d y (pc + 1) ls (.long (a * b) :: r) σ post)) : vS l G d y pc ls st σ post := by
  obtain ⟨a, b, r, rfl, h⟩ := vL2_e h
  intro p e R s m args below meth c A ad cA D ef cells slots Q hF hE H locs L hP hS hL hn
  exact lv_lmul hF.1 hF.2.1 hd (h p e R s m args below meth c A ad cA D ef cells slots Q hF hE H locs _ hP hS hL hn)
theorem vs_ldiv (hd : decode (vYc y) pc = .ok (.ldiv, 1)) (h : vL2 st (fun a b r => ¬ b = 0 ∧ vS l G d y (pc + 1) ls (.long (a / b) :: r) σ post)) : vS l G d y pc ls st σ post := by
  obtain ⟨a, b, r, rfl, h0, h⟩ := vL2_e h
  intro p e R s m args below meth c A ad cA D ef cells slots Q hF hE H locs L hP hS hL hn
  exact lv_ldiv hF.1 hF.2.1 hd h0 (h p e R s m args below meth c A ad cA D ef cells slots Q hF hE H locs _ hP hS hL hn)
theorem vs_lrem (hd : decode (vYc y) pc = .ok (.lrem, 1)) (h : vL2 st (fun a b r => ¬ b = 0 ∧ vS l G d y (pc + 1) ls (.long (a - a / b * b) :: r) σ post)) : vS l G d y pc ls st σ post := by
  obtain ⟨a, b, r, rfl, h0, h⟩ := vL2_e h
  intro p e R s m args below meth c A ad cA D ef cells slots Q hF hE H locs L hP hS hL hn
  exact lv_lrem hF.1 hF.2.1 hd h0 (h p e R s m args below meth c A ad cA D ef cells slots Q hF hE H locs _ hP hS hL hn)
theorem vs_lcmp (hd : decode (vYc y) pc = .ok (.lcmp, 1)) (h : vL2 st (fun a b r => vS l G d y (pc + 1) ls (.int (lg_cmp a b) :: r) σ post)) : vS l G d y pc ls st σ post := by
  obtain ⟨a, b, r, rfl, h⟩ := vL2_e h
  intro p e R s m args below meth c A ad cA D ef cells slots Q hF hE H locs L hP hS hL hn
  exact W.lcmp hF.1 hF.2.1 hd (h p e R s m args below meth c A ad cA D ef cells slots Q hF hE H locs _ hP hS hL hn)
theorem vs_ineg (hd : decode (vYc y) pc = .ok (.ineg, 1)) (h : vI1 st (fun a r => vS l G d y (pc + 1) ls (.int (-a) :: r) σ post)) : vS l G d y pc ls st σ post := by
  obtain ⟨a, r, rfl, h⟩ := vI1_e h
  intro p e R s m args below meth c A ad cA D ef cells slots Q hF hE H locs L hP hS hL hn
  exact lv_ineg hF.1 hF.2.1 hd (h p e R s m args below meth c A ad cA D ef cells slots Q hF hE H locs _ hP hS hL hn)
theorem vs_i2l (hd : decode (vYc y) pc = .ok (.i2l, 1)) (h : vI1 st (fun a r => vS l G d y (pc + 1) ls (.long a.toInt64 :: r) σ post)) : vS l G d y pc ls st σ post := by
  obtain ⟨a, r, rfl, h⟩ := vI1_e h
  intro p e R s m args below meth c A ad cA D ef cells slots Q hF hE H locs L hP hS hL hn
  exact lv_i2l hF.1 hF.2.1 hd rfl (h p e R s m args below meth c A ad cA D ef cells slots Q hF hE H locs _ hP hS hL hn)
theorem vs_i2b (hd : decode (vYc y) pc = .ok (.i2b, 1)) (h : vI1 st (fun a r => vS l G d y (pc + 1) ls (.int a.toInt8.toInt32 :: r) σ post)) : vS l G d y pc ls st σ post := by
  obtain ⟨a, r, rfl, h⟩ := vI1_e h
  intro p e R s m args below meth c A ad cA D ef cells slots Q hF hE H locs L hP hS hL hn
  exact lv_i2b hF.1 hF.2.1 hd rfl (h p e R s m args below meth c A ad cA D ef cells slots Q hF hE H locs _ hP hS hL hn)
theorem vs_i2s (hd : decode (vYc y) pc = .ok (.i2s, 1)) (h : vI1 st (fun a r => vS l G d y (pc + 1) ls (.int a.toInt16.toInt32 :: r) σ post)) : vS l G d y pc ls st σ post := by
  obtain ⟨a, r, rfl, h⟩ := vI1_e h
  intro p e R s m args below meth c A ad cA D ef cells slots Q hF hE H locs L hP hS hL hn
  exact lv_i2s hF.1 hF.2.1 hd rfl (h p e R s m args below meth c A ad cA D ef cells slots Q hF hE H locs _ hP hS hL hn)
theorem vs_i2c (hd : decode (vYc y) pc = .ok (.i2c, 1)) (h : vI1 st (fun a r => vS l G d y (pc + 1) ls (.int (a.toUInt32 % 65536).toInt32 :: r) σ post)) : vS l G d y pc ls st σ post := by
  obtain ⟨a, r, rfl, h⟩ := vI1_e h
  intro p e R s m args below meth c A ad cA D ef cells slots Q hF hE H locs L hP hS hL hn
  exact lv_i2c hF.1 hF.2.1 hd rfl (h p e R s m args below meth c A ad cA D ef cells slots Q hF hE H locs _ hP hS hL hn)
theorem vs_l2i (hd : decode (vYc y) pc = .ok (.l2i, 1)) (h : match st with | .long a :: r => vS l G d y (pc + 1) ls (.int a.toInt32 :: r) σ post | _ => False) : vS l G d y pc ls st σ post := by
  split at h
  · intro p e R s m args below meth c A ad cA D ef cells slots Q hF hE H locs L hP hS hL hn
    exact lv_l2i hF.1 hF.2.1 hd rfl (h p e R s m args below meth c A ad cA D ef cells slots Q hF hE H locs _ hP hS hL hn)
  · cases h
theorem vs_dup (hd : decode (vYc y) pc = .ok (.dup, 1)) (h : match st with | v :: r => bif vone v then vS l G d y (pc + 1) ls (v :: v :: r) σ post else False | _ => False) : vS l G d y pc ls st σ post := by
  split at h
  · obtain ⟨h0, h⟩ := vcond h
    intro p e R s m args below meth c A ad cA D ef cells slots Q hF hE H locs L hP hS hL hn
    exact lv_dup hF.1 hF.2.1 hd (by rw [vcv_cat (vef_cat hF.2.2.2.2.2.2.1)]; exact Nat.eq_of_beq_eq_true h0) (h p e R s m args below meth c A ad cA D ef cells slots Q hF hE H locs _ hP hS hL hn)
  · cases h
theorem vs_pop (hd : decode (vYc y) pc = .ok (.pop, 1)) (h : match st with | v :: r => bif vone v then vS l G d y (pc + 1) ls r σ post else False | _ => False) : vS l G d y pc ls st σ post := by
  split at h
  · obtain ⟨h0, h⟩ := vcond h
    intro p e R s m args below meth c A ad cA D ef cells slots Q hF hE H locs L hP hS hL hn
    exact lv_pop hF.1 hF.2.1 hd (by rw [vcv_cat (vef_cat hF.2.2.2.2.2.2.1)]; exact Nat.eq_of_beq_eq_true h0) (h p e R s m args below meth c A ad cA D ef cells slots Q hF hE H locs _ hP hS hL hn)
  · cases h
theorem vs_dup2 (hd : decode (vYc y) pc = .ok (.dup2, 1)) (h : match st with | v :: w :: r => bif vone v && vone w then vS l G d y (pc + 1) ls (v :: w :: v :: w :: r) σ post else False | _ => False) : vS l G d y pc ls st σ post := by
  split at h
  · obtain ⟨h0, h⟩ := vcond h
    simp only [Bool.and_eq_true] at h0
    intro p e R s m args below meth c A ad cA D ef cells slots Q hF hE H locs L hP hS hL hn
    exact lv_dup2_11 hF.1 hF.2.1 hd (by rw [vcv_cat (vef_cat hF.2.2.2.2.2.2.1)]; exact Nat.eq_of_beq_eq_true h0.1) (by rw [vcv_cat (vef_cat hF.2.2.2.2.2.2.1)]; exact Nat.eq_of_beq_eq_true h0.2) (h p e R s m args below meth c A ad cA D ef cells slots Q hF hE H locs _ hP hS hL hn)
  · cases h
theorem vs_if_eq {o : Int} {tg : Nat} (hd : decode (vYc y) pc = .ok (.ifCond .eq o, 3)) (ht : (pc : Int) + o = (tg : Int)) (h : vI1 st (fun a r => (a = 0 → vS l G d y tg ls r σ post) ∧ (¬ a = 0 → vS l G d y (pc + 3) ls r σ post))) : vS l G d y pc ls st σ post := by
  obtain ⟨a, r, rfl, h1, h2⟩ := vI1_e h
  intro p e R s m args below meth c A ad cA D ef cells slots Q hF hE H locs L hP hS hL hn
  refine lv_if_eq hF.1 hF.2.1 hd ht (fun q => ?_) (fun q => ?_)
  · exact h1 q p e R s m args below meth c A ad cA D ef cells slots Q hF hE H locs _ hP hS hL hn
  · exact h2 q p e R s m args below meth c A ad cA D ef cells slots Q hF hE H locs _ hP hS hL hn
theorem vs_icmp_eq {o : Int} {tg : Nat} (hd : decode (vYc y) pc = .ok (.if_icmp .eq o, 3)) (ht : (pc : Int) + o = (tg : Int)) (h : vI2 st (fun a b r => (a = b → vS l G d y tg ls r σ post) ∧ (¬ a = b → vS l G d y (pc + 3) ls r σ post))) : vS l G d y pc ls st σ post := by
  obtain ⟨a, b, r, rfl, h1, h2⟩ := vI2_e h
  intro p e R s m args below meth c A ad cA D ef cells slots Q hF hE H locs L hP hS hL hn
  refine lv_icmp_eq hF.1 hF.2.1 hd ht (fun q => ?_) (fun q => ?_)
  · exact h1 q p e R s m args below meth c A ad cA D ef cells slots Q hF hE H locs _ hP hS hL hn
  · exact h2 q p e R s m args below meth c A ad cA D ef cells slots Q hF hE H locs _ hP hS hL hn
theorem vs_if_ne {o : Int} {tg : Nat} (hd : decode (vYc y) pc = .ok (.ifCond .ne o, 3)) (ht : (pc : Int) + o = (tg : Int)) (h : vI1 st (fun a r => (¬ a = 0 → vS l G d y tg ls r σ post) ∧ (a = 0 → vS l G d y (pc + 3) ls r σ post))) : vS l G d y pc ls st σ post := by
  obtain ⟨a, r, rfl, h1, h2⟩ := vI1_e h
  intro p e R s m args below meth c A ad cA D ef cells slots Q hF hE H locs L hP hS hL hn
  refine lv_if_ne hF.1 hF.2.1 hd ht (fun q => ?_) (fun q => ?_)
  · exact h1 q p e R s m args below meth c A ad cA D ef cells slots Q hF hE H locs _ hP hS hL hn
  · exact h2 q p e R s m args below meth c A ad cA D ef cells slots Q hF hE H locs _ hP hS hL hn
theorem vs_icmp_ne {o : Int} {tg : Nat} (hd : decode (vYc y) pc = .ok (.if_icmp .ne o, 3)) (ht : (pc : Int) + o = (tg : Int)) (h : vI2 st (fun a b r => (¬ a = b → vS l G d y tg ls r σ post) ∧ (a = b → vS l G d y (pc + 3) ls r σ post))) : vS l G d y pc ls st σ post := by
  obtain ⟨a, b, r, rfl, h1, h2⟩ := vI2_e h
  intro p e R s m args below meth c A ad cA D ef cells slots Q hF hE H locs L hP hS hL hn
  refine lv_icmp_ne hF.1 hF.2.1 hd ht (fun q => ?_) (fun q => ?_)
  · exact h1 q p e R s m args below meth c A ad cA D ef cells slots Q hF hE H locs _ hP hS hL hn
  · exact h2 q p e R s m args below meth c A ad cA D ef cells slots Q hF hE H locs _ hP hS hL hn
theorem vs_if_lt {o : Int} {tg : Nat} (hd : decode (vYc y) pc = .ok (.ifCond .lt o, 3)) (ht : (pc : Int) + o = (tg : Int)) (h : vI1 st (fun a r => (a < 0 → vS l G d y tg ls r σ post) ∧ (¬ a < 0 → vS l G d y (pc + 3) ls r σ post))) : vS l G d y pc ls st σ post := by
  obtain ⟨a, r, rfl, h1, h2⟩ := vI1_e h
  intro p e R s m args below meth c A ad cA D ef cells slots Q hF hE H locs L hP hS hL hn
  refine lv_if_lt hF.1 hF.2.1 hd ht (fun q => ?_) (fun q => ?_)
  · exact h1 q p e R s m args below meth c A ad cA D ef cells slots Q hF hE H locs _ hP hS hL hn
  · exact h2 q p e R s m args below meth c A ad cA D ef cells slots Q hF hE H locs _ hP hS hL hn
theorem vs_icmp_lt {o : Int} {tg : Nat} (hd : decode (vYc y) pc = .ok (.if_icmp .lt o, 3)) (ht : (pc : Int) + o = (tg : Int)) (h : vI2 st (fun a b r => (a < b → vS l G d y tg ls r σ post) ∧ (¬ a < b → vS l G d y (pc + 3) ls r σ post))) : vS l G d y pc ls st σ post := by
  obtain ⟨a, b, r, rfl, h1, h2⟩ := vI2_e h
  intro p e R s m args below meth c A ad cA D ef cells slots Q hF hE H locs L hP hS hL hn
  refine lv_icmp_lt hF.1 hF.2.1 hd ht (fun q => ?_) (fun q => ?_)
  · exact h1 q p e R s m args below meth c A ad cA D ef cells slots Q hF hE H locs _ hP hS hL hn
  · exact h2 q p e R s m args below meth c A ad cA D ef cells slots Q hF hE H locs _ hP hS hL hn
theorem vs_if_ge {o : Int} {tg : Nat} (hd : decode (vYc y) pc = .ok (.ifCond .ge o, 3)) (ht : (pc : Int) + o = (tg : Int)) (h : vI1 st (fun a r => (0 ≤ a → vS l G d y tg ls r σ post) ∧ (¬ 0 ≤ a → vS l G d y (pc + 3) ls r σ post))) : vS l G d y pc ls st σ post := by
  obtain ⟨a, r, rfl, h1, h2⟩ := vI1_e h
  intro p e R s m args below meth c A ad cA D ef cells slots Q hF hE H locs L hP hS hL hn
  refine lv_if_ge hF.1 hF.2.1 hd ht (fun q => ?_) (fun q => ?_)
  · exact h1 q p e R s m args below meth c A ad cA D ef cells slots Q hF hE H locs _ hP hS hL hn
  · exact h2 q p e R s m args below meth c A ad cA D ef cells slots Q hF hE H locs _ hP hS hL hn
theorem vs_icmp_ge {o : Int} {tg : Nat} (hd : decode (vYc y) pc = .ok (.if_icmp .ge o, 3)) (ht : (pc : Int) + o = (tg : Int)) (h : vI2 st (fun a b r => (b ≤ a → vS l G d y tg ls r σ post) ∧ (¬ b ≤ a → vS l G d y (pc + 3) ls r σ post))) : vS l G d y pc ls st σ post := by
  obtain ⟨a, b, r, rfl, h1, h2⟩ := vI2_e h
  intro p e R s m args below meth c A ad cA D ef cells slots Q hF hE H locs L hP hS hL hn
  refine lv_icmp_ge hF.1 hF.2.1 hd ht (fun q => ?_) (fun q => ?_)
  · exact h1 q p e R s m args below meth c A ad cA D ef cells slots Q hF hE H locs _ hP hS hL hn
  · exact h2 q p e R s m args below meth c A ad cA D ef cells slots Q hF hE H locs _ hP hS hL hn
theorem vs_if_gt {o : Int} {tg : Nat} (hd : decode (vYc y) pc = .ok (.ifCond .gt o, 3)) (ht : (pc : Int) + o = (tg : Int)) (h : vI1 st (fun a r => (0 < a → vS l G d y tg ls r σ post) ∧ (¬ 0 < a → vS l G d y (pc + 3) ls r σ post))) : vS l G d y pc ls st σ post := by
  obtain ⟨a, r, rfl, h1, h2⟩ := vI1_e h
  intro p e R s m args below meth c A ad cA D ef cells slots Q hF hE H locs L hP hS hL hn
  refine lv_if_gt hF.1 hF.2.1 hd ht (fun q => ?_) (fun q => ?_)
  · exact h1 q p e R s m args below meth c A ad cA D ef cells slots Q hF hE H locs _ hP hS hL hn
  · exact h2 q p e R s m args below meth c A ad cA D ef cells slots Q hF hE H locs _ hP hS hL hn
theorem vs_icmp_gt {o : Int} {tg : Nat} (hd : decode (vYc y) pc = .ok (.if_icmp .gt o, 3)) (ht : (pc : Int) + o = (tg : Int)) (h : vI2 st (fun a b r => (b < a → vS l G d y tg ls r σ post) ∧ (¬ b < a → vS l G d y (pc + 3) ls r σ post))) : vS l G d y pc ls st σ post := by
  obtain ⟨a, b, r, rfl, h1, h2⟩ := vI2_e h
  intro p e R s m args below meth c A ad cA D ef cells slots Q hF hE H locs L hP hS hL hn
  refine lv_icmp_gt hF.1 hF.2.1 hd ht (fun q => ?_) (fun q => ?_)
  · exact h1 q p e R s m args below meth c A ad cA D ef cells slots Q hF hE H locs _ hP hS hL hn
  · exact h2 q p e R s m args below meth c A ad cA D ef cells slots Q hF hE H locs _ hP hS hL hn
theorem vs_if_le {o : Int} {tg : Nat} (hd : decode (vYc y) pc = .ok (.ifCond .le o, 3)) (ht : (pc : Int) + o = (tg : Int)) (h : vI1 st (fun a r => (a ≤ 0 → vS l G d y tg ls r σ post) ∧ (¬ a ≤ 0 → vS l G d y (pc + 3) ls r σ post))) : vS l G d y pc ls st σ post := by
  obtain ⟨a, r, rfl, h1, h2⟩ := vI1_e h
  intro p e R s m args below meth c A ad cA D ef cells slots Q hF hE H locs L hP hS hL hn
  refine lv_if_le hF.1 hF.2.1 hd ht (fun q => ?_) (fun q => ?_)
  · exact h1 q p e R s m args below meth c A ad cA D ef cells slots Q hF hE H locs _ hP hS hL hn
  · exact h2 q p e R s m args below meth c A ad cA D ef cells slots Q hF hE H locs _ hP hS hL hn
theorem vs_icmp_le {o : Int} {tg : Nat} (hd : decode (vYc y) pc = .ok (.if_icmp .le o, 3)) (ht : (pc : Int) + o = (tg : Int)) (h : vI2 st (fun a b r => (a ≤ b → vS l G d y tg ls r σ post) ∧ (¬ a ≤ b → vS l G d y (pc + 3) ls r σ post))) : vS l G d y pc ls st σ post := by
  obtain ⟨a, b, r, rfl, h1, h2⟩ := vI2_e h
  intro p e R s m args below meth c A ad cA D ef cells slots Q hF hE H locs L hP hS hL hn
  refine lv_icmp_le hF.1 hF.2.1 hd ht (fun q => ?_) (fun q => ?_)
  · exact h1 q p e R s m args below meth c A ad cA D ef cells slots Q hF hE H locs _ hP hS hL hn
  · exact h2 q p e R s m args below meth c A ad cA D ef cells slots Q hF hE H locs _ hP hS hL hn
theorem vs_goto {o : Int} {tg : Nat} (hd : decode (vYc y) pc = .ok (.goto o, 3)) (ht : (pc : Int) + o = (tg : Int)) (h : vS l G d y tg ls st σ post) : vS l G d y pc ls st σ post := fun p e R s m args below meth c A ad cA D ef cells slots Q hF hE H locs L hP hS hL hn => lv_goto hF.1 hF.2.1 hd ht (h p e R s m args below meth c A ad cA D ef cells slots Q hF hE H locs _ hP hS hL hn)
theorem vs_ifnull {o : Int} {tg : Nat} (hd : decode (vYc y) pc = .ok (.ifnull o, 3)) (ht : (pc : Int) + o = (tg : Int)) (h : match st with | .null :: r => vS l G d y tg ls r σ post | .ref x :: r => bif Nat.ble x 1007 then vS l G d y (pc + 3) ls r σ post else False | _ => False) : vS l G d y pc ls st σ post := by
  split at h
  · intro p e R s m args below meth c A ad cA D ef cells slots Q hF hE H locs L hP hS hL hn
    exact lv_ifnullN hF.1 hF.2.1 hd ht (h p e R s m args below meth c A ad cA D ef cells slots Q hF hE H locs _ hP hS hL hn)
  · obtain ⟨h0, h⟩ := vcond h
    intro p e R s m args below meth c A ad cA D ef cells slots Q hF hE H locs L hP hS hL hn
    rw [List.map_cons, vcv_ref (Nat.le_of_ble_eq_true h0)]
    exact lv_ifnull hF.1 hF.2.1 hd (h p e R s m args below meth c A ad cA D ef cells slots Q hF hE H locs _ hP hS hL hn)
  · cases h
end SN
end
section
def vszC (x : vC) : Bool := match x with
  | .inl (t, n, es) => Nat.ble n 4000 && Nat.ble t 3 && es.all (fun e => Nat.ble e 57)
  | .inr (ci, fs) => Nat.ble ci 7 && Nat.beq fs.length (vfN ci) && fs.all (fun f => Nat.ble f.2 82)
theorem vsz_ok : (List.range 83).all (fun i => vszC (vlayT i)) = true := by decide +kernel
theorem vlay_sz {G : vG} {i : Nat} {x : vC} (h : vlay G i = some x) : vszC x = true := by
  obtain ⟨h1, h2⟩ := vlay_some h
  rw [← h2]
  refine List.all_eq_true.mp vsz_ok i (List.mem_range.mpr ?_)
  unfold vsz at h1
  cases hG : G.1 <;> rw [hG] at h1 <;> simp at h1 <;> omega
theorem vlay_83 {G : vG} {i : Nat} {x : vC} (h : vlay G i = some x) : i < 83 := by
  obtain ⟨h1, -⟩ := vlay_some h
  unfold vsz at h1
  cases hG : G.1 <;> rw [hG] at h1 <;> simp at h1 <;> omega
theorem vlay_arr {G : vG} {i t n : Nat} {es : List Nat} (h : vlay G i = some (.inl (t, n, es))) : n < 2 ^ 31 ∧ t ≤ 3 ∧ ∀ j, es.getD j 0 ≤ 57 := by
  have h0 := vlay_sz h
  simp only [vszC, Bool.and_eq_true] at h0
  obtain ⟨⟨h1, h2⟩, h3⟩ := h0
  refine ⟨by have := Nat.le_of_ble_eq_true h1; omega, Nat.le_of_ble_eq_true h2, fun j => ?_⟩
  rw [List.getD_eq_getElem?_getD]
  cases he : es[j]? with
  | none => simp
  | some e =>
    have := List.all_eq_true.mp h3 e (List.mem_of_getElem? he)
    simpa using Nat.le_of_ble_eq_true this
theorem vlay_obj {G : vG} {i ci : Nat} {fs : List (Nat × Nat)} (h : vlay G i = some (.inr (ci, fs))) : ci < 8 ∧ fs.length = vfN ci ∧ ∀ k f, vnth fs k = some f → k < vfN ci ∧ f.2 ≤ 82 ∧ vtagT f.1 (vfY ci k) (vfT ci k).2.2.2 = true := by
  have h0 := vlay_ok h
  simp only [vcellOk, Bool.and_eq_true] at h0
  obtain ⟨⟨h1, h2⟩, h3⟩ := h0
  refine ⟨by have := Nat.le_of_ble_eq_true h1; omega, Nat.eq_of_beq_eq_true h2, fun k f hk => ?_⟩
  have e1 : fs[k]? = some f := by
    clear h h1 h2 h3
    induction fs generalizing k with
    | nil => cases hk
    | cons a l ih => cases k with
      | zero => exact hk
      | succ k => exact ih k hk
  have hlt : k < vfN ci := by
    have := (List.getElem?_eq_some_iff.mp e1).1
    have := Nat.eq_of_beq_eq_true h2
    omega
  have h4 := List.all_eq_true.mp h3 k (List.mem_range.mpr hlt)
  rw [e1] at h4
  simp only [Bool.and_eq_true] at h4
  exact ⟨hlt, Nat.le_of_ble_eq_true h4.2, h4.1⟩
theorem vcell_arr {G : vG} {ad : Nat → Nat} {cA : Nat → ClassId} {σ : vM} {i t n : Nat} {es : List Nat} (h : vlay G i = some (.inl (t, n, es))) (ht : t ≤ 1) : vcell ad cA σ i = .inl (cA i, n, .inl (σ.1 i)) := by
  unfold vcell
  rw [(vlay_some h).2]
  show Sum.inl (cA i, n, bif Nat.ble t 1 then Sum.inl (σ.1 i) else _) = _
  rw [Nat.ble_eq_true_of_le ht]
  rfl
theorem vcell_refs {G : vG} {ad : Nat → Nat} {cA : Nat → ClassId} {σ : vM} {i t n : Nat} {es : List Nat} (h : vlay G i = some (.inl (t, n, es))) (ht : 2 ≤ t) : vcell ad cA σ i = .inl (cA i, n, .inr (.inr (.inr (.inr (fun k => some (ad (es.getD k 0))))))) := by
  unfold vcell
  rw [(vlay_some h).2]
  show Sum.inl (cA i, n, bif Nat.ble t 1 then Sum.inl (σ.1 i) else _) = _
  have : Nat.ble t 1 = false := by
    cases hb : Nat.ble t 1 with
    | false => rfl
    | true => have := Nat.le_of_ble_eq_true hb; omega
  rw [this]
  rfl
theorem vcell_obj {G : vG} {ad : Nat → Nat} {cA : Nat → ClassId} {σ : vM} {i ci : Nat} {fs : List (Nat × Nat)} (h : vlay G i = some (.inr (ci, fs))) : vcell ad cA σ i = .inr (ci, vflds ad σ i fs) := by
  unfold vcell
  rw [(vlay_some h).2]
theorem vcv_cell {G : vG} {ad : Nat → Nat} {ef : Value} {i : Nat} {x : vC} (h : vlay G i = some x) : vcv ad ef (.ref i) = .ref (ad i) := vcv_ref (by have := vlay_83 h; omega)
theorem vconL {G : vG} {r : Nat} {x : Nat × Nat × (Nat → Int32)} (h : vcon G r = some x) : r ≤ 1007 := by
  unfold vcon at h
  split at h <;> first | (cases h; done) | decide
section SM
variable {l : Launch} {G : vG} {d y pc nx : Nat} {ls : vL} {st : List Value} {σ : vM} {post : vQ}
theorem vs_iaload (hd : decode (vYc y) pc = .ok (.iaload, 1)) (h : vald G σ 0 st (fun v r => vS l G d y (pc + 1) ls (v :: r) σ post)) : vS l G d y pc ls st σ post := by
  unfold vald at h
  split at h
  next i a r =>
    split at h
    next t n es hl =>
      replace h : bif Nat.beq t 0 then ∃ j : Nat, i = nI j ∧ j < n ∧ vS l G d y (pc + 1) ls (.int (σ.1 a j) :: r) σ post else False := h
      obtain ⟨ht, j, rfl, hj, hh⟩ := vcond h
      clear h
      have h := hh
      have ht := Nat.eq_of_beq_eq_true ht
      subst ht
      obtain ⟨hz, -, -⟩ := vlay_arr hl
      intro p e R s m args below meth c A ad cA D ef cells slots Q hF hE H locs L hP hS hL hn
      rw [List.map_cons, List.map_cons, vcv_cell hl]
      refine va_iald (D := D) (tys := [(cA a, vty 0)]) hF.1 hF.2.1 (hF.2.2.2.2.2.1.one hl) hP a 0 (by rw [vwd_get (vlay_some hl).1, vcell_arr hl (by decide)]) rfl (vp_in_nI hj hz) hd ?_
      rw [nI_clamp (by omega)]
      exact (h p e R s m args below meth c A ad cA D ef cells slots Q hF hE H locs _ hP hS hL hn)
    next hl => cases h
    next hl =>
      split at h
      next t n f hc =>
        obtain ⟨ht, j, rfl, hj, hh⟩ := vcond h
        clear h
        have h := hh
        have ht := Nat.eq_of_beq_eq_true ht
        subst ht
        intro p e R s m args below meth c A ad cA D ef cells slots Q hF hE H locs L hP hS hL hn
        obtain ⟨-, -, -, -, -, -, -, -, -, h10⟩ := hF.2.2.2.2.2.2.1
        obtain ⟨hz, hT⟩ := h10 _ _ _ _ hc
        rw [List.map_cons, List.map_cons, vcv_ref (vconL hc)]
        exact va_ti hF.1 hF.2.1 hT hS (vp_in_nI hj hz) (by rw [nI_clamp (by omega)]; rfl) hd (h p e R s m args below meth c A ad cA D ef cells slots Q hF hE H locs _ hP hS hL hn)
      next hc => cases h
  next hne => cases h
theorem vs_baload (hd : decode (vYc y) pc = .ok (.baload, 1)) (h : vald G σ 1 st (fun v r => vS l G d y (pc + 1) ls (v :: r) σ post)) : vS l G d y pc ls st σ post := by
  unfold vald at h
  split at h
  next i a r =>
    split at h
    next t n es hl =>
      replace h : bif Nat.beq t 1 then ∃ j : Nat, i = nI j ∧ j < n ∧ vS l G d y (pc + 1) ls (.int (σ.1 a j) :: r) σ post else False := h
      obtain ⟨ht, j, rfl, hj, hh⟩ := vcond h
      clear h
      have h := hh
      have ht := Nat.eq_of_beq_eq_true ht
      subst ht
      obtain ⟨hz, -, -⟩ := vlay_arr hl
      intro p e R s m args below meth c A ad cA D ef cells slots Q hF hE H locs L hP hS hL hn
      rw [List.map_cons, List.map_cons, vcv_cell hl]
      refine va_zald (D := D) (tys := [(cA a, vty 1)]) hF.1 hF.2.1 (hF.2.2.2.2.2.1.one hl) hP a 0 (by rw [vwd_get (vlay_some hl).1, vcell_arr hl (by decide)]) rfl (vp_in_nI hj hz) hd ?_
      rw [nI_clamp (by omega)]
      exact (h p e R s m args below meth c A ad cA D ef cells slots Q hF hE H locs _ hP hS hL hn)
    next hl => cases h
    next hl =>
      split at h
      next t n f hc =>
        obtain ⟨ht, j, rfl, hj, hh⟩ := vcond h
        clear h
        have h := hh
        have ht := Nat.eq_of_beq_eq_true ht
        subst ht
        intro p e R s m args below meth c A ad cA D ef cells slots Q hF hE H locs L hP hS hL hn
        obtain ⟨-, -, -, -, -, -, -, -, -, h10⟩ := hF.2.2.2.2.2.2.1
        obtain ⟨hz, hT⟩ := h10 _ _ _ _ hc
        rw [List.map_cons, List.map_cons, vcv_ref (vconL hc)]
        exact va_tb hF.1 hF.2.1 hT hS (vp_in_nI hj hz) (by rw [nI_clamp (by omega)]; rfl) hd (h p e R s m args below meth c A ad cA D ef cells slots Q hF hE H locs _ hP hS hL hn)
      next hc => cases h
  next hne => cases h
theorem vs_aaload (hd : decode (vYc y) pc = .ok (.aaload, 1)) (h : vald G σ 2 st (fun v r => vS l G d y (pc + 1) ls (v :: r) σ post)) : vS l G d y pc ls st σ post := by
  unfold vald at h
  split at h
  next i a r =>
    split at h
    next t n es hl =>
      replace h : bif Nat.ble 2 t then ∃ j : Nat, i = nI j ∧ j < n ∧ vS l G d y (pc + 1) ls (.ref (es.getD j 0) :: r) σ post else False := h
      obtain ⟨ht, j, rfl, hj, hh⟩ := vcond h
      clear h
      have h := hh
      have ht := Nat.le_of_ble_eq_true ht
      obtain ⟨hz, ht3, hes⟩ := vlay_arr hl
      intro p e R s m args below meth c A ad cA D ef cells slots Q hF hE H locs L hP hS hL hn
      rw [List.map_cons, List.map_cons, vcv_cell hl]
      have hh : W p l e R s m args below meth c H locs cells slots Q (F0 m (pc + 1) L (va_rf ((fun k => some (ad (es.getD k 0))) (nI j).toNatClampNeg) :: r.map (vcv ad ef))) := by
        rw [nI_clamp (by omega)]
        have h1 := (h p e R s m args below meth c A ad cA D ef cells slots Q hF hE H locs _ hP hS hL hn)
        rw [List.map_cons, vcv_ref (by have := hes j; omega)] at h1
        exact h1
      rcases (show t = 2 ∨ t = 3 by omega) with rfl | rfl
      · exact va_aldq (C := RX4) (D := D) (tys := [(cA a, vty 2)]) hF.1 hF.2.1 (hF.2.2.2.2.2.1.one hl) hP a 0 (by rw [vwd_get (vlay_some hl).1, vcell_refs hl (by decide)]) rfl (vp_in_nI hj hz) hd hh
      · exact va_aldq (C := RX3) (D := D) (tys := [(cA a, vty 3)]) hF.1 hF.2.1 (hF.2.2.2.2.2.1.one hl) hP a 0 (by rw [vwd_get (vlay_some hl).1, vcell_refs hl (by decide)]) rfl (vp_in_nI hj hz) hd hh
    next hl => cases h
    next hl =>
      split at h
      next t n f hc =>
        obtain ⟨ht, -⟩ := vcond h
        have ht := Nat.eq_of_beq_eq_true ht
        subst ht
        exfalso
        unfold vcon at hc
        split at hc <;> cases hc
      next hc => cases h
  next hne => cases h
theorem vput_arr {ad : Nat → Nat} {cA : Nat → ClassId} {σ : vM} {G : vG} {a t n j : Nat} {es : List Nat} {x : Int32} (hl : vlay G a = some (.inl (t, n, es))) (ht : t ≤ 1) : vcell ad cA (vput σ a j x) a = .inl (cA a, n, .inl (upd (σ.1 a) j x)) := by
  rw [vcell_arr hl ht]
  congr 4
  funext k
  show (if a = a ∧ k = j then x else σ.1 a k) = if k = j then x else σ.1 a k
  by_cases e : k = j <;> simp [e]
theorem vs_iastore (hd : decode (vYc y) pc = .ok (.iastore, 1)) (h : vast G σ 0 st (fun σ r => vS l G d y (pc + 1) ls r σ post)) : vS l G d y pc ls st σ post := by
  unfold vast at h
  split at h
  next x i a r =>
    split at h
    next t n es hl =>
      obtain ⟨ht, hx, j, rfl, hj, hh⟩ := vcond h
      clear h
      have h := hh
      have ht := Nat.eq_of_beq_eq_true ht
      subst ht
      obtain ⟨hz, -, -⟩ := vlay_arr hl
      intro p e R s m args below meth c A ad cA D ef cells slots Q hF hE H locs L hP hS hL hn
      rw [List.map_cons, List.map_cons, List.map_cons, vcv_cell hl]
      refine va_iast (D := D) (tys := [(cA a, vty 0)]) hF.1 hF.2.1 (hF.2.2.2.2.2.1.one hl) hP (hF.2.2.2.2.2.2.2.2.1 σ) hS a 0 (by rw [vwd_get (vlay_some hl).1, vcell_arr hl (by decide)]) rfl (vp_in_nI hj hz) hd (fun H1 locs1 hP1 _ hS1 => ?_)
      rw [nI_clamp (by omega)] at hP1
      rw [vwd_set (σ' := vput σ a j x) (vlay_some hl).1 (fun j hj => vcell_put hj) (vput_arr hl (by decide))] at hP1
      exact (h p e R s m args below meth c A ad cA D ef cells slots Q hF hE H1 locs1 _ hP1 hS1 hL hn)
    next hl => cases h
  next hne => cases h
theorem vs_bastore (hd : decode (vYc y) pc = .ok (.bastore, 1)) (h : vast G σ 1 st (fun σ r => vS l G d y (pc + 1) ls r σ post)) : vS l G d y pc ls st σ post := by
  unfold vast at h
  split at h
  next x i a r =>
    split at h
    next t n es hl =>
      obtain ⟨ht, hx, j, rfl, hj, hh⟩ := vcond h
      clear h
      have h := hh
      have ht := Nat.eq_of_beq_eq_true ht
      subst ht
      obtain ⟨hz, -, -⟩ := vlay_arr hl
      intro p e R s m args below meth c A ad cA D ef cells slots Q hF hE H locs L hP hS hL hn
      rw [List.map_cons, List.map_cons, List.map_cons, vcv_cell hl]
      refine va_zast (D := D) (tys := [(cA a, vty 1)]) hF.1 hF.2.1 (hF.2.2.2.2.2.1.one hl) hP (hF.2.2.2.2.2.2.2.2.1 σ) hS a 0 (by rw [vwd_get (vlay_some hl).1, vcell_arr hl (by decide)]) rfl (vp_in_nI hj hz) hd (fun H1 locs1 hP1 _ hS1 => ?_)
      rw [nI_clamp (by omega)] at hP1
      have e1 : vp_nar .boolean x = x := by
        rcases hx rfl with rfl | rfl <;> rfl
      rw [e1] at hP1
      rw [vwd_set (σ' := vput σ a j x) (vlay_some hl).1 (fun j hj => vcell_put hj) (vput_arr hl (by decide))] at hP1
      exact (h p e R s m args below meth c A ad cA D ef cells slots Q hF hE H1 locs1 _ hP1 hS1 hL hn)
    next hl => cases h
  next hne => cases h
theorem vs_arraylength (hd : decode (vYc y) pc = .ok (.arraylength, 1)) (h : valen G st (fun n r => vS l G d y (pc + 1) ls (.int n :: r) σ post)) : vS l G d y pc ls st σ post := by
  unfold valen at h
  split at h
  next a r =>
    split at h
    next t n es hl =>
      intro p e R s m args below meth c A ad cA D ef cells slots Q hF hE H locs L hP hS hL hn
      rw [List.map_cons, vcv_cell hl]
      by_cases ht : t ≤ 1
      · exact va_alen (D := D) (tys := [(cA a, vty t)]) hF.1 hF.2.1 (hF.2.2.2.2.2.1.one hl) hP a 0 (by rw [vwd_get (vlay_some hl).1, vcell_arr hl ht]) rfl (v := nI n) rfl hd (h p e R s m args below meth c A ad cA D ef cells slots Q hF hE H locs _ hP hS hL hn)
      · exact va_alen (D := D) (tys := [(cA a, vty t)]) hF.1 hF.2.1 (hF.2.2.2.2.2.1.one hl) hP a 0 (by rw [vwd_get (vlay_some hl).1, vcell_refs hl (by omega)]) rfl (v := nI n) rfl hd (h p e R s m args below meth c A ad cA D ef cells slots Q hF hE H locs _ hP hS hL hn)
    next hl => cases h
    next hl =>
      split at h
      next t n f hc =>
        intro p e R s m args below meth c A ad cA D ef cells slots Q hF hE H locs L hP hS hL hn
        obtain ⟨-, -, -, -, -, -, -, -, -, h10⟩ := hF.2.2.2.2.2.2.1
        obtain ⟨hz, hT⟩ := h10 _ _ _ _ hc
        rw [List.map_cons, vcv_ref (vconL hc)]
        exact va_tlen hF.1 hF.2.1 hT hS (v := nI n) rfl hd (h p e R s m args below meth c A ad cA D ef cells slots Q hF hE H locs _ hP hS hL hn)
      next hc => cases h
  next hne => cases h
theorem vPf_ok {c idx ci k q : Nat} (h : vfind (vPf c) idx = some (ci, k, q)) : ci < 8 ∧ k < vfN ci ∧ Cond.fieldLink (vcn c) idx (vfT ci k).1 (vfT ci k).2.1 (vfT ci k).2.2.1 ∈ wsL_law := by
  have hm := vfind_mem h
  have hc : c < 15 := by
    rcases Nat.lt_or_ge c 15 with h1 | h1
    · exact h1
    · exfalso
      have e : vPf c = [] := by
        unfold vPf
        split <;> first | rfl | omega
      rw [e] at hm
      cases hm
  have h1 := List.all_eq_true.mp (List.all_eq_true.mp vPf_ok0 c (List.mem_range.mpr hc)) _ hm
  simp only [vPfC, Bool.and_eq_true] at h1
  obtain ⟨⟨h1, h2⟩, h3⟩ := h1
  exact ⟨by have := Nat.le_of_ble_eq_true h1; omega, Nat.le_of_ble_eq_true h2, vpos_mem h3 _ List.mem_cons_self⟩
theorem vPj_ok {c idx w : Nat} (h : vfind (vPj c) idx = some w) : (c = 9 ∧ idx = 9 ∧ w = 0) ∨ (c = 9 ∧ idx = 15 ∧ w = 1) := by
  have hm := vfind_mem h
  unfold vPj at hm
  split at hm
  · simp [vPj9] at hm
    rcases hm with ⟨rfl, rfl⟩ | ⟨rfl, rfl⟩
    · exact Or.inl ⟨rfl, rfl, rfl⟩
    · exact Or.inr ⟨rfl, rfl, rfl⟩
  · cases hm
theorem vs_getfield {idx : Nat} (hd : decode (vYc y) pc = .ok (.getfield idx, 3)) (h : vgetf G σ (vYk y) idx st (fun v r => vS l G d y (pc + 3) ls (v :: r) σ post)) : vS l G d y pc ls st σ post := by
  unfold vgetf at h
  split at h
  next a r =>
    split at h
    next ci fs hl =>
      split at h
      next ci' f q hf =>
        obtain ⟨he, hh⟩ := vcond h
        clear h
        have h := hh
        have he := Nat.eq_of_beq_eq_true he
        subst he
        obtain ⟨hc8, hfl, hk⟩ := vlay_obj hl
        obtain ⟨-, hfN, hlk⟩ := vPf_ok hf
        have key : ∀ (t : Nat × Nat) (v : Value), vnth fs f = some t → (∀ ad ef, vcv ad ef v = vfld ad σ a f t) → vS l G d y (pc + 3) ls (v :: r) σ post → vS l G d y pc ls (.ref a :: r) σ post := by
          intro t v ht hv h
          intro p e R s m args below meth c A ad cA D ef cells slots Q hF hE H locs L hP hS hL hn
          rw [List.map_cons, vcv_cell hl]
          have h1 := (h p e R s m args below meth c A ad cA D ef cells slots Q hF hE H locs _ hP hS hL hn)
          rw [List.map_cons, hv ad ef] at h1
          exact va_get (D := D) (ci := ci) (C := vcn ci) (T := vfT ci) (N := vfN ci) (ref := (vfT ci f).1) hF.1 hF.2.1 hF.2.2.2.2.1 (vin_at hc8) hF.2.2.2.1 hF.2.2.2.2.2.1.1 hP a (by rw [vwd_get (vlay_some hl).1, vcell_obj hl]) (vcl_at hc8) f hfN (hF.2.2.2.2.1 _ hlk) (fun _ h9 => h9) (vflds_get ht) hd h1
        split at h
        next t ht => exact key _ _ ht (fun _ _ => rfl) h
        next t ht => exact key _ _ ht (fun ad ef => by rw [vcv_ref (by have := (hk _ _ ht).2.1; dsimp only at this; omega)]; rfl) h
        next t ht => exact key _ _ ht (fun _ _ => rfl) h
        next t ht =>
          obtain ⟨u, hu, hu2, h⟩ := h
          exact key _ _ ht (fun ad ef => by rw [vcv_ref (by omega)]; show _ = Value.ref (ad (σ.1 a f).toNatClampNeg); rw [hu, nI_clamp (by omega)]) h
        next t ht => exact key _ _ ht (fun _ _ => rfl) h
        next => cases h
      next hf => cases h
    next hl => cases h
    next hl =>
      split at h
      next hj =>
        obtain ⟨ha, hh⟩ := vcond h
        clear h
        have h := hh
        rcases vPj_ok hj with ⟨hc, rfl, -⟩ | ⟨-, -, h0⟩
        · intro p e R s m args below meth c A ad cA D ef cells slots Q hF hE H locs L hP hS hL hn
          obtain ⟨h1, -, -, -, -, -, -, -, -, -⟩ := hF.2.2.2.2.2.2.1
          have hlk : (Cond.fieldLink (vcn (vYk y)) 9 "java/lang/String" "value" "[B").before args s = true := hF.2.2.2.2.1 _ (by rw [hc]; exact List.mem_of_getElem? (i := 87) (by decide +kernel))
          simp only [Bool.or_eq_true] at ha
          have ha2 : a = 1000 ∨ a = 1001 := ha.imp Nat.eq_of_beq_eq_true Nat.eq_of_beq_eq_true
          have h2 := (h p e R s m args below meth c A ad cA D ef cells slots Q hF hE H locs _ hP hS hL hn)
          rcases ha2 with rfl | rfl
          · exact vk_getf hF.1 hF.2.1 (h1.1 0 (by decide)).2.2.1 hS hF.2.2.2.1 hlk (fun _ h9 => h9) hd h2
          · exact vk_getf hF.1 hF.2.1 (h1.1 1 (by decide)).2.2.1 hS hF.2.2.2.1 hlk (fun _ h9 => h9) hd h2
        · cases h0
      next hj =>
        obtain ⟨ha, hh⟩ := vcond h
        clear h
        have h := hh
        rcases vPj_ok hj with ⟨-, -, h0⟩ | ⟨hc, rfl, -⟩
        · cases h0
        · intro p e R s m args below meth c A ad cA D ef cells slots Q hF hE H locs L hP hS hL hn
          obtain ⟨h1, -, -, -, -, -, -, -, -, -⟩ := hF.2.2.2.2.2.2.1
          have hlk : (Cond.fieldLink (vcn (vYk y)) 15 "java/lang/String" "coder" "B").before args s = true := hF.2.2.2.2.1 _ (by rw [hc]; exact List.mem_of_getElem? (i := 93) (by decide +kernel))
          simp only [Bool.or_eq_true] at ha
          have ha2 : a = 1000 ∨ a = 1001 := ha.imp Nat.eq_of_beq_eq_true Nat.eq_of_beq_eq_true
          have h2 := (h p e R s m args below meth c A ad cA D ef cells slots Q hF hE H locs _ hP hS hL hn)
          rcases ha2 with rfl | rfl
          · exact vk_getf hF.1 hF.2.1 (h1.1 0 (by decide)).2.1 hS hF.2.2.2.1 hlk (fun _ h9 => h9) hd h2
          · exact vk_getf hF.1 hF.2.1 (h1.1 1 (by decide)).2.1 hS hF.2.2.2.1 hlk (fun _ h9 => h9) hd h2
      next => cases h
  next hne => cases h
theorem vs_putfield {idx : Nat} (hd : decode (vYc y) pc = .ok (.putfield idx, 3)) (h : vputf G σ (vYk y) idx st (fun σ r => vS l G d y (pc + 3) ls r σ post)) : vS l G d y pc ls st σ post := by
  unfold vputf at h
  split at h
  next v a r =>
    split at h
    next ci fs hl =>
      split at h
      next ci' f q hf =>
        obtain ⟨he, hh⟩ := vcond h
        clear h
        have h := hh
        have he := Nat.eq_of_beq_eq_true he
        subst he
        obtain ⟨hc8, hfl, hk⟩ := vlay_obj hl
        obtain ⟨-, hfN, hlk⟩ := vPf_ok hf
        have key : ∀ (t : Nat × Nat) (σ' : vM), vnth fs f = some t → (vfT ci f).2.2.2 = false → (∀ ad ef, narrow (vfY ci f) (vcv ad ef v) = vcv ad ef v ∧ fits (vfY ci f) (vcv ad ef v) = true) → (∀ ad cA j, j ≠ a → vcell ad cA σ' j = vcell ad cA σ j) → (∀ ad j g, j ≠ f → vfld ad σ' a j g = vfld ad σ a j g) → (∀ ad ef, vfld ad σ' a f t = vcv ad ef v) → vS l G d y (pc + 3) ls r σ' post → vS l G d y pc ls (v :: .ref a :: r) σ post := by
          intro t σ' ht hfin hnf hc1 hc2 hv h
          intro p e R s m args below meth c A ad cA D ef cells slots Q hF hE H locs L hP hS hL hn
          rw [List.map_cons, List.map_cons, vcv_cell hl]
          refine va_put (D := D) (ci := ci) (C := vcn ci) (T := vfT ci) (N := vfN ci) (ref := (vfT ci f).1) hF.1 hF.2.1 hF.2.2.2.2.1 (vin_at hc8) (vfY ci) (vty_at hc8) (vnm_at hc8) hF.2.2.2.1 hF.2.2.2.2.2.1.1 hP (hF.2.2.2.2.2.2.2.2.1 σ) hS a (by rw [vwd_get (vlay_some hl).1, vcell_obj hl]) (vcl_at hc8) f hfN (hF.2.2.2.2.1 _ hlk) (fun _ h9 => h9) hfin (vty_at hc8 f hfN) (hnf ad ef).1 (hnf ad ef).2 (by simp [vflds, hfl, hfN]) hd (fun H1 locs1 hP1 _ hS1 => ?_)
          rw [vwd_set (σ' := σ') (vlay_some hl).1 (hc1 ad cA) (by rw [vcell_obj hl, vflds_set ht (hc2 ad) (hv ad ef)])] at hP1
          exact (h p e R s m args below meth c A ad cA D ef cells slots Q hF hE H1 locs1 _ hP1 hS1 hL hn)
        split at h
        next t ht =>
          split at h
          next x =>
            have hT := (hk _ _ ht).2.2
            simp only [vtagT, Bool.and_eq_true, decide_eq_true_eq, Bool.not_eq_true'] at hT
            exact key _ _ ht hT.2 (fun _ _ => by rw [hT.1]; exact ⟨rfl, rfl⟩) (fun _ _ _ hj => vcell_put hj) (fun ad j g hj => by simp only [vfld, vput]; rw [if_neg (fun q => hj q.2)]) (fun _ _ => by simp [vfld, vput, vcv]) h
          next => cases h
        next t ht =>
          split at h
          next x =>
            have hT := (hk _ _ ht).2.2
            simp only [vtagT, Bool.and_eq_true, decide_eq_true_eq, Bool.not_eq_true'] at hT
            exact key _ _ ht hT.2 (fun _ _ => by rw [hT.1]; exact ⟨rfl, rfl⟩) (fun _ _ _ hj => vcell_putL hj) (fun ad j g hj => by simp only [vfld, vputL]; rw [if_neg (fun q => hj q.2)]) (fun _ _ => by simp [vfld, vputL, vcv]) h
          next => cases h
        next t ht =>
          split at h
          next x =>
            obtain ⟨hx, hh⟩ := vcond h
            clear h
            have h := hh
            have hx := Nat.le_of_ble_eq_true hx
            have hT := (hk _ _ ht).2.2
            have hT2 : (∃ C, vfY ci f = .object C) ∧ (vfT ci f).2.2.2 = false := by
              revert hT
              cases vfY ci f with
              | object C => intro hT; exact ⟨⟨C, rfl⟩, by simpa [vtagT] using hT⟩
              | _ => intro hT; cases hT
            obtain ⟨⟨C, hC⟩, hfin⟩ := hT2
            exact key _ _ ht hfin (fun ad ef => by rw [hC, vcv_ref (by omega)]; exact ⟨rfl, rfl⟩) (fun _ _ _ hj => vcell_put hj) (fun ad j g hj => by simp only [vfld, vput]; rw [if_neg (fun q => hj q.2)]) (fun ad ef => by rw [vcv_ref (x := x) (Nat.le_trans hx (by decide))]; show Value.ref (ad (if a = a ∧ f = f then nI x else σ.1 a f).toNatClampNeg) = _; rw [if_pos ⟨rfl, rfl⟩, nI_clamp (n := x) (Nat.lt_of_le_of_lt hx (by decide))]) h
          next => cases h
        next t ht =>
          split at h
          next x =>
            obtain ⟨hx, h⟩ := h
            have hT := (hk _ _ ht).2.2
            simp only [vtagT, Bool.and_eq_true, decide_eq_true_eq, Bool.not_eq_true'] at hT
            exact key _ _ ht hT.2 (fun _ _ => by rw [hT.1]; rcases hx with rfl | rfl <;> exact ⟨rfl, rfl⟩) (fun _ _ _ hj => vcell_put hj) (fun ad j g hj => by simp only [vfld, vput]; rw [if_neg (fun q => hj q.2)]) (fun _ _ => by simp [vfld, vput, vcv]) h
          next => cases h
        next => cases h
      next hf => cases h
    next hl => cases h
  next hne => cases h
end SM
end
section
theorem vPk_ok {c idx : Nat} {v : Value} (h : vfind (vPk c) idx = some v) : vPkC c (idx, v) = true := by
  have hm := vfind_mem h
  have hc : c < 15 := by
    rcases Nat.lt_or_ge c 15 with h1 | h1
    · exact h1
    · exfalso
      have e : vPk c = [] := by
        unfold vPk
        split <;> first | rfl | omega
      rw [e] at hm
      cases hm
  exact List.all_eq_true.mp (List.all_eq_true.mp vPk_ok0 c (List.mem_range.mpr hc)) _ hm
section SO
variable {l : Launch} {G : vG} {d y pc nx : Nat} {ls : vL} {st : List Value} {σ : vM} {post : vQ}
theorem vs_ldc {idx : Nat} (hd : decode (vYc y) pc = .ok (.ldc idx, 2)) (h : vldc (vYk y) idx st (fun r => vS l G d y (pc + 2) ls r σ post)) : vS l G d y pc ls st σ post := by
  unfold vldc at h
  split at h
  next x hx =>
    have hk := vPk_ok hx
    simp only [vPkC, decide_eq_true_eq] at hk
    intro p e R s m args below meth c A ad cA D ef cells slots Q hF hE H locs L hP hS hL hn
    exact lv_ldc hF.1 hF.2.1 hF.2.2.2.1 (hF.2.2.2.2.1 _ hk) hd (h p e R s m args below meth c A ad cA D ef cells slots Q hF hE H locs _ hP hS hL hn)
  next hne =>
    rcases hc : (Nat.beq (vYk y) 6 && Nat.beq idx 60) with _ | _
    · rw [hc] at h
      obtain ⟨hc2, hh⟩ := vcond (b := Nat.beq (vYk y) 2 && Nat.beq idx 106) h
      clear h
      have h := hh
      simp only [Bool.and_eq_true] at hc2
      have e1 := Nat.eq_of_beq_eq_true hc2.1
      have e2 := Nat.eq_of_beq_eq_true hc2.2
      subst e2
      intro p e R s m args below meth c A ad cA D ef cells slots Q hF hE H locs L hP hS hL hn
      have h2 := (h p e R s m args below meth c A ad cA D ef cells slots Q hF hE H locs _ hP hS hL hn)
      exact va_ldcS hF.1 hF.2.1 hF.2.2.2.1 (by rw [e1]; exact hF.2.2.2.2.2.2.1.2.2.1) hd h2
    · rw [hc] at h
      simp only [Bool.and_eq_true] at hc
      have e1 := Nat.eq_of_beq_eq_true hc.1
      have e2 := Nat.eq_of_beq_eq_true hc.2
      subst e2
      intro p e R s m args below meth c A ad cA D ef cells slots Q hF hE H locs L hP hS hL hn
      have h2 := (h p e R s m args below meth c A ad cA D ef cells slots Q hF hE H locs _ hP hS hL hn)
      exact va_ldcS hF.1 hF.2.1 hF.2.2.2.1 (by rw [e1]; exact hF.2.2.2.2.2.2.1.2.1) hd h2
theorem vs_ldc_w {idx : Nat} (hd : decode (vYc y) pc = .ok (.ldc_w idx, 3)) (h : match vfind (vPk (vYk y)) idx with | some (.int x) => vS l G d y (pc + 3) ls (.int x :: st) σ post | _ => False) : vS l G d y pc ls st σ post := by
  split at h
  next x hx =>
    have hk := vPk_ok hx
    simp only [vPkC, decide_eq_true_eq] at hk
    intro p e R s m args below meth c A ad cA D ef cells slots Q hF hE H locs L hP hS hL hn
    exact lv_ldcw hF.1 hF.2.1 hF.2.2.2.1 (hF.2.2.2.2.1 _ hk) hd (h p e R s m args below meth c A ad cA D ef cells slots Q hF hE H locs _ hP hS hL hn)
  next => cases h
theorem vs_ldc2_w {idx : Nat} (hd : decode (vYc y) pc = .ok (.ldc2_w idx, 3)) (h : vldc2 (vYk y) idx st (fun r => vS l G d y (pc + 3) ls r σ post)) : vS l G d y pc ls st σ post := by
  unfold vldc2 at h
  split at h
  next x hx =>
    have hk := vPk_ok hx
    simp only [vPkC, decide_eq_true_eq] at hk
    intro p e R s m args below meth c A ad cA D ef cells slots Q hF hE H locs L hP hS hL hn
    exact lv_ldc2 hF.1 hF.2.1 hF.2.2.2.1 (hF.2.2.2.2.1 _ hk) hd (h p e R s m args below meth c A ad cA D ef cells slots Q hF hE H locs _ hP hS hL hn)
  next => cases h
theorem vPs_ok {c idx : Nat} {v : Value} (h : vfind (vPs c) idx = some v) : (c = 6 ∧ idx = 87 ∧ v = .ref 1006) ∨ (c = 6 ∧ idx = 90 ∧ v = .ref 1005) ∨ (c = 6 ∧ idx = 301 ∧ v = .ref 1004) ∨ (c = 9 ∧ idx = 38 ∧ v = .int 1) ∨ (c = 9 ∧ idx = 1053 ∧ v = .ref 1008) := by
  have hm := vfind_mem h
  unfold vPs at hm
  split at hm
  · simp only [vPs6, List.mem_cons, Prod.mk.injEq, List.not_mem_nil, or_false] at hm
    rcases hm with ⟨rfl, rfl⟩ | ⟨rfl, rfl⟩ | ⟨rfl, rfl⟩ <;> simp
  · simp only [vPs9, List.mem_cons, Prod.mk.injEq, List.not_mem_nil, or_false] at hm
    rcases hm with ⟨rfl, rfl⟩ | ⟨rfl, rfl⟩ <;> simp
  · cases hm
theorem vs_getstatic {idx : Nat} (hd : decode (vYc y) pc = .ok (.getstatic idx, 3)) (h : match vfind (vPs (vYk y)) idx with | some v => vS l G d y (pc + 3) ls (v :: st) σ post | none => False) : vS l G d y pc ls st σ post := by
  split at h
  next v hv =>
    intro p e R s m args below meth c A ad cA D ef cells slots Q hF hE H locs L hP hS hL hn
    obtain ⟨-, -, -, z4, z5, z6, z7, z8, -, -⟩ := hF.2.2.2.2.2.2.1
    have h2 := (h p e R s m args below meth c A ad cA D ef cells slots Q hF hE H locs _ hP hS hL hn)
    rcases vPs_ok hv with ⟨hc, rfl, rfl⟩ | ⟨hc, rfl, rfl⟩ | ⟨hc, rfl, rfl⟩ | ⟨hc, rfl, rfl⟩ | ⟨hc, rfl, rfl⟩
    · exact va_gets hF.1 hF.2.1 z6 hS hF.2.2.2.1 (ref := "LightYearsAreOwed") (hF.2.2.2.2.1 _ (show Cond.fieldLink (vcn (vYk y)) 87 "LightYearsAreOwed" "MOST" "[I" ∈ wsL_law by rw [hc]; exact List.mem_of_getElem? (i := 278) (by decide +kernel))) (fun _ h9 => h9) hd h2
    · exact va_gets hF.1 hF.2.1 z5 hS hF.2.2.2.1 (ref := "LightYearsAreOwed") (hF.2.2.2.2.1 _ (show Cond.fieldLink (vcn (vYk y)) 90 "LightYearsAreOwed" "LEAST" "[I" ∈ wsL_law by rw [hc]; exact List.mem_of_getElem? (i := 279) (by decide +kernel))) (fun _ h9 => h9) hd h2
    · exact va_gets hF.1 hF.2.1 z4 hS hF.2.2.2.1 (ref := "LightYearsAreOwed") (hF.2.2.2.2.1 _ (show Cond.fieldLink (vcn (vYk y)) 301 "LightYearsAreOwed" "UNDER" "[I" ∈ wsL_law by rw [hc]; exact List.mem_of_getElem? (i := 1063) (by decide +kernel))) (fun _ h9 => h9) hd h2
    · exact va_gets hF.1 hF.2.1 z7 hS hF.2.2.2.1 (ref := "java/lang/String") (hF.2.2.2.2.1 _ (show Cond.fieldLink (vcn (vYk y)) 38 "java/lang/String" "COMPACT_STRINGS" "Z" ∈ wsL_law by rw [hc]; exact List.mem_of_getElem? (i := 92) (by decide +kernel))) (fun _ h9 => h9) hd h2
    · exact va_gets hF.1 hF.2.1 z8 hS hF.2.2.2.1 (ref := "jdk/internal/util/Preconditions") (hF.2.2.2.2.1 _ (show Cond.fieldLink (vcn (vYk y)) 1053 "jdk/internal/util/Preconditions" "SIOOBE_FORMATTER" "Ljava/util/function/BiFunction;" ∈ wsL_law by rw [hc]; exact List.mem_of_getElem? (i := 109) (by decide +kernel))) (fun _ h9 => h9) hd h2
  next => cases h
theorem vsw_cases {P : Nat → Prop} {x : Int32} {df : Nat} {l : List (Int32 × Nat)} (h : vswF P x df l) : (∃ (k : Nat) (q : Int32 × Nat), l[k]? = some q ∧ x = q.1 ∧ P q.2) ∨ ((∀ q ∈ l, ¬ x = q.1) ∧ P df) := by
  induction l with
  | nil => exact Or.inr ⟨fun q hq => absurd hq List.not_mem_nil, h⟩
  | cons a l ih =>
    obtain ⟨h1, h2⟩ := h
    by_cases e : x = a.1
    · exact Or.inl ⟨0, a, rfl, e, h1 e⟩
    · rcases ih (h2 e) with ⟨k, q, hk, he, hP⟩ | ⟨hn, hP⟩
      · exact Or.inl ⟨k + 1, q, hk, he, hP⟩
      · refine Or.inr ⟨fun q hq => ?_, hP⟩
        rcases List.mem_cons.mp hq with rfl | hq
        · exact e
        · exact hn q hq
theorem vs_tableswitch {dflt lo hi : Int} {offs : Array Int} {len tg : Nat} {im : Int32} (hd : decode (vYc y) pc = .ok (.tableswitch dflt lo hi offs, len)) (hk : vchk1 y pc (.tableswitch dflt lo hi offs) nx tg im = true) (h : vI1 st (fun a r => match vswfind vSw y pc with | some (l', df) => vswF (fun t => vS l G d y t ls r σ post) a df l' | none => False)) : vS l G d y pc ls st σ post := by
  obtain ⟨x, r, rfl, h⟩ := vI1_e h
  unfold vchk1 at hk
  dsimp only at hk
  split at hk
  next l' df hsw =>
    rw [hsw] at h
    simp only [Bool.and_eq_true, decide_eq_true_eq] at hk
    obtain ⟨hdf, hlen, hhi, hall⟩ := hk
    have hlen := Nat.eq_of_beq_eq_true hlen
    have key : ∀ (k : Nat) (q : Int32 × Nat), l'[k]? = some q → ∃ o, offs[k]? = some o ∧ q.1.toInt = lo + (k : Int) ∧ (pc : Int) + o = (q.2 : Int) := by
      intro k q hq
      have hk := (List.getElem?_eq_some_iff.mp hq).1
      have h1 := List.all_eq_true.mp hall k (List.mem_range.mpr hk)
      rw [hq] at h1
      cases ho : offs[k]? with
      | none => rw [ho] at h1; cases h1
      | some o =>
        rw [ho] at h1
        simp only [Bool.and_eq_true, decide_eq_true_eq] at h1
        exact ⟨o, rfl, h1.1, h1.2⟩
    rcases vsw_cases h with ⟨k, q, hq, hx, h⟩ | ⟨hne, h⟩
    · obtain ⟨o, ho, he, ht⟩ := key k q hq
      have hk := (List.getElem?_eq_some_iff.mp hq).1
      intro p e R s m args below meth c A ad cA D ef cells slots Q hF hE H locs L hP hS hL hn
      rw [← hx] at he
      exact lv_tableIn hF.1 hF.2.1 hd (by omega) (by omega) (off := o) (by rw [show (x.toInt - lo).toNat = k by omega]; exact ho) ht (h p e R s m args below meth c A ad cA D ef cells slots Q hF hE H locs _ hP hS hL hn)
    · have hout : x.toInt < lo ∨ hi < x.toInt := by
        by_cases h1 : x.toInt < lo
        · exact Or.inl h1
        · by_cases h2 : hi < x.toInt
          · exact Or.inr h2
          · exfalso
            have hk : (x.toInt - lo).toNat < l'.length := by omega
            obtain ⟨o, -, he, -⟩ := key _ _ (List.getElem?_eq_getElem hk)
            refine hne _ (List.getElem_mem hk) (Int32.toInt_inj.mp ?_)
            rw [he]; omega
      intro p e R s m args below meth c A ad cA D ef cells slots Q hF hE H locs L hP hS hL hn
      exact lv_tableOut hF.1 hF.2.1 hd hout hdf (h p e R s m args below meth c A ad cA D ef cells slots Q hF hE H locs _ hP hS hL hn)
  next => cases hk
theorem vlks_ok {P : Nat → Prop} {pc : Nat} {x : Int32} {df : Nat} {dflt : Int} (hdf : (pc : Int) + dflt = (df : Int)) {l' : List (Int32 × Nat)} {ps : List (Int × Int)} (hk : vlks pc l' ps = true) (h : vswF P x df l') : ∃ (o : Int) (t : Nat), Op.lookupswitch.offset ps dflt x.toInt = o ∧ (pc : Int) + o = (t : Int) ∧ P t := by
  induction l' generalizing ps with
  | nil =>
    cases ps with
    | nil => exact ⟨dflt, df, rfl, hdf, h⟩
    | cons _ _ => cases hk
  | cons q l' ih =>
    cases ps with
    | nil => cases hk
    | cons r ps =>
      obtain ⟨a, o⟩ := r
      simp only [vlks, Bool.and_eq_true, decide_eq_true_eq] at hk
      obtain ⟨⟨h1, h2⟩, h3⟩ := hk
      obtain ⟨k1, k2⟩ := h
      by_cases e : x = q.1
      · refine ⟨o, q.2, ?_, h2, k1 e⟩
        rw [Op.lookupswitch.offset_cons, if_pos]
        rw [e, h1]
      · obtain ⟨o', t, g1, g2, g3⟩ := ih h3 (k2 e)
        exact ⟨o', t, by rw [lv_osw e h1]; exact g1, g2, g3⟩
theorem vs_lookupswitch {dflt : Int} {ps : Array (Int × Int)} {len tg : Nat} {im : Int32} (hd : decode (vYc y) pc = .ok (.lookupswitch dflt ps, len)) (hk : vchk1 y pc (.lookupswitch dflt ps) nx tg im = true) (h : vI1 st (fun a r => match vswfind vSw y pc with | some (l', df) => vswF (fun t => vS l G d y t ls r σ post) a df l' | none => False)) : vS l G d y pc ls st σ post := by
  obtain ⟨x, r, rfl, h⟩ := vI1_e h
  unfold vchk1 at hk
  dsimp only at hk
  split at hk
  next l' df hsw =>
    rw [hsw] at h
    simp only [Bool.and_eq_true, decide_eq_true_eq] at hk
    obtain ⟨hdf, hlk, hsort⟩ := hk
    obtain ⟨o, t, h1, h2, h⟩ := vlks_ok hdf hlk h
    intro p e R s m args below meth c A ad cA D ef cells slots Q hF hE H locs L hP hS hL hn
    exact lv_lookup hF.1 hF.2.1 hd hsort h1 h2 (h p e R s m args below meth c A ad cA D ef cells slots Q hF hE H locs _ hP hS hL hn)
  next => cases hk
theorem vs_ireturn (hd : decode (vYc y) pc = .ok (.ireturn, 1)) (h : match st with | [.int x] => vretI y x (post (some (.int x)) σ) | _ => False) : vS l G d y pc ls st σ post := by
  split at h
  next x =>
    have key : post (some (.int x)) σ ∧ ∃ ty : FieldType, vYr y = some ty ∧ narrow ty (.int x) = .int x := by
      unfold vretI at h
      split at h
      next hr => exact ⟨h, _, hr, rfl⟩
      next hr => exact ⟨h.2, _, hr, by rcases h.1 with rfl | rfl <;> rfl⟩
      next hr => exact ⟨h.2, _, hr, h.1⟩
      next hr => exact ⟨h.2, _, hr, h.1⟩
      next => cases h
    obtain ⟨hp, ty, hr, hnw⟩ := key
    intro p e R s m args below meth c A ad cA D ef cells slots Q hF hE H locs L hP hS hL hn
    exact hE H locs L pc (some (.int x)) σ .ireturn hp hd (Or.inl ⟨rfl, x, ty, rfl, hr, hnw⟩) hP hS
  next => cases h
theorem vs_lreturn (hd : decode (vYc y) pc = .ok (.lreturn, 1)) (h : match st with | [.long x] => (match vYr y with | some .long => post (some (.long x)) σ | _ => False) | _ => False) : vS l G d y pc ls st σ post := by
  split at h
  next x =>
    split at h
    next hr =>
      intro p e R s m args below meth c A ad cA D ef cells slots Q hF hE H locs L hP hS hL hn
      exact hE H locs L pc (some (.long x)) σ .lreturn h hd (Or.inr (Or.inl ⟨rfl, x, rfl, hr⟩)) hP hS
    next => cases h
  next => cases h
theorem vs_areturn (hd : decode (vYc y) pc = .ok (.areturn, 1)) (h : match st with | [.ref x] => (match vYr y with | some (.object _) => post (some (.ref x)) σ | some (.array _) => post (some (.ref x)) σ | _ => False) | [.null] => (match vYr y with | some (.object _) => post (some .null) σ | some (.array _) => post (some .null) σ | _ => False) | _ => False) : vS l G d y pc ls st σ post := by
  split at h
  next x =>
    split at h
    next o hr =>
      intro p e R s m args below meth c A ad cA D ef cells slots Q hF hE H locs L hP hS hL hn
      exact hE H locs L pc (some (.ref x)) σ .areturn h hd (Or.inr (Or.inr (Or.inl ⟨rfl, _, _, rfl, Or.inr ⟨x, rfl⟩, hr, Or.inl ⟨o, rfl⟩⟩))) hP hS
    next o hr =>
      intro p e R s m args below meth c A ad cA D ef cells slots Q hF hE H locs L hP hS hL hn
      exact hE H locs L pc (some (.ref x)) σ .areturn h hd (Or.inr (Or.inr (Or.inl ⟨rfl, _, _, rfl, Or.inr ⟨x, rfl⟩, hr, Or.inr ⟨o, rfl⟩⟩))) hP hS
    next => cases h
  next =>
    split at h
    next o hr =>
      intro p e R s m args below meth c A ad cA D ef cells slots Q hF hE H locs L hP hS hL hn
      exact hE H locs L pc (some .null) σ .areturn h hd (Or.inr (Or.inr (Or.inl ⟨rfl, _, _, rfl, Or.inl rfl, hr, Or.inl ⟨o, rfl⟩⟩))) hP hS
    next o hr =>
      intro p e R s m args below meth c A ad cA D ef cells slots Q hF hE H locs L hP hS hL hn
      exact hE H locs L pc (some .null) σ .areturn h hd (Or.inr (Or.inr (Or.inl ⟨rfl, _, _, rfl, Or.inl rfl, hr, Or.inr ⟨o, rfl⟩⟩))) hP hS
    next => cases h
  next => cases h
theorem vs_return (hd : decode (vYc y) pc = .ok (.return_, 1)) (h : match st with | [] => (match vYr y with | none => post none σ | _ => False) | _ => False) : vS l G d y pc ls st σ post := by
  split at h
  next =>
    split at h
    next hr =>
      intro p e R s m args below meth c A ad cA D ef cells slots Q hF hE H locs L hP hS hL hn
      exact hE H locs L pc none σ .return_ h hd (Or.inr (Or.inr (Or.inr ⟨rfl, rfl, hr⟩))) hP hS
    next => cases h
  next => cases h
end SO
end
section
theorem vPm_ok {c idx : Nat} {q : Nat × Nat × Nat × List Nat} (h : vfind (vPm c) idx = some q) : vPmC c (idx, q) = true := by
  have hm := vfind_mem h
  have hc : c < 15 := by
    rcases Nat.lt_or_ge c 15 with h1 | h1
    · exact h1
    · exfalso
      have e : vPm c = [] := by
        unfold vPm
        split <;> first | rfl | omega
      rw [e] at hm
      cases hm
  exact List.all_eq_true.mp (List.all_eq_true.mp vPm_ok0 c (List.mem_range.mpr hc)) _ hm
theorem vcats_sum {ad : Nat → Nat} {ef : Value} (he : ef.category = 1) (r : List Value) : ((r.map (vcv ad ef)).map fun v => v.category).sum = vcats r := by
  induction r with
  | nil => rfl
  | cons v r ih => rw [List.map_cons, List.map_cons, List.sum_cons, ih, vcv_cat he]; rfl
theorem vw_native : Cond.native arraycopyName ∈ wsL_law := List.mem_of_getElem? (i := 992) (by decide +kernel)
theorem vw_static : Cond.static arraycopyName ∈ wsL_law := List.mem_of_getElem? (i := 993) (by decide +kernel)
theorem vw_system : Cond.initialized "java/lang/System" ∈ wsL_law := List.mem_of_getElem? (i := 994) (by decide +kernel)
theorem vw_smax : Cond.static Lib.Math.max.name ∈ wsL_law := List.mem_of_getElem? (i := 629) (by decide +kernel)
set_option maxRecDepth 100000 in
theorem vw_cmax : Cond.code Lib.Math.max.name Lib.Math.max.code 2 (some .int) ∈ wsL_law := List.mem_of_getElem? (i := 631) rfl
theorem vw_smin : Cond.static Lib.Math.min.name ∈ wsL_law := List.mem_of_getElem? (i := 649) (by decide +kernel)
set_option maxRecDepth 100000 in
theorem vw_cmin : Cond.code Lib.Math.min.name Lib.Math.min.code 2 (some .int) ∈ wsL_law := List.mem_of_getElem? (i := 650) rfl
theorem vw_sabs : Cond.static Lib.Math.abs.name ∈ wsL_law := List.mem_of_getElem? (i := 856) (by decide +kernel)
set_option maxRecDepth 100000 in
theorem vw_cabs : Cond.code Lib.Math.abs.name Lib.Math.abs.code 1 (some .int) ∈ wsL_law := List.mem_of_getElem? (i := 857) rfl
theorem vw_math : Cond.initialized "java/lang/Math" ∈ wsL_law := List.mem_of_getElem? (i := 630) (by decide +kernel)
section SC
variable {l : Launch} {G : vG} {d y pc nx : Nat} {ls : vL} {st : List Value} {σ : vM} {post : vQ}
theorem vs_acopy {idx y' n : Nat} {ps : List Nat} (hd : decode (vYc y) pc = .ok (.invokestatic idx, 3)) (hpm : vfind (vPm (vYk y)) idx = some (y', n, 3, ps)) (h : vacopy G σ st (fun σ r => vS l G (d + 1) y (pc + 3) ls r σ post)) : vS l G (d + 1) y pc ls st σ post := by
  unfold vacopy at h
  split at h
  next n j b i a r =>
    split at h
    next na es1 hla =>
      split at h
      next nb es2 hlb =>
        obtain ⟨hr, sp, dp, w, rfl, rfl, rfl, h1, h2, hh⟩ := vcond h
        clear h
        have h := hh
        have hr := Nat.le_of_ble_eq_true hr
        obtain ⟨za, -, -⟩ := vlay_arr hla
        obtain ⟨zb, -, -⟩ := vlay_arr hlb
        have hk := vPm_ok hpm
        have hlk : Cond.methodLink (vcn (vYk y)) idx arraycopyName ∈ wsL_law := vpos_mem hk _ List.mem_cons_self
        intro p e R s m args below meth c A ad cA D ef cells slots Q hF hE H locs L hP hS hL hn
        rw [List.map_cons, List.map_cons, List.map_cons, List.map_cons, List.map_cons, vcv_cell hla, vcv_cell hlb]
        obtain ⟨r1, r2, r3, r4⟩ := hF.2.2.2.2.2.2.2.2.2
        have e1 := nI_clamp (n := sp) (by omega)
        have e2 := nI_clamp (n := dp) (by omega)
        have e3 := nI_clamp (n := w) (by omega)
        refine va_copyi (D := D) (tys := [(cA a, vty 0), (cA b, vty 0)]) (ty := vty 0) hF.1 hF.2.1 (by rw [hF.2.2.1, hL.1, hn]) hF.2.2.2.1 (hF.2.2.2.2.1 _ hlk) (hF.2.2.2.2.1 _ vw_native) (hF.2.2.2.2.1 _ vw_static) (hF.2.2.2.2.1 _ vw_system) (hF.2.2.2.2.2.1.two hla hlb) hP (hF.2.2.2.2.2.2.2.2.1 σ) hS a b 0 1 (by rw [vwd_get (vlay_some hla).1, vcell_arr hla (by decide)]) (by rw [vwd_get (vlay_some hlb).1, vcell_arr hlb (by decide)]) rfl rfl rfl (nI_pos (by omega)) (nI_pos (by omega)) (nI_pos (by omega)) (by rw [e1, e3]; exact h1) (by rw [e2, e3]; exact h2) (fun _ _ => rfl) (by omega) (by
          have := vcats_sum (ad := ad) (vef_cat hF.2.2.2.2.2.2.1) r
          have : nativeFrameWords "java/lang/System" "arraycopy" 5 ≤ 7 := by decide
          omega) hd (fun H1 locs1 hP1 _ hS1 => ?_)
        rw [e1, e2, e3, vwd_set (σ' := vcopy σ a sp b dp w) (vlay_some hlb).1 (fun j hj => vcell_copy hj) (by
          rw [vcell_arr hlb (by decide)]
          congr 4
          funext k
          show (if b = b ∧ dp ≤ k ∧ k < dp + w then σ.1 a (sp + (k - dp)) else σ.1 b k) = if dp ≤ k ∧ k < dp + w then σ.1 a (sp + (k - dp)) else σ.1 b k
          by_cases e : dp ≤ k ∧ k < dp + w
          · rw [if_pos ⟨rfl, e⟩, if_pos e]
          · rw [if_neg (fun q => e q.2), if_neg e])] at hP1
        exact (h p e R s m args below meth c A ad cA D ef cells slots Q hF hE H1 locs1 _ hP1 hS1 hL hn)
      next => cases h
    next => cases h
  next => cases h
theorem vs_mmax {idx y' n : Nat} {ps : List Nat} (hd : decode (vYc y) pc = .ok (.invokestatic idx, 3)) (hpm : vfind (vPm (vYk y)) idx = some (y', n, 4, ps)) (h : vI2 st (fun a b r => bif Nat.ble (vcats r) 8 then vS l G (d + 1) y (pc + 3) ls (.int (if a < b then b else a) :: r) σ post else False)) : vS l G (d + 1) y pc ls st σ post := by
  obtain ⟨a, b, r, rfl, h⟩ := vI2_e h
  obtain ⟨hr, hh⟩ := vcond h
  clear h
  have h := hh
  have hr := Nat.le_of_ble_eq_true hr
  have hk := vPm_ok hpm
  have hlk : Cond.methodLink (vcn (vYk y)) idx Lib.Math.max.name ∈ wsL_law := vpos_mem hk _ List.mem_cons_self
  intro p e R s m args below meth c A ad cA D ef cells slots Q hF hE H locs L hP hS hL hn
  obtain ⟨r1, r2, r3, r4⟩ := hF.2.2.2.2.2.2.2.2.2
  have hsum := vcats_sum (ad := ad) (vef_cat hF.2.2.2.2.2.2.1) r
  exact va_mmax hF.1 hF.2.1 (by rw [hF.2.2.1, hL.1, hn]) hF.2.2.2.1 (hF.2.2.2.2.1 _ hlk) (hF.2.2.2.2.1 _ vw_smax) (hF.2.2.2.2.1 _ vw_math) (hF.2.2.2.2.1 _ vw_cmax) (by omega) (by omega) r3 r4 hd (h p e R s m args below meth c A ad cA D ef cells slots Q hF hE H locs _ hP hS hL hn)
theorem vs_mmin {idx y' n : Nat} {ps : List Nat} (hd : decode (vYc y) pc = .ok (.invokestatic idx, 3)) (hpm : vfind (vPm (vYk y)) idx = some (y', n, 5, ps)) (h : vI2 st (fun a b r => bif Nat.ble (vcats r) 8 then vS l G (d + 1) y (pc + 3) ls (.int (if b < a then b else a) :: r) σ post else False)) : vS l G (d + 1) y pc ls st σ post := by
  obtain ⟨a, b, r, rfl, h⟩ := vI2_e h
  obtain ⟨hr, hh⟩ := vcond h
  clear h
  have h := hh
  have hr := Nat.le_of_ble_eq_true hr
  have hk := vPm_ok hpm
  have hlk : Cond.methodLink (vcn (vYk y)) idx Lib.Math.min.name ∈ wsL_law := vpos_mem hk _ List.mem_cons_self
  intro p e R s m args below meth c A ad cA D ef cells slots Q hF hE H locs L hP hS hL hn
  obtain ⟨r1, r2, r3, r4⟩ := hF.2.2.2.2.2.2.2.2.2
  have hsum := vcats_sum (ad := ad) (vef_cat hF.2.2.2.2.2.2.1) r
  exact va_mmin hF.1 hF.2.1 (by rw [hF.2.2.1, hL.1, hn]) hF.2.2.2.1 (hF.2.2.2.2.1 _ hlk) (hF.2.2.2.2.1 _ vw_smin) (hF.2.2.2.2.1 _ vw_math) (hF.2.2.2.2.1 _ vw_cmin) (by omega) (by omega) r3 r4 hd (h p e R s m args below meth c A ad cA D ef cells slots Q hF hE H locs _ hP hS hL hn)
theorem vs_mabs {idx y' n : Nat} {ps : List Nat} (hd : decode (vYc y) pc = .ok (.invokestatic idx, 3)) (hpm : vfind (vPm (vYk y)) idx = some (y', n, 6, ps)) (h : vI1 st (fun a r => bif Nat.ble (vcats r) 8 then vS l G (d + 1) y (pc + 3) ls (.int (if 0 ≤ a then a else 0 - a) :: r) σ post else False)) : vS l G (d + 1) y pc ls st σ post := by
  obtain ⟨a, r, rfl, h⟩ := vI1_e h
  obtain ⟨hr, hh⟩ := vcond h
  clear h
  have h := hh
  have hr := Nat.le_of_ble_eq_true hr
  have hk := vPm_ok hpm
  have hlk : Cond.methodLink (vcn (vYk y)) idx Lib.Math.abs.name ∈ wsL_law := vpos_mem hk _ List.mem_cons_self
  intro p e R s m args below meth c A ad cA D ef cells slots Q hF hE H locs L hP hS hL hn
  obtain ⟨r1, r2, r3, r4⟩ := hF.2.2.2.2.2.2.2.2.2
  have hsum := vcats_sum (ad := ad) (vef_cat hF.2.2.2.2.2.2.1) r
  exact va_mabs hF.1 hF.2.1 (by rw [hF.2.2.1, hL.1, hn]) hF.2.2.2.1 (hF.2.2.2.2.1 _ hlk) (hF.2.2.2.2.1 _ vw_sabs) (hF.2.2.2.2.1 _ vw_math) (hF.2.2.2.2.1 _ vw_cabs) (by omega) (by omega) r3 r4 hd (h p e R s m args below meth c A ad cA D ef cells slots Q hF hE H locs _ hP hS hL hn)
end SC
/-- a method's own contract out of the virtual machine -/
def vws (y : Nat) : List Cond := .code (vYn y) (vYc y) (vYl y) (vYr y) :: wsL_law
def vrm (d : Nat) : Room := { frames := d, cells := 0, slots := 0, locals := 64 * d }
def vA (G : vG) (ad : Nat → Nat) (sz : Nat) : Nat → Prop := fun q => (∃ i, i < vsz G ∧ q = ad i) ∨ sz ≤ q
def vPc (G : vG) (D : va_G) (cA : Nat → ClassId) (ad : Nat → Nat) (ef : Value) (σ : vM) (as : List Value) (sz : Nat) : Array Value → State → Prop := fun v U => v = (as.map (vcv ad ef)).toArray ∧ U.heap.size = sz ∧ va_P D vwCl (vwd G ad cA σ) U.heap ∧ (∀ σ, va_D (vA G ad sz) (vwd G ad cA σ)) ∧ vKt G D cA U ∧ vCn G ad ef (vA G ad sz) U U.heap
def vQc (G : vG) (D : va_G) (cA : Nat → ClassId) (ad : Nat → Nat) (ef : Value) (Mid : vQ) (sz : Nat) : Array Value → State → Outcome → State → Prop := fun _ st oc t => (∃ (v : Option Value) (σ' : vM), oc = .returned (v.map (vcv ad ef)) ∧ Mid v σ' ∧ va_P D vwCl (vwd G ad cA σ') t.heap) ∧ va_F (vA G ad sz) st t
theorem vCn.same {G : vG} {ad : Nat → Nat} {ef : Value} {A : Nat → Prop} {u U : State} {H : Heap} (hv : U.vm = u.vm) (h : vCn G ad ef A u H) : vCn G ad ef A U H := by
  have hW : u.vm.Alike U.vm := by rw [hv]; exact Vm.Alike.refl _
  obtain ⟨h1, h2, h3, h4, h5, h6, h7, h8, h9, h10⟩ := h
  exact ⟨h1.moved hW, h2.same hv, h3.same hv, h4.moved hW, h5.moved hW, h6.moved hW, h7.moved hW, h8.moved hW, h9, fun r t n f hr => ⟨(h10 r t n f hr).1, (h10 r t n f hr).2.moved hW⟩⟩
theorem vPc_blind {G : vG} {D : va_G} {cA : Nat → ClassId} {ad : Nat → Nat} {ef : Value} {σ : vM} {as : List Value} {sz : Nat} : FrameBlind (vPc G D cA ad ef σ as sz) := by
  intro a U g mk q
  obtain ⟨q0, q1, q2, q3, q4, q5⟩ := q
  exact ⟨q0, q1, q2, q3, vKt.moved (u := U) (U := U.calling g mk a) (Vm.Alike.refl U.vm) q4, vCn.same (u := U) (U := U.calling g mk a) rfl q5⟩
theorem vfill_get {α : Type} {n : Nat} {l : vL} {i : Nat} {v : Value} (h : vget (vfill n l) i = some v) : vget l i = some v := by
  induction n generalizing l i with
  | zero => exact h
  | succ n ih =>
    cases l with
    | nil => cases i with
      | zero => cases h
      | succ i => exact absurd (ih (l := []) (i := i) h) (by simp [vget])
    | cons a l => cases i with
      | zero => exact h
      | succ i => exact ih (l := l) (i := i) h
theorem vfill_len {n : Nat} {l : vL} : l.length ≤ (vfill n l).length := by
  induction n generalizing l with
  | zero => exact Nat.le_refl _
  | succ n ih => cases l with
    | nil => exact Nat.zero_le _
    | cons a l => simp [vfill]; exact ih
theorem vnd_e {as : List Value} (h : vnd as = true) : ∀ v ∈ as, (∃ x, v = .long x) ∨ v.category = 1 := by
  intro v hv
  have := List.all_eq_true.mp h v hv
  cases v with
  | long x => exact Or.inl ⟨x, rfl⟩
  | double x => cases this
  | _ => exact Or.inr rfl
theorem vsl_args {ad : Nat → Nat} {ef : Value} (he : ef.category = 1) {as : List Value} (hnd : ∀ v ∈ as, (∃ x, v = .long x) ∨ v.category = 1) {i k : Nat} {v : Value} (h : vget (vsl as) i = some v) : (k + i, vcv ad ef v) ∈ lv_args k (as.map (vcv ad ef)) := by
  induction as generalizing i k with
  | nil => cases h
  | cons a as ih =>
    have ih := fun {i k} => ih (fun v hv => hnd v (List.mem_cons_of_mem _ hv)) (i := i) (k := k)
    rcases hnd a List.mem_cons_self with ⟨x, rfl⟩ | hc
    · match i, h with
      | 0, h => cases h; exact List.mem_cons_self
      | 1, h => cases h
      | i + 2, h =>
        have := ih (i := i) (k := k + 2) h
        rw [List.map_cons]
        show (k + (i + 2), _) ∈ _ :: lv_args (if (2 : Nat) = 2 then k + 2 else k + 1) _
        rw [if_pos rfl]
        refine List.mem_cons_of_mem _ ?_
        rw [show k + (i + 2) = k + 2 + i by omega]
        exact this
    · have hs : vsl (a :: as) = some a :: vsl as := by
        cases a with
        | long x => cases hc
        | _ => rfl
      rw [hs] at h
      match i, h with
      | 0, h => cases h; exact List.mem_cons_self
      | i + 1, h =>
        have := ih (i := i) (k := k + 1) h
        rw [List.map_cons]
        show (k + (i + 1), _) ∈ _ :: lv_args (if (vcv ad ef a).category = 2 then k + 2 else k + 1) _
        rw [if_neg (by rw [vcv_cat he]; omega)]
        refine List.mem_cons_of_mem _ ?_
        rw [show k + (i + 1) = k + 1 + i by omega]
        exact this
theorem vsl_len {ad : Nat → Nat} {ef : Value} (he : ef.category = 1) {as : List Value} (hnd : ∀ v ∈ as, (∃ x, v = .long x) ∨ v.category = 1) : (lg_sl (as.map (vcv ad ef))).length = (vsl as).length := by
  induction as with
  | nil => rfl
  | cons a as ih =>
    have ih := ih (fun v hv => hnd v (List.mem_cons_of_mem _ hv))
    rcases hnd a List.mem_cons_self with ⟨x, rfl⟩ | hc
    · simp only [List.map_cons, lg_sl, List.flatMap_cons, List.length_append, vsl, List.length_cons]
      have : (vcv ad ef (.long x)).category = 2 := rfl
      rw [if_pos this]
      unfold lg_sl at ih
      rw [ih]; simp; omega
    · have hs : vsl (a :: as) = some a :: vsl as := by
        cases a with
        | long x => cases hc
        | _ => rfl
      rw [hs]
      simp only [List.map_cons, lg_sl, List.flatMap_cons, List.length_append, List.length_cons]
      rw [if_neg (by rw [vcv_cat he]; omega)]
      unfold lg_sl at ih
      rw [ih]; simp; omega
theorem vYk_of {y : Nat} (h : y < 221) : vYk y ≤ 14 ∧ vYl y ≤ 40 ∧ vcn (vYk y) = (vYn y).cls := by
  have := List.all_eq_true.mp vYk_ok y (List.mem_range.mpr h)
  simp only [Bool.and_eq_true, decide_eq_true_eq] at this
  exact ⟨Nat.le_of_ble_eq_true this.1.1, Nat.le_of_ble_eq_true this.1.2, this.2⟩
set_option maxHeartbeats 4000000 in
theorem vS_met {l : Launch} {G : vG} {d y : Nat} {as : List Value} {σ : vM} {Mid : vQ} (hy : y < 221) (hpl : plainName (vYn y).cls = true) (hnd : vnd as = true) (hlen : (vfill (vYl y) (vsl as)).length = vYl y) (h : vS l G d y 0 (vfill (vYl y) (vsl as)) [] σ Mid) (D : va_G) (cA : Nat → ClassId) (ad : Nat → Nat) (ef : Value) (sz : Nat) :
    Met l (vYn y) (vws y) (vrm d) (vPc G D cA ad ef σ as sz) (vQc G D cA ad ef Mid sz) 0 0 (vA G ad sz) := by
  refine Met.ofW (cc := vYc y) (maxL := vYl y) (ret := vYr y) hpl rfl ?_
  intro p e s m args below meth c s₁ B hml hv
  obtain ⟨rfl, hsz, hP, hD, hK, hC⟩ := hv
  have hts0 := atoms_spec (ws := vws y) B.pre
  have hts : ∀ w ∈ wsL_law, w.before (as.map (vcv ad ef)).toArray s = true := fun w hw => hts0 w (List.mem_cons_of_mem _ hw)
  have hown : s.vm.findClass (vcn (vYk y)) = some m.cls := by rw [(vYk_of hy).2.2]; exact findClass_of_methodNamed B.named
  subst hsz
  have he := vef_cat hC
  have hnd' := vnd_e hnd
  have hl := lv_entry (as.map (vcv ad ef)) (n := vYl y) (by rw [vsl_len he hnd', ← hlen]; exact vfill_len)
  rw [lg_entry_eq]
  have hr := B.returns
  have hx := B.exec
  have hb := B.bytes
  refine h p e (headSpec (vws y) (vrm d)).room s m _ below meth c (vA G ad s.heap.size) ad cA D ef 0 0 _ ⟨hx, hb, hml, hown, hts, hK, hC, fun q hq => Or.inr hq, hD, ⟨Nat.le_refl _, Nat.le_refl _, Nat.zero_le _, Nat.zero_le _⟩⟩ ?_ s.heap [] _ hP va_S.rf ⟨by rw [hlen]; exact hl.1, hl.2.1, fun i v hv => ?_⟩ hlen
  · intro H locs L pc v σ' i hp hd hrt hP' hS'
    rcases hrt with ⟨rfl, x, ty, rfl, hty, hn⟩ | ⟨rfl, x, rfl, hty⟩ | ⟨rfl, r, rt, rfl, hrv, hty, hrr⟩ | ⟨rfl, rfl, hty⟩
    · exact W.zret (v := x) (ty := ty) hx hb (hr.trans hty) hn (fun t ht hW => ⟨⟨some (.int x), σ', rfl, hp, by rw [ht]; exact hP'⟩, hS'.F ht⟩) hS'.2.2 hd (hlocks := B.notSynchronized)
    · exact W.lret (v := x) hx hb (hr.trans hty) (fun t ht hW => ⟨⟨some (.long x), σ', rfl, hp, by rw [ht]; exact hP'⟩, hS'.F ht⟩) hS'.2.2 hd (hlocks := B.notSynchronized)
    · refine W.aret (v := vcv ad ef r) (rt := rt) hx hb (hr.trans hty) hrr ?_ (fun t ht hW => ⟨⟨some r, σ', rfl, hp, by rw [ht]; exact hP'⟩, hS'.F ht⟩) hS'.2.2 hd (hlocks := B.notSynchronized)
      rcases hrv with rfl | ⟨x, rfl⟩
      · exact Or.inl rfl
      · rw [vcv_r]
        cases Nat.beq x 1008 with
        | false => exact Or.inr ⟨_, rfl⟩
        | true =>
          obtain ⟨-, -, -, -, -, -, -, -, h9, -⟩ := hC
          exact h9
    · exact W.vret hx hb (hr.trans hty) (fun t ht hW => ⟨⟨none, σ', rfl, hp, by rw [ht]; exact hP'⟩, hS'.F ht⟩) hS'.2.2 hd (hlocks := B.notSynchronized)
  · have h1 := vsl_args (ad := ad) he hnd' (k := 0) (vfill_get (α := Value) hv)
    rw [Nat.zero_add] at h1
    exact hl.2.2 _ h1
end
section
set_option maxRecDepth 100000 in
theorem vcode_ok0 : (List.range 221).filterMap (fun y => bif Nat.ble (vYp y) 9998 then some wsL_law[vYp y]? else none) = (List.range 221).filterMap (fun y => bif Nat.ble (vYp y) 9998 then some (some (Cond.code (vYn y) (vYc y) (vYl y) (vYr y))) else none) := rfl
theorem vcode_ok {y : Nat} (hy : y < 221) (hp : vYp y ≤ 9998) : Cond.code (vYn y) (vYc y) (vYl y) (vYr y) ∈ wsL_law := by
  have key : ∀ (n : Nat) (f g : Nat → Option (Option Cond)), (∀ y, (f y).isSome = (g y).isSome) → (List.range n).filterMap f = (List.range n).filterMap g → ∀ y, y < n → f y = g y := by
    intro n f g hfg
    induction n with
    | zero => intro _ y hy; omega
    | succ n ih =>
      intro h y hy
      rw [List.range_succ, List.filterMap_append, List.filterMap_append] at h
      have hl := congrArg List.length h
      have e : f n = g n ∧ (List.range n).filterMap f = (List.range n).filterMap g := by
        have hs := hfg n
        cases hf : f n with
        | none =>
          cases hg : g n with
          | none => simp [hf, hg] at h; exact ⟨rfl, h⟩
          | some b => rw [hf, hg] at hs; cases hs
        | some a =>
          cases hg : g n with
          | none => rw [hf, hg] at hs; cases hs
          | some b =>
            simp only [List.filterMap_cons, hf, hg, List.filterMap_nil] at h
            have h2 := List.append_inj' h rfl
            exact ⟨congrArg some (List.cons.inj h2.2).1, h2.1⟩
      by_cases hyn : y = n
      · subst hyn; exact e.1
      · exact ih e.2 y (by omega)
  have h := key 221 _ _ (fun y => by cases Nat.ble (vYp y) 9998 <;> rfl) vcode_ok0 y hy
  rw [Nat.ble_eq_true_of_le hp] at h
  exact List.mem_of_getElem? (Option.some.inj h)
theorem vpopn_e {n : Nat} {acc st as r : List Value} (h : vpopn n acc st = some (as, r)) : ∃ pre, st = pre ++ r ∧ as = pre.reverse ++ acc ∧ pre.length = n := by
  induction n generalizing acc st with
  | zero => cases h; exact ⟨[], rfl, rfl, rfl⟩
  | succ n ih =>
    cases st with
    | nil => cases h
    | cons v st =>
      obtain ⟨pre, h1, h2, h3⟩ := ih (acc := v :: acc) (st := st) h
      exact ⟨v :: pre, by rw [h1]; rfl, by rw [h2]; simp, by simp [h3]⟩
section SR
variable {l : Launch} {G : vG} {d y pc nx : Nat} {ls : vL} {st : List Value} {σ : vM} {post : vQ}
/-- behind a call -/
theorem vs_back {p : Program} {e : Env} {R : Room} {s : State} {m : MethodId} {args : Array Value} {below : List Frame} {meth : Method} {c : Code} {A : Nat → Prop} {ad : Nat → Nat} {cA : Nat → ClassId} {D : va_G} {ef : Value} {cells slots : Nat} {Q : State → Prop} {H : Heap} {locs : List Loc} {L : Array Slot} {Mid : vQ} {a : Array Value} {stk r : List Value}
    (hF : vCf G p R s m args c A ad cA D ef cells slots (d + 1) y) (hE : vEnd l G p e R s m args below meth c A ad cA D ef cells slots Q y post) (hS : va_S A s.heap H locs) (hL : vlok ad ef L ls) (hn : ls.length = vYl y)
    (hr : va_Run p l e R s m args below meth c H locs cells slots 0 0 (F0 m pc L stk) (r.map (vcv ad ef)) (vQc G D cA ad ef Mid H.size a) (vA G ad H.size)) (hA : ∀ q, vA G ad H.size q → A q)
    (hk : ∀ (v : Option Value) (σ' : vM), Mid v σ' → vS l G (d + 1) y (pc + 3) ls (vpush v r) σ' post) : W p l e R s m args below meth c H locs cells slots Q (F0 m pc L stk) := by
  intro T hT X
  obtain ⟨v, st₀, t, T', L1, h0, X', hL1, e1, e2, ⟨⟨v', σ', hv, hM, hP'⟩, hz, hkp⟩, stp⟩ := hr T hT X
  cases hv
  rw [h0] at hz hkp
  have hS' : va_S A s.heap T'.heap (locs ++ L1) := ⟨Nat.le_trans hS.1 (by rw [e1]; exact hz), fun q h1 h2 => by rw [e1, hkp q (Nat.lt_of_lt_of_le h1 hS.1) (fun z => h2 (hA q z))]; exact hS.2.1 q h1 h2, fun q hq => by
      rcases List.mem_append.mp hq with h | h
      · exact hS.2.2 q h
      · exact hA _ (hL1 q h)⟩
  have hw := hk v' σ' hM p e R s m args below meth c A ad cA D ef cells slots Q hF hE T'.heap (locs ++ L1) L (by rw [e1]; exact hP') hS' hL hn
  have e3 : (vpush v' r).map (vcv ad ef) = (v'.map (vcv ad ef)).toList ++ r.map (vcv ad ef) := by cases v' <;> rfl
  rw [e3] at hw
  obtain ⟨t2, a1, b1⟩ := hw T' rfl X'
  exact ⟨t2, stp t2 a1, b1⟩
theorem vA_in {p : Program} {R : Room} {s : State} {m : MethodId} {args : Array Value} {c : Code} {A : Nat → Prop} {ad : Nat → Nat} {cA : Nat → ClassId} {D : va_G} {ef : Value} {cells slots : Nat} {H : Heap} {locs : List Loc} (hF : vCf G p R s m args c A ad cA D ef cells slots d y) (hS : va_S A s.heap H locs) : ∀ q, vA G ad H.size q → A q := by
  intro q hq
  obtain ⟨-, -, -, -, -, -, -, hA, hD, -⟩ := hF
  rcases hq with ⟨i, hi, rfl⟩ | hq
  · exact (hD (fun _ _ => 0, fun _ _ => 0)).2 i _ (vwd_get hi)
  · exact hA q (Nat.le_trans hS.1 hq)
theorem vA_D {ad : Nat → Nat} {cA : Nat → ClassId} {A : Nat → Prop} {sz : Nat} (h : va_D A (vwd G ad cA σ)) : va_D (vA G ad sz) (vwd G ad cA σ) := by
  refine ⟨h.1, fun k q hk => ?_⟩
  have hl : k < vsz G := by
    rcases Nat.lt_or_ge k (vsz G) with h | h
    · exact h
    · rw [List.getElem?_eq_none (by simp [vwd]; omega)] at hk; cases hk
  rw [vwd_get hl] at hk
  cases hk
  exact Or.inl ⟨k, hl, rfl⟩
theorem vPc_at {p : Program} {R : Room} {s : State} {m : MethodId} {args : Array Value} {c : Code} {A : Nat → Prop} {ad : Nat → Nat} {cA : Nat → ClassId} {D : va_G} {ef : Value} {cells slots : Nat} {H : Heap} {locs : List Loc} {as : List Value} (hF : vCf G p R s m args c A ad cA D ef cells slots d y) (hS : va_S A s.heap H locs) (hP : va_P D vwCl (vwd G ad cA σ) H) (U : State) (hU : U.heap = H) (hW : s.WarmedH U.vm) : vPc G D cA ad ef σ as H.size (as.map (vcv ad ef)).toArray U := by
  have hA := vA_in hF hS
  exact ⟨rfl, by rw [hU], by rw [hU]; exact hP, fun σ => vA_D (hF.2.2.2.2.2.2.2.2.1 σ), hF.2.2.2.2.2.1.moved hW.alike, hF.2.2.2.2.2.2.1.next hW hS.2.1 hU hA⟩
theorem vrecv_ok {p : Program} {R : Room} {s : State} {m : MethodId} {args : Array Value} {c : Code} {A : Nat → Prop} {ad : Nat → Nat} {cA : Nat → ClassId} {D : va_G} {ef : Value} {cells slots : Nat} {H : Heap} {locs : List Loc} {a k : Nat} (hF : vCf G p R s m args c A ad cA D ef cells slots d y) (hS : va_S A s.heap H locs) (hP : va_P D vwCl (vwd G ad cA σ) H) (hr : vrecv G a k = true) : vcv ad ef (.ref a) = .ref (ad a) ∧ ∃ cell : Cell, H[ad a]? = some cell ∧ cell.vm.isStatics = false ∧ s.vm.findClass (vcn k) = some cell.cls := by
  unfold vrecv at hr
  split at hr
  next q hl =>
    have hr := Nat.eq_of_beq_eq_true hr
    obtain ⟨ci, fs⟩ := q
    dsimp only at hr
    subst hr
    refine ⟨vcv_cell hl, ?_⟩
    exact va_recv (cl := vwCl) (tys := []) hF.2.2.2.2.2.1.1 hP (vcl_at (vlay_obj hl).1) (by rw [vwd_get (vlay_some hl).1, vcell_obj hl])
  next =>
    simp only [Bool.and_eq_true, Bool.or_eq_true] at hr
    have hk := Nat.eq_of_beq_eq_true hr.1
    subst hk
    obtain ⟨h1, -⟩ := hF.2.2.2.2.2.2.1
    rcases hr.2 with ha | ha
    · have ha := Nat.eq_of_beq_eq_true ha
      subst ha
      exact ⟨vcv_ref (by decide), vk_recv h1 (i := 0) (by decide) hS⟩
    · have ha := Nat.eq_of_beq_eq_true ha
      subst ha
      exact ⟨vcv_ref (by decide), vk_recv h1 (i := 1) (by decide) hS⟩
theorem vws_good {y' : Nat} (hy : y' < 221) (hp : vYp y' ≤ 9998) : GoodIn wsL_law (vws y') := by
  intro w hw
  rcases List.mem_cons.mp hw with rfl | hw
  · exact ⟨vcode_ok hy hp, Or.inl rfl⟩
  · exact ⟨hw, (wsL_law_good w hw).2⟩
set_option maxHeartbeats 4000000 in
theorem vs_static {idx y' n : Nat} {ps : List Nat} {as r : List Value} (hd : decode (vYc y) pc = .ok (.invokestatic idx, 3)) (hpm : vfind (vPm (vYk y)) idx = some (y', n, 0, ps)) (hpop : vpopn n [] st = some (as, r)) (hnd : vnd as = true) (hr : vcats r ≤ 8) (hlen : (vfill (vYl y') (vsl as)).length = vYl y') (h : ∃ Mid : vQ, vS l G d y' 0 (vfill (vYl y') (vsl as)) [] σ Mid ∧ ∀ (v : Option Value) (σ' : vM), Mid v σ' → vS l G (d + 1) y (pc + 3) ls (vpush v r) σ' post) : vS l G (d + 1) y pc ls st σ post := by
  obtain ⟨Mid, hM, hk⟩ := h
  obtain ⟨pre, rfl, has, hpl⟩ := vpopn_e hpop
  rw [List.append_nil] at has
  have hc := vPm_ok hpm
  simp only [vPmC, Bool.and_eq_true, decide_eq_true_eq] at hc
  obtain ⟨-, hw, hdn, -, hplain, hm1, hm2, hl40, hy, hyp, -⟩ := hc
  have hy : y' < 221 := by have := Nat.le_of_ble_eq_true hy; omega
  have hl40 := Nat.le_of_ble_eq_true hl40
  have hws := vpos_mem hw
  intro p e R s m args below meth c A ad cA D ef cells slots Q hF hE H locs L hP hS hL hn
  obtain ⟨r1, r2, r3, r4⟩ := hF.2.2.2.2.2.2.2.2.2
  have hMet := vS_met hy hplain hnd hlen hM D cA ad ef H.size
  have hgood : GoodIn wsL_law (va_wsS (vcn (vYk y)) idx (vYn y') (vws y')) := by
    intro w hw
    unfold va_wsS at hw
    rcases List.mem_append.mp hw with hw | hw
    · exact ⟨hws w hw, (wsL_law_good w (hws w hw)).2⟩
    · exact vws_good hy (Nat.le_of_ble_eq_true hyp) w hw
  have hcw := va_cwS (R := R) (s := s) (args := args) n hF.2.2.2.2.1 hgood (ws := vws y') rfl (rm := vrm d) (mc := 0) (ms := 0) rfl rfl ⟨hm1, hm2, hdn⟩ ⟨r1, by show 8 + (vYl y' + 11) + 64 * d ≤ R.locals; omega⟩
  have hsum := vcats_sum (ad := ad) (vef_cat hF.2.2.2.2.2.2.1) r
  have hrun := va_runS (As := as.map (vcv ad ef)) (rest := r.map (vcv ad ef)) (g := F0 m pc L ((pre ++ r).map (vcv ad ef))) (p := p) (e := e) (below := below) (meth := meth) (H := H) (locs := locs) (cells := cells) (slots := slots) (nL := vYl y) ⟨hF.1, hF.2.1, hF.2.2.1, hF.2.2.2.1, hF.2.2.2.2.1⟩ hMet hcw ⟨vPc_blind, fun U hU hW => vPc_at hF hS hP U hU hW⟩ rfl (by rw [List.length_map, has, List.length_reverse]; exact hpl) (hL.1.trans hn) (by rw [has, List.map_append, List.map_reverse, List.reverse_reverse]) (by show 2 * 0 + _ ≤ 8; omega) hd ⟨by omega, by omega⟩
  exact vs_back hF hE hS hL hn hrun (vA_in hF hS) hk
set_option maxHeartbeats 4000000 in
theorem vs_virtual {idx y' n a : Nat} {ps : List Nat} {as r : List Value} (hd : decode (vYc y) pc = .ok (.invokevirtual idx, 3)) (hpm : vfind (vPm (vYk y)) idx = some (y', n, 1, ps)) (hpop : vpopn n [] st = some (.ref a :: as, r)) (hrec : vrecv G a (vYk y') = true) (hnd : vnd (.ref a :: as) = true) (hr : vcats r ≤ 8) (hlen : (vfill (vYl y') (vsl (.ref a :: as))).length = vYl y') (h : ∃ Mid : vQ, vS l G d y' 0 (vfill (vYl y') (vsl (.ref a :: as))) [] σ Mid ∧ ∀ (v : Option Value) (σ' : vM), Mid v σ' → vS l G (d + 1) y (pc + 3) ls (vpush v r) σ' post) : vS l G (d + 1) y pc ls st σ post := by
  obtain ⟨Mid, hM, hk⟩ := h
  obtain ⟨pre, rfl, has, hpl⟩ := vpopn_e hpop
  rw [List.append_nil] at has
  have hpre : pre = as.reverse ++ [.ref a] := by
    have := congrArg List.reverse has
    rw [List.reverse_reverse, List.reverse_cons] at this
    exact this.symm
  subst hpre
  have hc := vPm_ok hpm
  simp only [vPmC, Bool.and_eq_true, decide_eq_true_eq] at hc
  obtain ⟨-, hw, hdn, -, hplain, hm1, hm2, hl40, hy, hyp, hcn⟩ := hc
  have hy : y' < 221 := by have := Nat.le_of_ble_eq_true hy; omega
  have hl40 := Nat.le_of_ble_eq_true hl40
  have hws := vpos_mem hw
  intro p e R s m args below meth c A ad cA D ef cells slots Q hF hE H locs L hP hS hL hn
  obtain ⟨r1, r2, r3, r4⟩ := hF.2.2.2.2.2.2.2.2.2
  obtain ⟨hra, hrc⟩ := vrecv_ok hF hS hP hrec
  have hMet := vS_met hy hplain hnd hlen hM D cA ad ef H.size
  have hgood : GoodIn wsL_law (wsV (vcn (vYk y)) idx (vYn y').cls (vYn y') (vws y')) := by
    intro w hw
    unfold wsV at hw
    rcases List.mem_append.mp hw with hw | hw
    · exact ⟨hws w hw, (wsL_law_good w (hws w hw)).2⟩
    · exact vws_good hy (Nat.le_of_ble_eq_true hyp) w hw
  have hcw := cwV (R := R) (s := s) (args := args) (n - 1) hF.2.2.2.2.1 hgood (ws := vws y') rfl (rm := vrm d) (mc := 0) (ms := 0) rfl rfl ⟨rfl, hm1, hm2, hdn⟩ ⟨r1, by show 8 + (vYl y' + 11) + 64 * d ≤ R.locals; omega⟩
  have hsum := vcats_sum (ad := ad) (vef_cat hF.2.2.2.2.2.2.1) r
  have hPC : ∀ U : State, U.heap = H → s.WarmedH U.vm → vPc G D cA ad ef σ (.ref a :: as) H.size (Value.ref (ad a) :: as.map (vcv ad ef)).toArray U := by
    intro U hU hW
    have := vPc_at (as := .ref a :: as) hF hS hP U hU hW
    rw [List.map_cons, hra] at this
    exact this
  rw [hcn] at hrc
  have hrun := va_runV (As := as.map (vcv ad ef)) (rest := r.map (vcv ad ef)) (b := ad a) (g := F0 m pc L ((as.reverse ++ [Value.ref a] ++ r).map (vcv ad ef))) (p := p) (e := e) (below := below) (meth := meth) (H := H) (locs := locs) (cells := cells) (slots := slots) (nL := vYl y) ⟨hF.1, hF.2.1, hF.2.2.1, hF.2.2.2.1, hF.2.2.2.2.1⟩ hMet hcw ⟨vPc_blind, hrc, hPC⟩ rfl (by rw [List.length_map]; simp at hpl; omega) (hL.1.trans hn) (by simp [hra]) (by show 2 * 0 + _ ≤ 8; omega) hd ⟨by omega, by omega⟩
  exact vs_back hF hE hS hL hn hrun (vA_in hF hS) hk
end SR
end
section
theorem vand {a b : Bool} (h : (a && b) = true) : a = true ∧ b = true := by simpa using h
theorem vlen_e {y pc nx k : Nat} {i : Instr} (h : Nat.beq nx (pc + k) = true) (hd : decode (vYc y) pc = .ok (i, nx - pc)) : nx = pc + k ∧ decode (vYc y) pc = .ok (i, k) := by
  have h := Nat.eq_of_beq_eq_true h
  subst h
  rw [Nat.add_sub_cancel_left] at hd
  exact ⟨rfl, hd⟩
theorem vref_e {G : vG} {as : List Value} {k : Nat} (h : (match as with | .ref a :: _ => vrecv G a k | _ => false) = true) : ∃ a as', as = .ref a :: as' ∧ vrecv G a k = true := by
  split at h
  · exact ⟨_, _, rfl, h⟩
  · cases h
section SS
variable {l : Launch} {G : vG} {d y pc nx : Nat} {ls : vL} {st : List Value} {σ : vM} {post : vQ}
theorem vs_invokestatic {idx : Nat} (hd : decode (vYc y) pc = .ok (.invokestatic idx, 3)) (h : vcall G (vS l G) d y (pc + 3) (vYk y) idx 0 ls st σ post) : vS l G d y pc ls st σ post := by
  cases d with
  | zero => cases h
  | succ d =>
    unfold vcall at h
    dsimp only at h
    split at h
    next y' n kd' ps hpm =>
      split at h
      next => exact vs_acopy hd hpm (vcond h).2
      next => exact vs_mmax hd hpm (vcond h).2
      next => exact vs_mmin hd hpm (vcond h).2
      next => exact vs_mabs hd hpm (vcond h).2
      next =>
        obtain ⟨hk, hh⟩ := vcond h
        clear h
        have hk := Nat.eq_of_beq_eq_true hk
        subst hk
        split at hh
        next as r hp =>
          obtain ⟨hc, hm⟩ := vcond hh
          simp only [Bool.and_eq_true] at hc
          exact vs_static hd hpm hp hc.1 (Nat.le_of_ble_eq_true hc.2.1) (Nat.eq_of_beq_eq_true hc.2.2.1) hm
        next => cases hh
    next => cases h
theorem vs_invokevirtual {idx : Nat} (hd : decode (vYc y) pc = .ok (.invokevirtual idx, 3)) (h : vcall G (vS l G) d y (pc + 3) (vYk y) idx 1 ls st σ post) : vS l G d y pc ls st σ post := by
  cases d with
  | zero => cases h
  | succ d =>
    unfold vcall at h
    dsimp only at h
    split at h
    next y' n kd' ps hpm =>
      split at h
      next => exact absurd (vcond h).1 (by decide)
      next => exact absurd (vcond h).1 (by decide)
      next => exact absurd (vcond h).1 (by decide)
      next => exact absurd (vcond h).1 (by decide)
      next =>
        obtain ⟨hk, hh⟩ := vcond h
        clear h
        have hk := Nat.eq_of_beq_eq_true hk
        subst hk
        split at hh
        next as r hp =>
          obtain ⟨hc, hm⟩ := vcond hh
          simp only [Bool.and_eq_true] at hc
          obtain ⟨a, as', rfl, h3⟩ := vref_e (G := G) (k := vYk y') hc.2.2.2
          exact vs_virtual hd hpm hp h3 hc.1 (Nat.le_of_ble_eq_true hc.2.1) (Nat.eq_of_beq_eq_true hc.2.2.1) hm
        next => cases hh
    next => cases h
end SS
set_option maxHeartbeats 4000000 in
theorem vS_step (l : Launch) (G : vG) : vle (vF G (vS l G)) (vS l G) := by
  intro d y pc ls st σ post h
  unfold vF at h
  split at h
  next i nx tg im hf =>
    obtain ⟨hd, hk⟩ := vtb_ok hf
    cases i with
    | aconst_null =>
      obtain ⟨rfl, hd'⟩ := vlen_e (k := 1) hk hd
      exact vs_aconst_null hd' h
    | iadd =>
      obtain ⟨rfl, hd'⟩ := vlen_e (k := 1) hk hd
      exact vs_iadd hd' h
    | isub =>
      obtain ⟨rfl, hd'⟩ := vlen_e (k := 1) hk hd
      exact vs_isub hd' h
    | imul =>
      obtain ⟨rfl, hd'⟩ := vlen_e (k := 1) hk hd
      exact vs_imul hd' h
    | idiv =>
      obtain ⟨rfl, hd'⟩ := vlen_e (k := 1) hk hd
      exact vs_idiv hd' h
    | irem =>
      obtain ⟨rfl, hd'⟩ := vlen_e (k := 1) hk hd
      exact vs_irem hd' h
    | ineg =>
      obtain ⟨rfl, hd'⟩ := vlen_e (k := 1) hk hd
      exact vs_ineg hd' h
    | iand =>
      obtain ⟨rfl, hd'⟩ := vlen_e (k := 1) hk hd
      exact vs_iand hd' h
    | ior =>
      obtain ⟨rfl, hd'⟩ := vlen_e (k := 1) hk hd
      exact vs_ior hd' h
    | ixor =>
      obtain ⟨rfl, hd'⟩ := vlen_e (k := 1) hk hd
      exact vs_ixor hd' h
    | ishl =>
      obtain ⟨rfl, hd'⟩ := vlen_e (k := 1) hk hd
      exact vs_ishl hd' h
    | ishr =>
      obtain ⟨rfl, hd'⟩ := vlen_e (k := 1) hk hd
      exact vs_ishr hd' h
    | iushr =>
      obtain ⟨rfl, hd'⟩ := vlen_e (k := 1) hk hd
      exact vs_iushr hd' h
    | i2l =>
      obtain ⟨rfl, hd'⟩ := vlen_e (k := 1) hk hd
      exact vs_i2l hd' h
    | i2b =>
      obtain ⟨rfl, hd'⟩ := vlen_e (k := 1) hk hd
      exact vs_i2b hd' h
    | i2s =>
      obtain ⟨rfl, hd'⟩ := vlen_e (k := 1) hk hd
      exact vs_i2s hd' h
    | i2c =>
      obtain ⟨rfl, hd'⟩ := vlen_e (k := 1) hk hd
      exact vs_i2c hd' h
    | l2i =>
      obtain ⟨rfl, hd'⟩ := vlen_e (k := 1) hk hd
      exact vs_l2i hd' h
    | ladd =>
      obtain ⟨rfl, hd'⟩ := vlen_e (k := 1) hk hd
      exact vs_ladd hd' h
    | lsub =>
      obtain ⟨rfl, hd'⟩ := vlen_e (k := 1) hk hd
      exact vs_lsub hd' h
    | lmul =>
      obtain ⟨rfl, hd'⟩ := vlen_e (k := 1) hk hd
      exact vs_lmul hd' h
    | ldiv =>
      obtain ⟨rfl, hd'⟩ := vlen_e (k := 1) hk hd
      exact vs_ldiv hd' h
    | lrem =>
      obtain ⟨rfl, hd'⟩ := vlen_e (k := 1) hk hd
      exact vs_lrem hd' h
    | lcmp =>
      obtain ⟨rfl, hd'⟩ := vlen_e (k := 1) hk hd
      exact vs_lcmp hd' h
    | dup =>
      obtain ⟨rfl, hd'⟩ := vlen_e (k := 1) hk hd
      exact vs_dup hd' h
    | dup2 =>
      obtain ⟨rfl, hd'⟩ := vlen_e (k := 1) hk hd
      exact vs_dup2 hd' h
    | pop =>
      obtain ⟨rfl, hd'⟩ := vlen_e (k := 1) hk hd
      exact vs_pop hd' h
    | iaload =>
      obtain ⟨rfl, hd'⟩ := vlen_e (k := 1) hk hd
      exact vs_iaload hd' h
    | baload =>
      obtain ⟨rfl, hd'⟩ := vlen_e (k := 1) hk hd
      exact vs_baload hd' h
    | aaload =>
      obtain ⟨rfl, hd'⟩ := vlen_e (k := 1) hk hd
      exact vs_aaload hd' h
    | iastore =>
      obtain ⟨rfl, hd'⟩ := vlen_e (k := 1) hk hd
      exact vs_iastore hd' h
    | bastore =>
      obtain ⟨rfl, hd'⟩ := vlen_e (k := 1) hk hd
      exact vs_bastore hd' h
    | arraylength =>
      obtain ⟨rfl, hd'⟩ := vlen_e (k := 1) hk hd
      exact vs_arraylength hd' h
    | ireturn =>
      obtain ⟨rfl, hd'⟩ := vlen_e (k := 1) hk hd
      exact vs_ireturn hd' h
    | lreturn =>
      obtain ⟨rfl, hd'⟩ := vlen_e (k := 1) hk hd
      exact vs_lreturn hd' h
    | areturn =>
      obtain ⟨rfl, hd'⟩ := vlen_e (k := 1) hk hd
      exact vs_areturn hd' h
    | return_ =>
      obtain ⟨rfl, hd'⟩ := vlen_e (k := 1) hk hd
      exact vs_return hd' h
    | lconst n =>
      obtain ⟨rfl, hd'⟩ := vlen_e (k := 1) hk hd
      exact vs_lconst hd' h
    | iload_n n =>
      obtain ⟨rfl, hd'⟩ := vlen_e (k := 1) hk hd
      exact vs_iload_n hd' h
    | lload_n n =>
      obtain ⟨rfl, hd'⟩ := vlen_e (k := 1) hk hd
      exact vs_lload_n hd' h
    | aload_n n =>
      obtain ⟨rfl, hd'⟩ := vlen_e (k := 1) hk hd
      exact vs_aload_n hd' h
    | istore_n n =>
      obtain ⟨rfl, hd'⟩ := vlen_e (k := 1) hk hd
      exact vs_istore_n hd' h
    | astore_n n =>
      obtain ⟨rfl, hd'⟩ := vlen_e (k := 1) hk hd
      exact vs_astore_n hd' h
    | iload n =>
      obtain ⟨rfl, hd'⟩ := vlen_e (k := 2) hk hd
      exact vs_iload hd' h
    | lload n =>
      obtain ⟨rfl, hd'⟩ := vlen_e (k := 2) hk hd
      exact vs_lload hd' h
    | aload n =>
      obtain ⟨rfl, hd'⟩ := vlen_e (k := 2) hk hd
      exact vs_aload hd' h
    | istore n =>
      obtain ⟨rfl, hd'⟩ := vlen_e (k := 2) hk hd
      exact vs_istore hd' h
    | lstore n =>
      obtain ⟨rfl, hd'⟩ := vlen_e (k := 2) hk hd
      exact vs_lstore hd' h
    | astore n =>
      obtain ⟨rfl, hd'⟩ := vlen_e (k := 2) hk hd
      exact vs_astore hd' h
    | ldc n =>
      obtain ⟨rfl, hd'⟩ := vlen_e (k := 2) hk hd
      exact vs_ldc hd' h
    | getfield n =>
      obtain ⟨rfl, hd'⟩ := vlen_e (k := 3) hk hd
      exact vs_getfield hd' h
    | putfield n =>
      obtain ⟨rfl, hd'⟩ := vlen_e (k := 3) hk hd
      exact vs_putfield hd' h
    | getstatic n =>
      obtain ⟨rfl, hd'⟩ := vlen_e (k := 3) hk hd
      exact vs_getstatic hd' h
    | invokestatic n =>
      obtain ⟨rfl, hd'⟩ := vlen_e (k := 3) hk hd
      exact vs_invokestatic hd' h
    | invokevirtual n =>
      obtain ⟨rfl, hd'⟩ := vlen_e (k := 3) hk hd
      exact vs_invokevirtual hd' h
    | ldc_w n =>
      obtain ⟨rfl, hd'⟩ := vlen_e (k := 3) hk hd
      exact vs_ldc_w hd' h
    | ldc2_w n =>
      obtain ⟨rfl, hd'⟩ := vlen_e (k := 3) hk hd
      exact vs_ldc2_w hd' h
    | iconst n =>
      obtain ⟨h1, h2⟩ := vand hk
      obtain ⟨rfl, hd'⟩ := vlen_e (k := 1) h1 hd
      exact vs_iconst hd' (of_decide_eq_true h2) h
    | bipush n =>
      obtain ⟨h1, h2⟩ := vand hk
      obtain ⟨rfl, hd'⟩ := vlen_e (k := 2) h1 hd
      exact vs_bipush hd' (of_decide_eq_true h2) h
    | sipush n =>
      obtain ⟨h1, h2⟩ := vand hk
      obtain ⟨rfl, hd'⟩ := vlen_e (k := 3) h1 hd
      exact vs_sipush hd' (of_decide_eq_true h2) h
    | iinc k n =>
      obtain ⟨h1, h2⟩ := vand hk
      obtain ⟨rfl, hd'⟩ := vlen_e (k := 3) h1 hd
      exact vs_iinc hd' (of_decide_eq_true h2) h
    | goto o =>
      obtain ⟨h1, h2⟩ := vand hk
      obtain ⟨rfl, hd'⟩ := vlen_e (k := 3) h1 hd
      exact vs_goto hd' (of_decide_eq_true h2) h
    | ifnull o =>
      obtain ⟨h1, h2⟩ := vand hk
      obtain ⟨rfl, hd'⟩ := vlen_e (k := 3) h1 hd
      exact vs_ifnull hd' (of_decide_eq_true h2) h
    | ifCond c o =>
      obtain ⟨h1, h2⟩ := vand hk
      obtain ⟨rfl, hd'⟩ := vlen_e (k := 3) h1 hd
      cases c with
      | eq => exact vs_if_eq hd' (of_decide_eq_true h2) h
      | ne => exact vs_if_ne hd' (of_decide_eq_true h2) h
      | lt => exact vs_if_lt hd' (of_decide_eq_true h2) h
      | ge => exact vs_if_ge hd' (of_decide_eq_true h2) h
      | gt => exact vs_if_gt hd' (of_decide_eq_true h2) h
      | le => exact vs_if_le hd' (of_decide_eq_true h2) h
    | if_icmp c o =>
      obtain ⟨h1, h2⟩ := vand hk
      obtain ⟨rfl, hd'⟩ := vlen_e (k := 3) h1 hd
      cases c with
      | eq => exact vs_icmp_eq hd' (of_decide_eq_true h2) h
      | ne => exact vs_icmp_ne hd' (of_decide_eq_true h2) h
      | lt => exact vs_icmp_lt hd' (of_decide_eq_true h2) h
      | ge => exact vs_icmp_ge hd' (of_decide_eq_true h2) h
      | gt => exact vs_icmp_gt hd' (of_decide_eq_true h2) h
      | le => exact vs_icmp_le hd' (of_decide_eq_true h2) h
    | tableswitch a b c o => exact vs_tableswitch hd hk h
    | lookupswitch a o => exact vs_lookupswitch hd hk h
    | _ => exact False.elim h
  next => cases h
theorem VM_sound {l : Launch} {G : vG} {d y pc : Nat} {ls : vL} {st : List Value} {σ : vM} {post : vQ} (h : VM G d y pc ls st σ post) : vS l G d y pc ls st σ post := h (vS l G) (vS_step l G)
/-! monotone: so VM is a fixpoint, and several steps may be taken at once -/
theorem vbif_m {b : Bool} {p q : Prop} (hpq : p → q) (h : bif b then p else False) : bif b then q else False := by
  cases b
  · cases h
  · exact hpq h
theorem vI1_m {st : List Value} {k k' : Int32 → List Value → Prop} (hk : ∀ a r, k a r → k' a r) (h : vI1 st k) : vI1 st k' := by
  unfold vI1 at *
  split at h
  · exact hk _ _ h
  · cases h
theorem vI2_m {st : List Value} {k k' : Int32 → Int32 → List Value → Prop} (hk : ∀ a b r, k a b r → k' a b r) (h : vI2 st k) : vI2 st k' := by
  unfold vI2 at *
  split at h
  · exact hk _ _ _ h
  · cases h
theorem vL2_m {st : List Value} {k k' : Int64 → Int64 → List Value → Prop} (hk : ∀ a b r, k a b r → k' a b r) (h : vL2 st k) : vL2 st k' := by
  unfold vL2 at *
  split at h
  · exact hk _ _ _ h
  · cases h
theorem vldI_m {ls : vL} {i : Nat} {k k' : Value → Prop} (hk : ∀ v, k v → k' v) (h : vldI ls i k) : vldI ls i k' := by
  unfold vldI at *
  split at h
  · exact hk _ h
  · cases h
theorem vldL_m {ls : vL} {i : Nat} {k k' : Value → Prop} (hk : ∀ v, k v → k' v) (h : vldL ls i k) : vldL ls i k' := by
  unfold vldL at *
  split at h
  · exact hk _ h
  · cases h
theorem vldA_m {ls : vL} {i : Nat} {k k' : Value → Prop} (hk : ∀ v, k v → k' v) (h : vldA ls i k) : vldA ls i k' := by
  unfold vldA at *
  split at h
  · exact hk _ h
  · exact hk _ h
  · cases h
theorem vstI_m {ls : vL} {st : List Value} {i : Nat} {k k' : vL → List Value → Prop} (hk : ∀ a r, k a r → k' a r) (h : vstI ls st i k) : vstI ls st i k' := by
  unfold vstI at *
  split at h
  · exact vbif_m (hk _ _) h
  · cases h
theorem vstL_m {ls : vL} {st : List Value} {i : Nat} {k k' : vL → List Value → Prop} (hk : ∀ a r, k a r → k' a r) (h : vstL ls st i k) : vstL ls st i k' := by
  unfold vstL at *
  split at h
  · exact vbif_m (hk _ _) h
  · cases h
theorem vstA_m {ls : vL} {st : List Value} {i : Nat} {k k' : vL → List Value → Prop} (hk : ∀ a r, k a r → k' a r) (h : vstA ls st i k) : vstA ls st i k' := by
  unfold vstA at *
  split at h
  · exact vbif_m (hk _ _) h
  · exact vbif_m (hk _ _) h
  · cases h
theorem vex_m {i : Int32} {n : Nat} {p q : Nat → Prop} (hpq : ∀ j, p j → q j) (h : ∃ j : Nat, i = nI j ∧ j < n ∧ p j) : ∃ j : Nat, i = nI j ∧ j < n ∧ q j := by
  obtain ⟨j, h1, h2, h3⟩ := h
  exact ⟨j, h1, h2, hpq j h3⟩
theorem vald_m {G : vG} {σ : vM} {kd : Nat} {st : List Value} {k k' : Value → List Value → Prop} (hk : ∀ v r, k v r → k' v r) (h : vald G σ kd st k) : vald G σ kd st k' := by
  unfold vald at *
  split at h
  next i a r =>
    try dsimp only
    split at h
    next t n es hl =>
      cases hb : Nat.beq kd 2 with
      | true => rw [hb] at h; exact vbif_m (vex_m (fun j => hk _ _)) h
      | false => rw [hb] at h; exact vbif_m (vex_m (fun j => hk _ _)) h
    next => cases h
    next hl =>
      split at h
      next t n f hc => exact vbif_m (vex_m (fun j => hk _ _)) h
      next => cases h
  next => cases h
theorem vast_m {G : vG} {σ : vM} {kd : Nat} {st : List Value} {k k' : vM → List Value → Prop} (hk : ∀ v r, k v r → k' v r) (h : vast G σ kd st k) : vast G σ kd st k' := by
  unfold vast at *
  split at h
  next x i a r =>
    try dsimp only
    split at h
    next t n es hl => exact vbif_m (fun hh => ⟨hh.1, vex_m (fun j => hk _ _) hh.2⟩) h
    next => cases h
  next => cases h
theorem valen_m {G : vG} {st : List Value} {k k' : Int32 → List Value → Prop} (hk : ∀ v r, k v r → k' v r) (h : valen G st k) : valen G st k' := by
  unfold valen at *
  split at h
  next a r =>
    try dsimp only
    split at h
    next t n es hl => exact hk _ _ h
    next => cases h
    next =>
      split at h
      next => exact hk _ _ h
      next => cases h
  next => cases h
theorem vgetf_m {G : vG} {σ : vM} {c idx : Nat} {st : List Value} {k k' : Value → List Value → Prop} (hk : ∀ v r, k v r → k' v r) (h : vgetf G σ c idx st k) : vgetf G σ c idx st k' := by
  unfold vgetf at *
  split at h
  next a r =>
    try dsimp only
    split at h
    next ci fs hl =>
      split at h
      next ci' f q hf =>
        refine vbif_m (fun h => ?_) h
        split at h
        · exact hk _ _ h
        · exact hk _ _ h
        · exact hk _ _ h
        · obtain ⟨t, h1, h2, h3⟩ := h
          exact ⟨t, h1, h2, hk _ _ h3⟩
        · exact hk _ _ h
        · cases h
      next => cases h
    next => cases h
    next =>
      split at h
      next => exact vbif_m (hk _ _) h
      next => exact vbif_m (hk _ _) h
      next => cases h
  next => cases h
theorem vputf_m {G : vG} {σ : vM} {c idx : Nat} {st : List Value} {k k' : vM → List Value → Prop} (hk : ∀ v r, k v r → k' v r) (h : vputf G σ c idx st k) : vputf G σ c idx st k' := by
  unfold vputf at *
  split at h
  next v a r =>
    try dsimp only
    split at h
    next ci fs hl =>
      split at h
      next ci' f q hf =>
        refine vbif_m (fun h => ?_) h
        split at h
        · split at h
          · exact hk _ _ h
          · cases h
        · split at h
          · exact hk _ _ h
          · cases h
        · split at h
          · exact vbif_m (hk _ _) h
          · cases h
        · split at h
          · exact ⟨h.1, hk _ _ h.2⟩
          · cases h
        · cases h
      next => cases h
    next => cases h
  next => cases h
theorem vacopy_m {G : vG} {σ : vM} {st : List Value} {k k' : vM → List Value → Prop} (hk : ∀ v r, k v r → k' v r) (h : vacopy G σ st k) : vacopy G σ st k' := by
  unfold vacopy at *
  split at h
  next =>
    try dsimp only
    split at h
    next =>
      split at h
      next =>
        refine vbif_m (fun h => ?_) h
        obtain ⟨a, b, c, h1, h2, h3, h4, h5, h6⟩ := h
        exact ⟨a, b, c, h1, h2, h3, h4, h5, hk _ _ h6⟩
      next => cases h
    next => cases h
  next => cases h
theorem vsw_m {P P' : Nat → Prop} (hP : ∀ t, P t → P' t) {x : Int32} {df : Nat} {l : List (Int32 × Nat)} (h : vswF P x df l) : vswF P' x df l := by
  induction l with
  | nil => exact hP _ h
  | cons q l ih => exact ⟨fun e => hP _ (h.1 e), fun e => ih (h.2 e)⟩
theorem vcall_m {G : vG} {P P' : vP} (hP : vle P P') {d y nx c idx kd : Nat} {ls : vL} {st : List Value} {σ : vM} {post : vQ} (h : vcall G P d y nx c idx kd ls st σ post) : vcall G P' d y nx c idx kd ls st σ post := by
  unfold vcall at *
  split at h
  next => cases h
  next d =>
    try dsimp only
    split at h
    next y' n kd' ps hpm =>
      split at h
      next => exact vbif_m (vacopy_m (fun _ _ => hP _ _ _ _ _ _ _)) h
      next => exact vbif_m (vI2_m (fun _ _ _ => vbif_m (hP _ _ _ _ _ _ _))) h
      next => exact vbif_m (vI2_m (fun _ _ _ => vbif_m (hP _ _ _ _ _ _ _))) h
      next => exact vbif_m (vI1_m (fun _ _ => vbif_m (hP _ _ _ _ _ _ _))) h
      next h3 h4 h5 h6 =>
        refine vbif_m (fun h => ?_) h
        split at h
        next as r hp =>
          refine vbif_m (fun h => ?_) h
          obtain ⟨Mid, h1, h2⟩ := h
          exact ⟨Mid, hP _ _ _ _ _ _ _ h1, fun v σ' hm => hP _ _ _ _ _ _ _ (h2 v σ' hm)⟩
        next => cases h
    next => cases h
set_option maxHeartbeats 4000000 in
theorem vF_m (G : vG) {P P' : vP} (hP : vle P P') : vle (vF G P) (vF G P') := by
  intro d y pc ls st σ post h
  unfold vF at *
  split at h
  next i nx tg im hf =>
    have hp := fun {y pc ls st σ} => hP d y pc ls st σ post
    try dsimp only
    cases i with
    | ifCond c o => cases c <;> exact vI1_m (fun _ _ hh => ⟨fun e => hp (hh.1 e), fun e => hp (hh.2 e)⟩) h
    | if_icmp c o => cases c <;> exact vI2_m (fun _ _ _ hh => ⟨fun e => hp (hh.1 e), fun e => hp (hh.2 e)⟩) h
    | invokestatic k => exact vcall_m hP h
    | invokevirtual k => exact vcall_m hP h
    | iinc k n =>
      unfold vX at *
      dsimp only at *
      split at h
      · exact vbif_m hp h
      · cases h
    | l2i =>
      unfold vX at *
      dsimp only at *
      split at h
      · exact hp h
      · cases h
    | dup =>
      unfold vX at *
      dsimp only at *
      split at h
      · exact vbif_m hp h
      · cases h
    | dup2 =>
      unfold vX at *
      dsimp only at *
      split at h
      · exact vbif_m hp h
      · cases h
    | pop =>
      unfold vX at *
      dsimp only at *
      split at h
      · exact vbif_m hp h
      · cases h
    | ifnull o =>
      unfold vX at *
      dsimp only at *
      split at h
      · exact hp h
      · exact vbif_m hp h
      · cases h
    | tableswitch a b c o =>
      refine vI1_m (fun _ _ hh => ?_) h
      split at hh
      · exact vsw_m (fun _ => hp) hh
      · cases hh
    | lookupswitch a o =>
      refine vI1_m (fun _ _ hh => ?_) h
      split at hh
      · exact vsw_m (fun _ => hp) hh
      · cases hh
    | getstatic k =>
      unfold vX at *
      dsimp only at *
      split at h
      · exact hp h
      · cases h
    | ldc_w k =>
      unfold vX at *
      dsimp only at *
      split at h
      · exact hp h
      · cases h
    | ldc k =>
      unfold vX vldc at *
      dsimp only at *
      split at h
      · exact hp h
      · cases hb : (Nat.beq (vYk y) 6 && Nat.beq k 60) with
        | false => rw [hb] at h; exact vbif_m hp h
        | true => rw [hb] at h; exact hp h
    | ldc2_w k =>
      unfold vX vldc2 at *
      dsimp only at *
      split at h
      · exact hp h
      · cases h
    | idiv => exact vI2_m (fun _ _ _ hh => ⟨hh.1, hp hh.2⟩) h
    | irem => exact vI2_m (fun _ _ _ hh => ⟨hh.1, hp hh.2⟩) h
    | ldiv => exact vL2_m (fun _ _ _ hh => ⟨hh.1, hp hh.2⟩) h
    | lrem => exact vL2_m (fun _ _ _ hh => ⟨hh.1, hp hh.2⟩) h
    | ireturn => exact h
    | lreturn => exact h
    | areturn => exact h
    | return_ => exact h
    | iload k => exact vldI_m (k := fun v => P d y nx ls (v :: st) σ post) (fun v hh => hp hh) h
    | iload_n k => exact vldI_m (k := fun v => P d y nx ls (v :: st) σ post) (fun v hh => hp hh) h
    | lload k => exact vldL_m (k := fun v => P d y nx ls (v :: st) σ post) (fun v hh => hp hh) h
    | lload_n k => exact vldL_m (k := fun v => P d y nx ls (v :: st) σ post) (fun v hh => hp hh) h
    | aload k => exact vldA_m (k := fun v => P d y nx ls (v :: st) σ post) (fun v hh => hp hh) h
    | aload_n k => exact vldA_m (k := fun v => P d y nx ls (v :: st) σ post) (fun v hh => hp hh) h
    | istore k => exact vstI_m (k := fun ls r => P d y nx ls r σ post) (fun ls r hh => hp hh) h
    | istore_n k => exact vstI_m (k := fun ls r => P d y nx ls r σ post) (fun ls r hh => hp hh) h
    | lstore k => exact vstL_m (k := fun ls r => P d y nx ls r σ post) (fun ls r hh => hp hh) h
    | astore k => exact vstA_m (k := fun ls r => P d y nx ls r σ post) (fun ls r hh => hp hh) h
    | astore_n k => exact vstA_m (k := fun ls r => P d y nx ls r σ post) (fun ls r hh => hp hh) h
    | iadd => exact vI2_m (k := fun a b r => P d y nx ls (.int (a + b) :: r) σ post) (fun a b r hh => hp hh) h
    | isub => exact vI2_m (k := fun a b r => P d y nx ls (.int (a - b) :: r) σ post) (fun a b r hh => hp hh) h
    | imul => exact vI2_m (k := fun a b r => P d y nx ls (.int (a * b) :: r) σ post) (fun a b r hh => hp hh) h
    | ineg => exact vI1_m (k := fun a r => P d y nx ls (.int (-a) :: r) σ post) (fun a r hh => hp hh) h
    | iand => exact vI2_m (k := fun a b r => P d y nx ls (.int (a &&& b) :: r) σ post) (fun a b r hh => hp hh) h
    | ior => exact vI2_m (k := fun a b r => P d y nx ls (.int (a ||| b) :: r) σ post) (fun a b r hh => hp hh) h
    | ixor => exact vI2_m (k := fun a b r => P d y nx ls (.int (a ^^^ b) :: r) σ post) (fun a b r hh => hp hh) h
    | ishl => exact vI2_m (k := fun a b r => P d y nx ls (.int (a <<< (b &&& 31)) :: r) σ post) (fun a b r hh => hp hh) h
    | ishr => exact vI2_m (k := fun a b r => P d y nx ls (.int (a >>> (b &&& 31)) :: r) σ post) (fun a b r hh => hp hh) h
    | iushr => exact vI2_m (k := fun a b r => P d y nx ls (.int (a.toUInt32 >>> (b.toUInt32 &&& Int32.toUInt32 31)).toInt32 :: r) σ post) (fun a b r hh => hp hh) h
    | i2l => exact vI1_m (k := fun a r => P d y nx ls (.long a.toInt64 :: r) σ post) (fun a r hh => hp hh) h
    | i2b => exact vI1_m (k := fun a r => P d y nx ls (.int a.toInt8.toInt32 :: r) σ post) (fun a r hh => hp hh) h
    | i2s => exact vI1_m (k := fun a r => P d y nx ls (.int a.toInt16.toInt32 :: r) σ post) (fun a r hh => hp hh) h
    | i2c => exact vI1_m (k := fun a r => P d y nx ls (.int (a.toUInt32 % 65536).toInt32 :: r) σ post) (fun a r hh => hp hh) h
    | ladd => exact vL2_m (k := fun a b r => P d y nx ls (.long (a + b) :: r) σ post) (fun a b r hh => hp hh) h
    | lsub => exact vL2_m (k := fun a b r => P d y nx ls (.long (a - b) :: r) σ post) (fun a b r hh => hp hh) h
    | lmul => exact vL2_m (k := fun a b r => P d y nx ls (.long (a * b) :: r) σ post) (fun a b r hh => hp hh) h
    | lcmp => exact vL2_m (k := fun a b r => P d y nx ls (.int (lg_cmp a b) :: r) σ post) (fun a b r hh => hp hh) h
    | iaload => exact vald_m (k := fun v r => P d y nx ls (v :: r) σ post) (fun v r hh => hp hh) h
    | baload => exact vald_m (k := fun v r => P d y nx ls (v :: r) σ post) (fun v r hh => hp hh) h
    | aaload => exact vald_m (k := fun v r => P d y nx ls (v :: r) σ post) (fun v r hh => hp hh) h
    | iastore => exact vast_m (k := fun σ r => P d y nx ls r σ post) (fun σ r hh => hp hh) h
    | bastore => exact vast_m (k := fun σ r => P d y nx ls r σ post) (fun σ r hh => hp hh) h
    | arraylength => exact valen_m (k := fun n r => P d y nx ls (.int n :: r) σ post) (fun n r hh => hp hh) h
    | getfield k => exact vgetf_m (k := fun v r => P d y nx ls (v :: r) σ post) (fun v r hh => hp hh) h
    | putfield k => exact vputf_m (k := fun σ r => P d y nx ls r σ post) (fun σ r hh => hp hh) h
    | _ => first | exact False.elim h | exact hp h
  next => cases h
theorem VM_fold (G : vG) : vle (vF G (VM G)) (VM G) := fun d y pc ls st σ post h P hP => hP _ _ _ _ _ _ _ (vF_m G (fun _ _ _ _ _ _ _ hh => hh P hP) _ _ _ _ _ _ _ h)
theorem VM_unfold (G : vG) : vle (VM G) (vF G (VM G)) := fun d y pc ls st σ post h => h (vF G (VM G)) (vF_m G (VM_fold G))
/-- n steps -/
def vR (G : vG) : Nat → vP
  | 0 => VM G
  | n + 1 => vF G (vR G n)
theorem vR_VM (G : vG) (n : Nat) : vle (vR G n) (VM G) := by
  induction n with
  | zero => exact fun _ _ _ _ _ _ _ h => h
  | succ n ih => exact fun _ _ _ _ _ _ _ h => VM_fold G _ _ _ _ _ _ _ (vF_m G ih _ _ _ _ _ _ _ h)
theorem VM_vR (G : vG) (n : Nat) : vle (VM G) (vR G n) := by
  induction n with
  | zero => exact fun _ _ _ _ _ _ _ h => h
  | succ n ih => exact fun _ _ _ _ _ _ _ h => vF_m G ih _ _ _ _ _ _ _ (VM_unfold G _ _ _ _ _ _ _ h)
theorem VM.run {G : vG} {d y pc : Nat} {ls : vL} {st : List Value} {σ : vM} {post : vQ} (n : Nat) (h : vR G n d y pc ls st σ post) : VM G d y pc ls st σ post := vR_VM G n _ _ _ _ _ _ _ h
theorem VM.to {G : vG} {d y pc : Nat} {ls : vL} {st : List Value} {σ : vM} {post : vQ} {n : Nat} (h : VM G d y pc ls st σ post) : vR G n d y pc ls st σ post := VM_vR G n _ _ _ _ _ _ _ h

/-- steps until one of the places S is reached -/
def vG0 (G : vG) (S : List Nat) : Nat → vP
  | 0 => VM G
  | n + 1 => fun d y pc ls st σ post => bif S.elem pc then VM G d y pc ls st σ post else vF G (vG0 G S n) d y pc ls st σ post
theorem vG0_VM (G : vG) (S : List Nat) (n : Nat) : vle (vG0 G S n) (VM G) := by
  induction n with
  | zero => exact fun _ _ _ _ _ _ _ h => h
  | succ n ih =>
    intro d y pc ls st σ post h
    unfold vG0 at h
    cases hb : S.elem pc with
    | true => rw [hb] at h; exact h
    | false => rw [hb] at h; exact VM_fold G _ _ _ _ _ _ _ (vF_m G ih _ _ _ _ _ _ _ h)
theorem VM_vG0 (G : vG) (S : List Nat) (n : Nat) : vle (VM G) (vG0 G S n) := by
  induction n with
  | zero => exact fun _ _ _ _ _ _ _ h => h
  | succ n ih =>
    intro d y pc ls st σ post h
    unfold vG0
    cases hb : S.elem pc with
    | true => exact h
    | false => exact vF_m G ih _ _ _ _ _ _ _ (VM_unfold G _ _ _ _ _ _ _ h)
/-- from here, one step at least, then on to one of the places S -/
theorem VM.go {G : vG} {d y pc : Nat} {ls : vL} {st : List Value} {σ : vM} {post : vQ} (S : List Nat) (h : vF G (vG0 G S 200) d y pc ls st σ post) : VM G d y pc ls st σ post := VM_fold G _ _ _ _ _ _ _ (vF_m G (vG0_VM G S 200) _ _ _ _ _ _ _ h)
theorem VM.at {G : vG} {d y pc : Nat} {ls : vL} {st : List Value} {σ : vM} {post : vQ} {S : List Nat} {n : Nat} (h : VM G d y pc ls st σ post) : vG0 G S n d y pc ls st σ post := VM_vG0 G S n _ _ _ _ _ _ _ h
/-- a counted loop whose states are told by a function of the counter: downward -/
theorem vloop {n : Nat} (P : Nat → Prop) (hend : P n) (hstep : ∀ i, i < n → P (i + 1) → P i) : ∀ i, i ≤ n → P i := by
  intro i hi
  obtain ⟨k, rfl⟩ := Nat.le.dest hi
  induction k generalizing i with
  | zero => exact hend
  | succ k ih => exact hstep i (by omega) (by have := ih (i + 1) (by rw [show i + 1 + k = i + (k + 1) by omega]; exact hend) (fun j hj hP => hstep j (by omega) hP) (by omega); exact this)
end
section
/-! ===== pure rows: numbers, memory ===== -/
theorem vput_eq (σ : vM) (a k : Nat) (v : Int32) : (vput σ a k v).1 a k = v := if_pos ⟨rfl, rfl⟩
theorem vput_get (σ : vM) (a k : Nat) (v : Int32) (a' k' : Nat) : (vput σ a k v).1 a' k' = if a' = a ∧ k' = k then v else σ.1 a' k' := rfl
theorem vput_ne {σ : vM} {a k : Nat} {v : Int32} {a' k' : Nat} (h : a' ≠ a ∨ k' ≠ k) : (vput σ a k v).1 a' k' = σ.1 a' k' := if_neg (fun q => h.elim (fun h => h q.1) (fun h => h q.2))
theorem vput_long (σ : vM) (a k : Nat) (v : Int32) : (vput σ a k v).2 = σ.2 := rfl
theorem vcopy_get (σ : vM) (a sp b dp n : Nat) (a' k' : Nat) : (vcopy σ a sp b dp n).1 a' k' = if a' = b ∧ dp ≤ k' ∧ k' < dp + n then σ.1 a (sp + (k' - dp)) else σ.1 a' k' := rfl
/-- memories that agree off the places of S -/
def vag (S : Nat → Nat → Bool) (σ σ' : vM) : Prop := (∀ a k, S a k = false → σ'.1 a k = σ.1 a k) ∧ σ'.2 = σ.2
theorem vag.rf {S : Nat → Nat → Bool} {σ : vM} : vag S σ σ := ⟨fun _ _ _ => rfl, rfl⟩
theorem vag.put {S : Nat → Nat → Bool} {σ σ' : vM} (h : vag S σ σ') {a k : Nat} {v : Int32} (hs : S a k = true) : vag S σ (vput σ' a k v) := by
  refine ⟨fun a' k' h' => ?_, h.2⟩
  rw [vput_ne, h.1 a' k' h']
  by_cases e : a' = a
  · subst e
    exact Or.inr (fun q => by subst q; rw [hs] at h'; cases h')
  · exact Or.inl e
theorem vag.tr {S : Nat → Nat → Bool} {σ σ1 σ2 : vM} (h : vag S σ σ1) (h2 : vag S σ1 σ2) : vag S σ σ2 := ⟨fun a k hs => (h2.1 a k hs).trans (h.1 a k hs), h2.2.trans h.2⟩
theorem vag.up {S S' : Nat → Nat → Bool} {σ σ' : vM} (h : vag S σ σ') (hS : ∀ a k, S' a k = false → S a k = false) : vag S' σ σ' := ⟨fun a k hs => h.1 a k (hS a k hs), h.2⟩
theorem vag.get {S : Nat → Nat → Bool} {σ σ' : vM} (h : vag S σ σ') {a k : Nat} (hs : S a k = false) : σ'.1 a k = σ.1 a k := h.1 a k hs
theorem i32 {x y : Int32} (h : x.toInt = y.toInt) : x = y := Int32.toInt_inj.mp h
theorem nIle {a b : Nat} (ha : a < 2 ^ 31) (hb : b < 2 ^ 31) : nI a ≤ nI b ↔ a ≤ b := nI_leI ha hb
theorem nIlt {a b : Nat} (ha : a < 2 ^ 31) (hb : b < 2 ^ 31) : nI a < nI b ↔ a < b := nI_ltI ha hb
/-- an int between 0 and m is the Nat of that size -/
theorem vnat {x : Int32} {m : Nat} (hm : m < 2 ^ 31) (h0 : 0 ≤ x) (h1 : x ≤ nI m) : ∃ n : Nat, n ≤ m ∧ x = nI n := by
  obtain ⟨j, hj, e⟩ := nI_of (x := x) (by rw [Int32.not_lt]; exact h0)
  subst e
  exact ⟨j, (nIle hj hm).mp h1, rfl⟩
theorem vb_between {G : vG} {d : Nat} {v a b : Int32} {σ : vM} {post : vQ} (h1 : a ≤ v → v ≤ b → post (some (.int 1)) σ) (h0 : ¬ (a ≤ v ∧ v ≤ b) → post (some (.int 0)) σ) : VM G d iX6_between 0 [some (.int v), some (.int a), some (.int b)] [] σ post := by
  refine VM.go [] ⟨fun c1 => ⟨Or.inl rfl, h0 (fun q => ?_)⟩, fun c1 => ⟨fun c2 => ⟨Or.inl rfl, h0 (fun q => ?_)⟩, fun c2 => ⟨Or.inr rfl, h1 ?_ ?_⟩⟩⟩
  · exact absurd c1 (Int32.not_lt.mpr q.1)
  · exact absurd c2 (Int32.not_lt.mpr q.2)
  · exact Int32.not_lt.mp c1
  · exact Int32.not_lt.mp c2
end
section
/-! ===== nights as bits ===== -/
def vpopN : Nat → Nat → Nat
  | 0, _ => 0
  | k + 1, m => m % 2 + vpopN k (m / 2)
/-- how many nights -/
def vpop (m : Nat) : Nat := vpopN 12 m
/-- the nights of s that have no cloud of c -/
def vmask (s c : Nat) : Nat := s &&& (c ^^^ 4095)
def vbcF (x : Int32) : Int32 :=
  let a := x - ((x.toUInt32 >>> ((1 : Int32).toUInt32 &&& Int32.toUInt32 31)).toInt32 &&& 1431655765)
  let b := (a &&& 858993459) + ((a.toUInt32 >>> ((2 : Int32).toUInt32 &&& Int32.toUInt32 31)).toInt32 &&& 858993459)
  let c := b + (b.toUInt32 >>> ((4 : Int32).toUInt32 &&& Int32.toUInt32 31)).toInt32 &&& 252645135
  let e := c + (c.toUInt32 >>> ((8 : Int32).toUInt32 &&& Int32.toUInt32 31)).toInt32
  let f := e + (e.toUInt32 >>> ((16 : Int32).toUInt32 &&& Int32.toUInt32 31)).toInt32
  f &&& 63
set_option maxRecDepth 100000 in
theorem vbc_0 : (List.range 512).all (fun i => decide (vbcF (nI (0 + i)) = nI (vpop (0 + i)))) = true := by decide +kernel
set_option maxRecDepth 100000 in
theorem vbc_1 : (List.range 512).all (fun i => decide (vbcF (nI (512 + i)) = nI (vpop (512 + i)))) = true := by decide +kernel
set_option maxRecDepth 100000 in
theorem vbc_2 : (List.range 512).all (fun i => decide (vbcF (nI (1024 + i)) = nI (vpop (1024 + i)))) = true := by decide +kernel
set_option maxRecDepth 100000 in
theorem vbc_3 : (List.range 512).all (fun i => decide (vbcF (nI (1536 + i)) = nI (vpop (1536 + i)))) = true := by decide +kernel
set_option maxRecDepth 100000 in
theorem vbc_4 : (List.range 512).all (fun i => decide (vbcF (nI (2048 + i)) = nI (vpop (2048 + i)))) = true := by decide +kernel
set_option maxRecDepth 100000 in
theorem vbc_5 : (List.range 512).all (fun i => decide (vbcF (nI (2560 + i)) = nI (vpop (2560 + i)))) = true := by decide +kernel
set_option maxRecDepth 100000 in
theorem vbc_6 : (List.range 512).all (fun i => decide (vbcF (nI (3072 + i)) = nI (vpop (3072 + i)))) = true := by decide +kernel
set_option maxRecDepth 100000 in
theorem vbc_7 : (List.range 512).all (fun i => decide (vbcF (nI (3584 + i)) = nI (vpop (3584 + i)))) = true := by decide +kernel
theorem vbc {m : Nat} (h : m < 4096) : vbcF (nI m) = nI (vpop m) := by
  have hm : m % 512 ∈ List.range 512 := List.mem_range.mpr (Nat.mod_lt _ (by decide))
  rcases (show m / 512 = 0 ∨ m / 512 = 1 ∨ m / 512 = 2 ∨ m / 512 = 3 ∨ m / 512 = 4 ∨ m / 512 = 5 ∨ m / 512 = 6 ∨ m / 512 = 7 by omega) with h | h | h | h | h | h | h | h
  · have := of_decide_eq_true (List.all_eq_true.mp vbc_0 _ hm)
    rw [show 0 + m % 512 = m by omega] at this
    exact this
  · have := of_decide_eq_true (List.all_eq_true.mp vbc_1 _ hm)
    rw [show 512 + m % 512 = m by omega] at this
    exact this
  · have := of_decide_eq_true (List.all_eq_true.mp vbc_2 _ hm)
    rw [show 1024 + m % 512 = m by omega] at this
    exact this
  · have := of_decide_eq_true (List.all_eq_true.mp vbc_3 _ hm)
    rw [show 1536 + m % 512 = m by omega] at this
    exact this
  · have := of_decide_eq_true (List.all_eq_true.mp vbc_4 _ hm)
    rw [show 2048 + m % 512 = m by omega] at this
    exact this
  · have := of_decide_eq_true (List.all_eq_true.mp vbc_5 _ hm)
    rw [show 2560 + m % 512 = m by omega] at this
    exact this
  · have := of_decide_eq_true (List.all_eq_true.mp vbc_6 _ hm)
    rw [show 3072 + m % 512 = m by omega] at this
    exact this
  · have := of_decide_eq_true (List.all_eq_true.mp vbc_7 _ hm)
    rw [show 3584 + m % 512 = m by omega] at this
    exact this
theorem vb_bitCount {G : vG} {d : Nat} {v : Int32} {σ : vM} {post : vQ} (h : post (some (.int (vbcF v))) σ) : VM G d iJ6_bitCount_0f7a4 0 [some (.int v)] [] σ post := VM.go [] h
theorem vpopN_le (k m : Nat) : vpopN k m ≤ k := by
  induction k generalizing m with
  | zero => exact Nat.le_refl 0
  | succ k ih => have := ih (m / 2); show m % 2 + vpopN k (m / 2) ≤ k + 1; omega
theorem vpop_le (m : Nat) : vpop m ≤ 12 := vpopN_le 12 m
theorem vpopN_0 (k : Nat) : vpopN k 0 = 0 := by
  induction k with
  | zero => rfl
  | succ k ih => show 0 % 2 + vpopN k (0 / 2) = 0; rw [Nat.zero_div, ih]
theorem vpopN_pos {k m : Nat} (h0 : 0 < m) (h : m < 2 ^ k) : 0 < vpopN k m := by
  induction k generalizing m with
  | zero => omega
  | succ k ih =>
    show 0 < m % 2 + vpopN k (m / 2)
    by_cases h2 : m / 2 = 0
    · omega
    · have := ih (m := m / 2) (by omega) (by rw [Nat.pow_succ] at h; omega)
      omega
theorem vpop_0 {m : Nat} (h : m < 4096) : vpop m = 0 ↔ m = 0 := by
  constructor
  · intro hp
    rcases Nat.eq_zero_or_pos m with e | e
    · exact e
    · have := vpopN_pos (k := 12) e h
      unfold vpop at hp
      omega
  · rintro rfl
    exact vpopN_0 12
theorem vmask_lt {s c : Nat} (h : s < 4096) : vmask s c < 4096 := Nat.lt_of_le_of_lt Nat.and_le_left h
theorem nI_bits {n : Nat} (h : n < 2 ^ 32) (i : Nat) (hi : i < 32) : (nI n).toBitVec.getLsbD i = n.testBit i := by
  rw [BitVec.getLsbD, pk_tn h]
theorem i32_bits {x y : Int32} (h : ∀ i, i < 32 → x.toBitVec.getLsbD i = y.toBitVec.getLsbD i) : x = y := by
  apply Int32.toBitVec_inj.mp
  apply BitVec.eq_of_getLsbD_eq
  intro i hi
  exact h i hi
theorem nI_and {a b : Nat} (ha : a < 2 ^ 32) (hb : b < 2 ^ 32) : nI a &&& nI b = nI (a &&& b) := by
  apply i32_bits
  intro i hi
  rw [Int32.toBitVec_and, BitVec.getLsbD_and, nI_bits ha i hi, nI_bits hb i hi, nI_bits (Nat.lt_of_le_of_lt Nat.and_le_left ha) i hi, Nat.testBit_and]
theorem nI_or {a b : Nat} (ha : a < 2 ^ 32) (hb : b < 2 ^ 32) : nI a ||| nI b = nI (a ||| b) := by
  apply i32_bits
  intro i hi
  rw [Int32.toBitVec_or, BitVec.getLsbD_or, nI_bits ha i hi, nI_bits hb i hi, nI_bits (Nat.or_lt_two_pow ha hb) i hi, Nat.testBit_or]
theorem nI_mask {s c : Nat} (hs : s < 4096) (hc : c < 4096) : nI s &&& (nI c ^^^ -1) = nI (vmask s c) := by
  apply i32_bits
  intro i hi
  rw [Int32.toBitVec_and, BitVec.getLsbD_and, Int32.toBitVec_xor, BitVec.getLsbD_xor, nI_bits (by omega) i hi, nI_bits (by omega) i hi, nI_bits (by have := vmask_lt (c := c) hs; omega) i hi]
  have h1 : (-1 : Int32).toBitVec.getLsbD i = true := by
    have : (-1 : Int32).toBitVec = BitVec.allOnes 32 := by decide
    rw [this, BitVec.getLsbD_allOnes]
    exact decide_eq_true hi
  rw [h1]
  unfold vmask
  rw [Nat.testBit_and, Nat.testBit_xor]
  by_cases h12 : i < 12
  · have : (4095 : Nat).testBit i = true := by
      rw [show (4095 : Nat) = 2 ^ 12 - 1 by decide, Nat.testBit_two_pow_sub_one]
      exact decide_eq_true h12
    rw [this]
  · have : s.testBit i = false := Nat.testBit_lt_two_pow (Nat.lt_of_lt_of_le hs (Nat.pow_le_pow_right (n := 2) (by decide) (show 12 ≤ i by omega)))
    rw [this]
    rfl
theorem vmask_0 {s c : Nat} (hs : s < 4096) (hc : c < 4096) : nI s &&& (nI c ^^^ -1) = 0 ↔ vmask s c = 0 := by
  rw [nI_mask hs hc, show (0 : Int32) = nI 0 from nI_0.symm, nI_eq (by have := vmask_lt (c := c) hs; omega) (by decide)]
/-- night t is one of m -/
abbrev vnight (m t : Nat) : Prop := m / 2 ^ t % 2 = 1
theorem nI_smod : ∀ t, t < 32 → ((nI t).toBitVec.smod 32).toNat = t := by decide +kernel
theorem nI_night {m t : Nat} (hm : m < 4096) (ht : t < 32) : nI m >>> (nI t &&& 31) &&& 1 = nI (m / 2 ^ t % 2) := by
  have h1 : (nI t &&& 31) = nI t := by
    rw [show (31 : Int32) = nI 31 from rfl, nI_and (by omega) (by decide)]
    have : t &&& 31 = t % 32 := Nat.and_two_pow_sub_one_eq_mod t 5
    rw [this, Nat.mod_eq_of_lt ht]
  rw [h1, pk_shrN (by omega) (nI t) t (nI_smod t ht)]
  rw [pk_andN (k := 1) (by have : m / 2 ^ t ≤ m := Nat.div_le_self _ _; omega) (by decide)]
end
section
/-! ===== WHAT IS OWED, in plain numbers ===== -/
/-- an int held between 0 and m -/
def vcl (x : Int32) (m : Nat) : Nat := if x < 0 then 0 else if nI m < x then m else x.toNatClampNeg
theorem vcl_le {x : Int32} {m : Nat} (hm : m < 2 ^ 31) : vcl x m ≤ m := by
  unfold vcl
  split
  · exact Nat.zero_le _
  · split
    · exact Nat.le_refl _
    · next h1 h2 =>
      obtain ⟨j, hj, rfl⟩ := nI_of h1
      rw [nI_clamp hj]
      rw [nIlt hm hj] at h2
      omega
theorem vcl_nI {n m : Nat} (hn : n < 2 ^ 31) (hm : m < 2 ^ 31) : vcl (nI n) m = min n m := by
  unfold vcl
  rw [if_neg (nI_pos hn), nI_clamp hn]
  by_cases h : m < n
  · rw [if_pos (nI_lt h hn)]; omega
  · rw [if_neg (by rw [nIlt hm hn]; exact h)]; omega
def vsumN : Nat → (Nat → Nat) → Nat
  | 0, _ => 0
  | n + 1, f => vsumN n f + f n
/-- kinds: 0 LIGHT, 1 TWIN, 2 RED, 3 COMET, 4 GIANT, 5 LAMP -/
def vdueS (kind number years k v : Nat) : Nat := match kind with
  | 1 => min (2 * v) 999
  | 2 => min (v / 2) 999
  | 3 => if number ≤ k then 0 else min (2 * v) 999
  | 4 => min (v / 2 + years / 100) 999
  | 5 => 1
  | _ => min v 999
def voffS (kind number v : Nat) : Nat := match kind with
  | 2 => min (v + number) 999
  | 4 => min (v + number) 999
  | 3 => 0
  | _ => min v 999
def vextraS (kind k v : Nat) : Nat := match kind with
  | 1 => min (v + k) 999
  | 3 => min (v + k) 999
  | 4 => min (2 * v) 999
  | 5 => 0
  | _ => min v 999
/-- lights of the first n on which one looked in nights that count -/
def vlitS (c : Nat) (se : Nat → Nat) (n : Nat) : Nat := vsumN n (fun l => if vmask (se l) c = 0 then 0 else 1)
theorem vsumN_le {n : Nat} {f : Nat → Nat} {b : Nat} (h : ∀ i, i < n → f i ≤ b) : vsumN n f ≤ n * b := by
  induction n with
  | zero => exact Nat.zero_le _
  | succ n ih =>
    have h1 := ih (fun i hi => h i (by omega))
    have h2 := h n (by omega)
    show vsumN n f + f n ≤ (n + 1) * b
    rw [Nat.add_mul]; omega
theorem vlitS_le {c : Nat} {se : Nat → Nat} {n : Nat} : vlitS c se n ≤ n := by
  have := vsumN_le (n := n) (f := fun l => if vmask (se l) c = 0 then 0 else 1) (b := 1) (fun i _ => by split <;> omega)
  unfold vlitS; omega
/-- the names' values: years nights number night cloudy lights -/
def vnames (c : Nat) (nu ye se : Nat → Nat) (n l t : Nat) : Nat → Int32 := fun i => nI (match i with
  | 0 => ye l
  | 1 => vpop (vmask (se l) c)
  | 2 => nu l
  | 3 => t
  | 4 => vpop c
  | _ => vlitS c se n)
/-- what one owes for a light, T telling dues (0), offs (1), extras (2) of the names -/
def vowes (T : Nat → (Nat → Int32) → Int32) (c n : Nat) (kd nu ye se : Nat → Nat) (l : Nat) : Nat :=
  let m := vmask (se l) c
  let k := vpop m
  if m = 0 then 0 else
    vsumN 12 (fun t => if vnight m t then vdueS (kd l) (nu l) (ye l) k (vcl (T 0 (vnames c nu ye se n l t)) 99) else 0)
      + (if 2 < k then vextraS (kd l) k (vcl (T 2 (vnames c nu ye se n l 0)) 99) else 0)
      - voffS (kd l) (nu l) (vcl (T 1 (vnames c nu ye se n l 0)) 99)
/-- the bill lies open: clouds, lights, the rule's cell, the lights' kinds, numbers, years, nights -/
def vBl (c n r : Nat) (kd nu ye se : Nat → Nat) (σ : vM) : Prop := σ.1 40 0 = nI c ∧ σ.1 40 6 = nI n ∧ σ.1 40 1 = nI r ∧ (∀ k, k < 6 → σ.1 41 k = nI (kd k)) ∧ (∀ k, k < 6 → σ.1 42 k = nI (nu k)) ∧ (∀ k, k < 6 → σ.1 43 k = nI (ye k)) ∧ (∀ k, k < 6 → σ.1 44 k = nI (se k))
/-- in range -/
def vBw (c n r : Nat) (kd nu ye se : Nat → Nat) : Prop := c < 4096 ∧ n ≤ 6 ∧ r < 83 ∧ (∀ k, k < 6 → kd k < 6) ∧ (∀ k, k < 6 → nu k ≤ 9) ∧ (∀ k, k < 6 → ye k ≤ 999) ∧ (∀ k, k < 6 → se k < 4096)
/-- the bill's scratch: names and stack -/
def vSc (a _k : Nat) : Bool := Nat.beq a 45 || Nat.beq a 46
theorem vBl.ag {c n r : Nat} {kd nu ye se : Nat → Nat} {σ σ' : vM} (h : vBl c n r kd nu ye se σ) (hs : vag vSc σ σ') : vBl c n r kd nu ye se σ' := by
  obtain ⟨h1, h2, h3, h4, h5, h6, h7⟩ := h
  exact ⟨by rw [hs.get rfl]; exact h1, by rw [hs.get rfl]; exact h2, by rw [hs.get rfl]; exact h3, fun k hk => by rw [hs.get rfl]; exact h4 k hk, fun k hk => by rw [hs.get rfl]; exact h5 k hk, fun k hk => by rw [hs.get rfl]; exact h6 k hk, fun k hk => by rw [hs.get rfl]; exact h7 k hk⟩
section BL
variable {G : vG} {d : Nat} {σ : vM} {post : vQ} {c n r : Nat} {kd nu ye se : Nat → Nat}
theorem vb_bounded {v : Int32} {m : Nat} (hm : m < 2 ^ 31) (h : post (some (.int (nI (vcl v m)))) σ) : VM G d iX0_bounded 0 [some (.int v), some (.int (nI m))] [] σ post := by
  refine VM.go [] ⟨fun c1 => ⟨fun c2 => ?_, fun c2 => ?_⟩, fun c1 => ?_⟩
  · have e : nI (vcl v m) = v := by
      obtain ⟨j, hj, rfl⟩ := nI_of (x := v) (by rw [Int32.not_lt]; exact c1)
      rw [vcl_nI hj hm]
      rw [nIle hj hm] at c2
      rw [Nat.min_eq_left c2]
    rw [e] at h
    exact h
  · have e : nI (vcl v m) = nI m := by
      unfold vcl
      rw [if_neg (by rw [Int32.not_lt]; exact c1), if_pos (Int32.not_le.mp c2)]
    rw [e] at h
    exact h
  · have e : nI (vcl v m) = 0 := by
      unfold vcl
      rw [if_pos (Int32.not_le.mp c1)]
      rfl
    rw [e] at h
    exact h
theorem vb_boundN {x m : Nat} (hx : x < 2 ^ 31) (hm : m < 2 ^ 31) (h : post (some (.int (nI (min x m)))) σ) : VM G d iX0_bounded 0 [some (.int (nI x)), some (.int (nI m))] [] σ post := vb_bounded hm (by rw [vcl_nI hx hm]; exact h)
/-- where a switch goes -/
def vswT (x : Int32) (df : Nat) : List (Int32 × Nat) → Nat
  | [] => df
  | q :: l => if x = q.1 then q.2 else vswT x df l
theorem vsw_go {P : Nat → Prop} {x : Int32} {df : Nat} {l : List (Int32 × Nat)} (t : Nat) (h : vswT x df l = t) (hP : P t) : vswF P x df l := by
  subst h
  induction l with
  | nil => exact hP
  | cons q l ih =>
    refine ⟨fun e => ?_, fun e => ih ?_⟩
    · unfold vswT at hP
      rw [if_pos e] at hP
      exact hP
    · unfold vswT at hP
      rw [if_neg e] at hP
      exact hP
theorem nI_d2 {x : Nat} (h : x < 2 ^ 31) : nI x / 2 = nI (x / 2) := pk_div (d := 2) h (by decide) (by decide)
theorem nI_d100 {x : Nat} (h : x < 2 ^ 31) : nI x / 100 = nI (x / 100) := pk_div (d := 100) h (by decide) (by decide)
theorem nI_2 (v : Nat) : (2 : Int32) * nI v = nI (2 * v) := pk_mul 2 v
theorem vb_due {l k : Nat} {v : Int32} (hl : l < 6) (hk : k ≤ 12) (hw : vBw c n r kd nu ye se) (hB : vBl c n r kd nu ye se σ) (h : post (some (.int (nI (vdueS (kd l) (nu l) (ye l) k (vcl v 99))))) σ) : VM G (d + 1) iX0_due 0 [some (.ref 40), some (.int (nI l)), some (.int (nI k)), some (.int v), none] [] σ post := by
  obtain ⟨h1, h2, h3, h4, h5, h6, h7⟩ := hB
  obtain ⟨w1, w2, w3, w4, w5, w6, w7⟩ := hw
  have hv : vcl v 99 ≤ 99 := vcl_le (by decide)
  refine VM.go [] ⟨_, VM.at (vb_bounded (m := 99) (by decide) ⟨l, rfl, hl, ?_⟩), fun _ _ hh => hh⟩
  generalize vcl v 99 = x at hv h ⊢
  rw [h4 l hl]
  have hkd := w4 l hl
  generalize kd l = q at h hkd ⊢
  rcases (show q = 0 ∨ q = 1 ∨ q = 2 ∨ q = 3 ∨ q = 4 ∨ q = 5 by omega) with rfl | rfl | rfl | rfl | rfl | rfl
  · exact vsw_go 118 (by decide) ⟨_, VM.at (vb_boundN (x := x) (m := 999) (by omega) (by decide) (by exact h)), fun _ _ hh => hh⟩
  · exact vsw_go 48 (by decide) ⟨_, VM.at (vb_bounded (m := 999) (by decide) (by rw [nI_2, vcl_nI (by omega) (by decide)]; exact h)), fun _ _ hh => hh⟩
  · exact vsw_go 59 (by decide) ⟨by decide, _, VM.at (vb_bounded (m := 999) (by decide) (by rw [nI_d2 (by omega), vcl_nI (by omega) (by decide)]; exact h)), fun _ _ hh => hh⟩
  · refine vsw_go 70 (by decide) ⟨l, rfl, hl, fun c1 => ?_, fun c1 => ?_⟩
    · rw [h5 l hl, nIlt (by omega) (by have := w5 l hl; omega)] at c1
      have e : vdueS 3 (nu l) (ye l) k x = min (2 * x) 999 := if_neg (by omega)
      rw [e] at h
      exact ⟨_, VM.at (vb_bounded (m := 999) (by decide) (by rw [nI_2, vcl_nI (by omega) (by decide)]; exact h)), fun _ _ hh => hh⟩
    · rw [h5 l hl, nIlt (by omega) (by have := w5 l hl; omega)] at c1
      have e : vdueS 3 (nu l) (ye l) k x = 0 := if_pos (by omega)
      rw [e] at h
      exact h
  · refine vsw_go 95 (by decide) ⟨by decide, l, rfl, hl, by decide, _, VM.at (vb_bounded (m := 999) (by decide) ?_), fun _ _ hh => hh⟩
    have w := w6 l hl
    rw [h6 l hl, nI_d2 (by omega), nI_d100 (by omega), nI_add, vcl_nI (by omega) (by decide)]
    exact h
  · exact vsw_go 116 (by decide) h
theorem vb_off {l : Nat} {v : Int32} (hl : l < 6) (hw : vBw c n r kd nu ye se) (hB : vBl c n r kd nu ye se σ) (h : post (some (.int (nI (voffS (kd l) (nu l) (vcl v 99))))) σ) : VM G (d + 1) iX0_off 0 [some (.ref 40), some (.int (nI l)), some (.int v), none] [] σ post := by
  obtain ⟨h1, h2, h3, h4, h5, h6, h7⟩ := hB
  obtain ⟨w1, w2, w3, w4, w5, w6, w7⟩ := hw
  have hv : vcl v 99 ≤ 99 := vcl_le (by decide)
  refine VM.go [] ⟨_, VM.at (vb_bounded (m := 99) (by decide) ⟨l, rfl, hl, ?_⟩), fun _ _ hh => hh⟩
  generalize vcl v 99 = x at hv h ⊢
  rw [h4 l hl]
  have hkd := w4 l hl
  generalize kd l = q at h hkd ⊢
  have w := w5 l hl
  rcases (show q = 0 ∨ q = 1 ∨ q = 2 ∨ q = 3 ∨ q = 4 ∨ q = 5 by omega) with rfl | rfl | rfl | rfl | rfl | rfl
  · exact vsw_go 57 (by decide) ⟨_, VM.at (vb_boundN (x := x) (m := 999) (by omega) (by decide) (by exact h)), fun _ _ hh => hh⟩
  · exact vsw_go 57 (by decide) ⟨_, VM.at (vb_boundN (x := x) (m := 999) (by omega) (by decide) (by exact h)), fun _ _ hh => hh⟩
  · exact vsw_go 40 (by decide) ⟨l, rfl, hl, _, VM.at (vb_bounded (m := 999) (by decide) (by rw [h5 l hl, nI_add, vcl_nI (by omega) (by decide)]; exact h)), fun _ _ hh => hh⟩
  · exact vsw_go 55 (by decide) h
  · exact vsw_go 40 (by decide) ⟨l, rfl, hl, _, VM.at (vb_bounded (m := 999) (by decide) (by rw [h5 l hl, nI_add, vcl_nI (by omega) (by decide)]; exact h)), fun _ _ hh => hh⟩
  · exact vsw_go 57 (by decide) ⟨_, VM.at (vb_boundN (x := x) (m := 999) (by omega) (by decide) (by exact h)), fun _ _ hh => hh⟩
theorem vb_extra {l k : Nat} {v : Int32} (hl : l < 6) (hk : k ≤ 12) (hw : vBw c n r kd nu ye se) (hB : vBl c n r kd nu ye se σ) (h : post (some (.int (nI (vextraS (kd l) k (vcl v 99))))) σ) : VM G (d + 1) iX0_extra 0 [some (.ref 40), some (.int (nI l)), some (.int (nI k)), some (.int v), none] [] σ post := by
  obtain ⟨h1, h2, h3, h4, h5, h6, h7⟩ := hB
  obtain ⟨w1, w2, w3, w4, w5, w6, w7⟩ := hw
  have hv : vcl v 99 ≤ 99 := vcl_le (by decide)
  refine VM.go [] ⟨_, VM.at (vb_bounded (m := 99) (by decide) ⟨l, rfl, hl, ?_⟩), fun _ _ hh => hh⟩
  generalize vcl v 99 = x at hv h ⊢
  rw [h4 l hl]
  have hkd := w4 l hl
  generalize kd l = q at h hkd ⊢
  rcases (show q = 0 ∨ q = 1 ∨ q = 2 ∨ q = 3 ∨ q = 4 ∨ q = 5 by omega) with rfl | rfl | rfl | rfl | rfl | rfl
  · exact vsw_go 72 (by decide) ⟨_, VM.at (vb_boundN (x := x) (m := 999) (by omega) (by decide) (by exact h)), fun _ _ hh => hh⟩
  · exact vsw_go 48 (by decide) ⟨_, VM.at (vb_bounded (m := 999) (by decide) (by rw [nI_add, vcl_nI (by omega) (by decide)]; exact h)), fun _ _ hh => hh⟩
  · exact vsw_go 72 (by decide) ⟨_, VM.at (vb_boundN (x := x) (m := 999) (by omega) (by decide) (by exact h)), fun _ _ hh => hh⟩
  · exact vsw_go 48 (by decide) ⟨_, VM.at (vb_bounded (m := 999) (by decide) (by rw [nI_add, vcl_nI (by omega) (by decide)]; exact h)), fun _ _ hh => hh⟩
  · exact vsw_go 59 (by decide) ⟨_, VM.at (vb_bounded (m := 999) (by decide) (by rw [nI_2, vcl_nI (by omega) (by decide)]; exact h)), fun _ _ hh => hh⟩
  · exact vsw_go 70 (by decide) h
theorem vb_nightsOf {l : Nat} (hl : l < 6) (hw : vBw c n r kd nu ye se) (hB : vBl c n r kd nu ye se σ) (h : post (some (.int (nI (vpop (vmask (se l) c))))) σ) : VM G (d + 1) iX0_nightsOf 0 [some (.ref 40), some (.int (nI l))] [] σ post := by
  obtain ⟨h1, h2, h3, h4, h5, h6, h7⟩ := hB
  obtain ⟨w1, w2, w3, w4, w5, w6, w7⟩ := hw
  refine VM.go [] ⟨fun c1 => absurd c1 (nI_pos (by omega)), fun _ => ⟨fun c2 => absurd c2 (by rw [show (6 : Int32) = nI 6 from rfl, nIle (by decide) (by omega)]; omega), fun _ => ⟨l, rfl, hl, _, VM.at (vb_bitCount ?_), fun _ _ hh => hh⟩⟩⟩
  rw [h7 l hl, h1, nI_mask (w7 l hl) w1, vbc (vmask_lt (w7 l hl))]
  exact h
theorem vb_lightsSeen (hw : vBw c n r kd nu ye se) (hB : vBl c n r kd nu ye se σ) (h : post (some (.int (nI (vlitS c se n)))) σ) : VM G d iX0_lightsSeen 0 [some (.ref 40), none, none] [] σ post := by
  obtain ⟨h1, h2, h3, h4, h5, h6, h7⟩ := hB
  obtain ⟨w1, w2, w3, w4, w5, w6, w7⟩ := hw
  have key : ∀ i, i ≤ n → VM G d iX0_lightsSeen 4 [some (.ref 40), some (.int (nI (vlitS c se i))), some (.int (nI i))] [] σ post := by
    refine vloop _ ?_ ?_
    · refine VM.go [4] ⟨fun _ => h, fun c1 => absurd ?_ c1⟩
      rw [h2]; exact nI_le (Nat.le_refl _) (by omega)
    · intro i hi ih
      refine VM.go [4] ⟨fun c1 => absurd c1 (by rw [h2, nIle (by omega) (by omega)]; omega), fun _ => ⟨i, rfl, by omega, fun c2 => ?_, fun c2 => ?_⟩⟩
      · rw [h7 i (by omega), h1, vmask_0 (w7 i (by omega)) w1] at c2
        have e : vlitS c se (i + 1) = vlitS c se i := by
          show vlitS c se i + (if vmask (se i) c = 0 then 0 else 1) = _
          rw [if_pos c2]; rfl
        rw [e, ← nI_1] at ih
        exact ih
      · rw [h7 i (by omega), h1, vmask_0 (w7 i (by omega)) w1] at c2
        have e : vlitS c se (i + 1) = vlitS c se i + 1 := by
          show vlitS c se i + (if vmask (se i) c = 0 then 0 else 1) = _
          rw [if_neg c2]
        rw [e, ← nI_1, ← nI_1] at ih
        exact ih
  exact VM.go [4] (key 0 (Nat.zero_le _))
end BL
end
section
/-! ===== the class's Bill: what one owes for a light ===== -/
/-- T tells by its names' values alone; the night is none of them, if nn is 0 -/
def vTok (T : Nat → (Nat → Int32) → Int32) (nn : Nat) : Prop := ∀ (p : Nat) (nm nm' : Nat → Int32), (∀ i, i < 6 → (nn = 0 → i ≠ 3) → nm i = nm' i) → T p nm = T p nm'
def vStk (a _k : Nat) : Bool := Nat.beq a 46
/-- the rule at cell r tells T -/
def vTl (G : vG) (d r : Nat) (T : Nat → (Nat → Int32) → Int32) (σ : vM) : Prop := ∀ (σ' : vM) (p : Nat) (post : vQ), p < 3 → vag vSc σ σ' → (∀ σ'', vag vStk σ' σ'' → post (some (.int (T p (σ'.1 45)))) σ'') → VM G d iX4_tell 0 [some (.ref r), some (.int (nI p)), some (.ref 45), some (.ref 46), none, none, none] [] σ' post
theorem vStk_Sc (a k : Nat) (h : vSc a k = false) : vStk a k = false := by
  unfold vSc at h
  unfold vStk
  cases hb : Nat.beq a 46 with
  | false => rfl
  | true => rw [hb, Bool.or_true] at h; cases h
theorem vmax0 {a b : Nat} (ha : a < 2 ^ 30) (hb : b < 2 ^ 30) : (if nI a - nI b < 0 then (0 : Int32) else nI a - nI b) = nI (a - b) := by
  by_cases h : a < b
  · rw [if_pos (pk_sneg hb h), show a - b = 0 by omega]; rfl
  · rw [pk_sub (by omega), if_neg (nI_pos (by omega))]
section BM
variable {G : vG} {d : Nat} {σ : vM} {post : vQ} {c n r : Nat} {kd nu ye se : Nat → Nat}
theorem vb_giveNames {l : Nat} (hl : l < 6) (hw : vBw c n r kd nu ye se) (hB : vBl c n r kd nu ye se σ) (h : ∀ σ', vag vSc σ σ' → (∀ i, i < 6 → σ'.1 45 i = vnames c nu ye se n l 0 i) → post (some (.int (nI (vpop (vmask (se l) c))))) σ') : VM G (d + 1) iX0_giveNames 0 [some (.ref 40), some (.int (nI l)), none] [] σ post := by
  obtain ⟨h1, h2, h3, h4, h5, h6, h7⟩ := id hB
  obtain ⟨w1, w2, w3, w4, w5, w6, w7⟩ := id hw
  refine VM.go [] ⟨l, rfl, hl, _, VM.at (vb_bitCount ?_), fun _ _ hh => hh⟩
  rw [h7 l hl, h1, nI_mask (w7 l hl) w1, vbc (vmask_lt (w7 l hl))]
  refine ⟨l, rfl, hl, nofun, 0, rfl, by decide, nofun, 1, rfl, by decide, l, rfl, hl, nofun, 2, rfl, by decide, nofun, 3, rfl, by decide, _, VM.at (vb_bitCount ?_), fun _ _ hh => hh⟩
  refine ⟨nofun, 4, rfl, by decide, _, VM.at (vb_lightsSeen hw (hB.ag ?_) ?_), fun _ _ hh => hh⟩
  · exact ((((vag.rf.put rfl).put rfl).put rfl).put rfl).put rfl
  · refine ⟨nofun, 5, rfl, by decide, ?_⟩
    refine h _ ((((((vag.rf.put rfl).put rfl).put rfl).put rfl).put rfl).put rfl) (fun i hi => ?_)
    rcases (show i = 0 ∨ i = 1 ∨ i = 2 ∨ i = 3 ∨ i = 4 ∨ i = 5 by omega) with rfl | rfl | rfl | rfl | rfl | rfl
    · exact h6 l hl
    · rfl
    · exact h5 l hl
    · rfl
    · show vbcF (σ.1 40 0) = nI (vpop c)
      rw [h1, vbc w1]
    · rfl
theorem vnames_3 {σ1 : vM} {l t : Nat} (hn : ∀ i, i < 6 → i ≠ 3 → σ1.1 45 i = vnames c nu ye se n l 0 i) (i : Nat) (hi : i < 6) : (vput σ1 45 3 (nI t)).1 45 i = vnames c nu ye se n l t i := by
  rcases (show i = 0 ∨ i = 1 ∨ i = 2 ∨ i = 3 ∨ i = 4 ∨ i = 5 by omega) with rfl | rfl | rfl | rfl | rfl | rfl
  · exact hn 0 hi (by decide)
  · exact hn 1 hi (by decide)
  · exact hn 2 hi (by decide)
  · rfl
  · exact hn 4 hi (by decide)
  · exact hn 5 hi (by decide)
def vRc (r : Nat) : Prop := r = 20 ∨ r = 23 ∨ r = 26 ∨ r = 29 ∨ r = 32 ∨ r = 35
theorem vb_dueFor {l t : Nat} {nn : Nat} {T : Nat → (Nat → Int32) → Int32} (hT : vTok T nn) (hr : vRc r) (hl : l < 6) (ht : t < 12) (hw : vBw c n r kd nu ye se) (hB : vBl c n r kd nu ye se σ) (hrule : vTl G (d + 1) r T σ)
    (h : ∀ σ', vag vSc σ σ' → post (some (.int (nI (vdueS (kd l) (nu l) (ye l) (vpop (vmask (se l) c)) (vcl (T 0 (vnames c nu ye se n l t)) 99))))) σ') : VM G (d + 2) iX0_dueFor 0 [some (.ref 40), some (.int (nI l)), some (.int (nI t)), none] [] σ post := by
  refine VM.go [] ⟨fun c1 => absurd c1 (nI_pos (by omega)), fun _ => ⟨fun _ => ?_, fun c2 => absurd ?_ c2⟩⟩
  · refine ⟨_, VM.at (vb_giveNames hl hw hB (fun σ1 hs1 hn1 => ?_)), fun _ _ hh => hh⟩
    have e3 : (vput σ1 45 3 (nI t)).1 40 1 = nI r := by rw [vput_ne (Or.inl (by decide))]; exact (hB.ag hs1).2.2.1
    rcases hr with rfl | rfl | rfl | rfl | rfl | rfl
    all_goals
      refine ⟨nofun, 3, rfl, by decide, _, e3, by decide, _, VM.at (hrule _ 0 _ (by decide) (hs1.put rfl) (fun σ2 hs2 => ?_)), fun _ _ hh => hh⟩
      have hs3 := (hs1.put (a := 45) (k := 3) (v := nI t) rfl).tr (hs2.up vStk_Sc)
      refine ⟨_, VM.at (vb_due hl (vpop_le _) hw (hB.ag hs3) (by
        rw [show T 0 ((vput σ1 45 3 (nI t)).1 45) = T 0 (vnames c nu ye se n l t) from hT 0 _ _ (fun i hi _ => vnames_3 (fun i hi _ => hn1 i hi) i hi)]
        exact h σ2 hs3)), fun _ _ hh => hh⟩
  · rw [show (6 : Int32) = nI 6 from rfl, nIlt (by omega) (by decide)]; exact hl
/-- the due for night t -/
def vdt (T : Nat → (Nat → Int32) → Int32) (c n : Nat) (kd nu ye se : Nat → Nat) (l t : Nat) : Nat := vdueS (kd l) (nu l) (ye l) (vpop (vmask (se l) c)) (vcl (T 0 (vnames c nu ye se n l t)) 99)
/-- the sum of the dues for the nights ahead of t -/
def vdues (T : Nat → (Nat → Int32) → Int32) (c n : Nat) (kd nu ye se : Nat → Nat) (l t : Nat) : Nat := vsumN t (fun t => if vnight (vmask (se l) c) t then vdt T c n kd nu ye se l t else 0)
theorem vdueS_le (a b c e f : Nat) : vdueS a b c e f ≤ 999 := by
  unfold vdueS
  split <;> first | omega | (split <;> omega)
theorem vdues_le {T : Nat → (Nat → Int32) → Int32} {l t : Nat} : vdues T c n kd nu ye se l t ≤ t * 999 := vsumN_le (fun i _ => by split; exact vdueS_le _ _ _ _ _; omega)
theorem voffS_le (a b c : Nat) : voffS a b c ≤ 999 := by unfold voffS; split <;> omega
theorem vextraS_le (a b c : Nat) : vextraS a b c ≤ 999 := by unfold vextraS; split <;> omega
theorem vdt_same {T : Nat → (Nat → Int32) → Int32} {l t t' : Nat} (hT : vTok T 0) : vdt T c n kd nu ye se l t = vdt T c n kd nu ye se l t' := by
  unfold vdt
  rw [hT 0 (vnames c nu ye se n l t) (vnames c nu ye se n l t') (fun i hi hne => by
    have := hne rfl
    rcases (show i = 0 ∨ i = 1 ∨ i = 2 ∨ i = 4 ∨ i = 5 by omega) with rfl | rfl | rfl | rfl | rfl <;> rfl)]
theorem vowes_eq {T : Nat → (Nat → Int32) → Int32} {l : Nat} (hm : ¬ vmask (se l) c = 0) : vowes T c n kd nu ye se l = vdues T c n kd nu ye se l 12 + (if 2 < vpop (vmask (se l) c) then vextraS (kd l) (vpop (vmask (se l) c)) (vcl (T 2 (vnames c nu ye se n l 0)) 99) else 0) - voffS (kd l) (nu l) (vcl (T 1 (vnames c nu ye se n l 0)) 99) := by
  unfold vowes
  dsimp only
  rw [if_neg hm]
  rfl
/-- a told value of the rule, the names laid out -/
theorem vTl_at {l p t nn : Nat} {T : Nat → (Nat → Int32) → Int32} (hT : vTok T nn) {d' : Nat} (hrule : vTl G d' r T σ) {s2 : vM} {post : vQ} (hp : p < 3) (hs2 : vag vSc σ s2) (hn2 : ∀ i, i < 6 → s2.1 45 i = vnames c nu ye se n l t i) (h : ∀ σ'', vag vSc σ σ'' → (∀ i, i < 6 → σ''.1 45 i = vnames c nu ye se n l t i) → post (some (.int (T p (vnames c nu ye se n l t)))) σ'') : VM G d' iX4_tell 0 [some (.ref r), some (.int (nI p)), some (.ref 45), some (.ref 46), none, none, none] [] s2 post := by
  refine hrule s2 p post hp hs2 (fun s3 hs3 => ?_)
  rw [hT p (s2.1 45) (vnames c nu ye se n l t) (fun i hi _ => hn2 i hi)]
  exact h s3 (hs2.tr (hs3.up vStk_Sc)) (fun i hi => by rw [hs3.get rfl]; exact hn2 i hi)
set_option maxHeartbeats 4000000 in
theorem vb_owed {l : Nat} {nn : Nat} {T : Nat → (Nat → Int32) → Int32} (hT : vTok T nn) (hnn : nn ≤ 1) (hnr : σ.1 r 0 = nI nn) (hr : vRc r) (hl : l < 6) (hw : vBw c n r kd nu ye se) (hB : vBl c n r kd nu ye se σ) (hrule : vTl G (d + 1) r T σ)
    (h : ∀ σ', vag vSc σ σ' → post (some (.int (nI (vowes T c n kd nu ye se l)))) σ') : VM G (d + 2) iX0_owed 0 [some (.ref 40), some (.int (nI l)), none, none, none, none, none] [] σ post := by
  obtain ⟨h1, h2, h3, h4, h5, h6, h7⟩ := id hB
  obtain ⟨w1, w2, w3, w4, w5, w6, w7⟩ := id hw
  have hm := vmask_lt (c := c) (w7 l hl)
  refine VM.go [26] ⟨fun c1 => absurd c1 (nI_pos (by omega)), fun _ => ⟨fun _ => ⟨l, rfl, hl, ?_⟩, fun c2 => absurd ?_ c2⟩⟩
  · show VM G (d + 2) iX0_owed 26 _ _ _ _
    rw [h7 l hl, h1, nI_mask (w7 l hl) w1]
    generalize hme : vmask (se l) c = m at hm
    have hpop := vpop_le m
    have hoff := voffS_le (kd l) (nu l) (vcl (T 1 (vnames c nu ye se n l 0)) 99)
    have hext := vextraS_le (kd l) (vpop m) (vcl (T 2 (vnames c nu ye se n l 0)) 99)
    have hdues := vdues_le (T := T) (c := c) (n := n) (kd := kd) (nu := nu) (ye := ye) (se := se) (l := l) (t := 12)
    refine VM.go [47] ⟨fun c2 => ?_, fun c2 => ?_⟩
    · have hm0 : ¬ m = 0 := fun e => c2 (by rw [e]; rfl)
      refine ⟨_, VM.at (vb_giveNames hl hw hB (fun σ1 hs1 hn1 => ?_)), fun _ _ hh => hh⟩
      show VM G (d + 2) iX0_owed 47 [some (.ref 40), some (.int (nI l)), some (.int (nI m)), some (.int (nI (vpop (vmask (se l) c)))), some (.int 0), some (.int (-1)), some (.int 0)] [] σ1 post
      rw [hme]
      have e3 : ∀ {s2 : vM}, vag vSc σ s2 → s2.1 40 1 = nI r := fun hs2 => (hB.ag hs2).2.2.1
      -- the last part
      have last : ∀ (s2 : vM) (x : Int32) (b : Nat), b < 2 ^ 20 → vag vSc σ s2 → (∀ i, i < 6 → s2.1 45 i = vnames c nu ye se n l 0 i) → b - voffS (kd l) (nu l) (vcl (T 1 (vnames c nu ye se n l 0)) 99) = vowes T c n kd nu ye se l → VM G (d + 2) iX0_owed 164 [some (.ref 40), some (.int (nI l)), some (.int (nI m)), some (.int (nI (vpop m))), some (.int (nI b)), some (.int x), some (.int 12)] [] s2 post := by
        intro s2 x b hb hs2 hn2 he
        rcases hr with rfl | rfl | rfl | rfl | rfl | rfl
        all_goals
          refine VM.go [] ⟨_, e3 hs2, by decide, _, VM.at (vTl_at (p := 1) hT hrule (by decide) hs2 hn2 (fun s3 hs3 _ => ?_)), fun _ _ hh => hh⟩
          refine ⟨_, VM.at (vb_off hl hw (hB.ag hs3) ?_), fun _ _ hh => hh⟩
          have e := vmax0 (a := b) (b := voffS (kd l) (nu l) (vcl (T 1 (vnames c nu ye se n l 0)) 99)) (by omega) (by omega)
          rw [he] at e
          have := h s3 hs3
          rw [← e] at this
          exact this
      -- behind the loop
      have tail : ∀ (s2 : vM) (dv : Int32), vag vSc σ s2 → (∀ i, i < 6 → i ≠ 3 → s2.1 45 i = vnames c nu ye se n l 0 i) → VM G (d + 2) iX0_owed 47 [some (.ref 40), some (.int (nI l)), some (.int (nI m)), some (.int (nI (vpop m))), some (.int (nI (vdues T c n kd nu ye se l 12))), some (.int dv), some (.int 12)] [] s2 post := by
        intro s2 dv hs2 hn2
        have hs3 : vag vSc σ (vput s2 45 3 0) := hs2.put rfl
        have hn3 := vnames_3 (t := 0) hn2
        have hq := vowes_eq (T := T) (c := c) (n := n) (kd := kd) (nu := nu) (ye := ye) (se := se) (l := l) (by rw [hme]; exact hm0)
        rw [hme] at hq
        refine VM.go [137, 164] ⟨fun _ => ⟨nofun, 3, rfl, by decide, fun c4 => ?_, fun c4 => ?_⟩, fun c3 => absurd (by decide) c3⟩
        · show VM G (d + 2) iX0_owed 164 _ _ _ _
          rw [show (2 : Int32) = nI 2 from rfl, nIle (by omega) (by decide)] at c4
          rw [if_neg (by omega)] at hq
          exact last _ _ _ (by omega) hs3 hn3 hq.symm
        · rw [show (2 : Int32) = nI 2 from rfl, nIle (by omega) (by decide)] at c4
          rw [if_pos (by omega)] at hq
          show VM G (d + 2) iX0_owed 137 _ _ _ _
          have last' := last
          rcases hr with rfl | rfl | rfl | rfl | rfl | rfl
          all_goals
            refine VM.go [164] ⟨_, e3 hs3, by decide, _, VM.at (vTl_at (p := 2) hT hrule (by decide) hs3 hn3 (fun s4 hs4 hn4 => ?_)), fun _ _ hh => hh⟩
            refine ⟨_, VM.at (vb_extra hl hpop hw (hB.ag hs4) ?_), fun _ _ hh => hh⟩
            show VM G (d + 2) iX0_owed 164 [some (.ref 40), some (.int (nI l)), some (.int (nI m)), some (.int (nI (vpop m))), some (.int (nI (vdues T c n kd nu ye se l 12) + nI (vextraS (kd l) (vpop m) (vcl (T 2 (vnames c nu ye se n l 0)) 99)))), some (.int dv), some (.int 12)] [] s4 post
            rw [nI_add]
            exact last' _ _ _ (by omega) hs4 hn4 hq.symm
      have key : ∀ t, t ≤ 12 → ∀ (s2 : vM) (dv : Int32), vag vSc σ s2 → (∀ i, i < 6 → i ≠ 3 → s2.1 45 i = vnames c nu ye se n l 0 i) → (dv = -1 ∨ (nn = 0 → ∀ t, dv = nI (vdt T c n kd nu ye se l t))) →
          VM G (d + 2) iX0_owed 47 [some (.ref 40), some (.int (nI l)), some (.int (nI m)), some (.int (nI (vpop m))), some (.int (nI (vdues T c n kd nu ye se l t))), some (.int dv), some (.int (nI t))] [] s2 post := by
        refine vloop _ (fun s2 dv a b _ => tail s2 dv a b) ?_
        intro t ht ih s2 dv hs2 hn2 hdv
        have hnight := nI_night (m := m) (t := t) hm (by omega)
        have step : ∀ (s3 : vM), vag vSc σ s3 → (∀ i, i < 6 → i ≠ 3 → s3.1 45 i = vnames c nu ye se n l 0 i) → vnight m t → VM G (d + 2) iX0_owed 112 [some (.ref 40), some (.int (nI l)), some (.int (nI m)), some (.int (nI (vpop m))), some (.int (nI (vdues T c n kd nu ye se l t))), some (.int (nI (vdt T c n kd nu ye se l t))), some (.int (nI t))] [] s3 post := by
          intro s3 hs3 hn3 hnt
          refine VM.go [47] ?_
          have := ih s3 (nI (vdt T c n kd nu ye se l t)) hs3 hn3 (Or.inr (fun h0 t' => by subst h0; rw [vdt_same hT]))
          rw [show vdues T c n kd nu ye se l (t + 1) = vdues T c n kd nu ye se l t + vdt T c n kd nu ye se l t from by
            show vdues T c n kd nu ye se l t + (if vnight (vmask (se l) c) t then _ else 0) = _
            rw [if_pos (by rw [hme]; exact hnt)], ← nI_add, ← nI_1] at this
          exact this
        have due : ∀ (s3 : vM) (dv : Int32), vag vSc σ s3 → (∀ i, i < 6 → i ≠ 3 → s3.1 45 i = vnames c nu ye se n l 0 i) → vnight m t → VM G (d + 2) iX0_owed 80 [some (.ref 40), some (.int (nI l)), some (.int (nI m)), some (.int (nI (vpop m))), some (.int (nI (vdues T c n kd nu ye se l t))), some (.int dv), some (.int (nI t))] [] s3 post := by
          intro s3 dv hs3 hn3 hnt
          have hs4 : vag vSc σ (vput s3 45 3 (nI t)) := hs3.put rfl
          have hn4 := vnames_3 (t := t) hn3
          have step' := step
          rcases hr with rfl | rfl | rfl | rfl | rfl | rfl
          all_goals
            refine VM.go [112] ⟨nofun, 3, rfl, by decide, _, e3 hs4, by decide, _, VM.at (vTl_at (p := 0) hT hrule (by decide) hs4 hn4 (fun s5 hs5 hn5 => ?_)), fun _ _ hh => hh⟩
            refine ⟨_, VM.at (vb_due hl hpop hw (hB.ag hs5) ?_), fun _ _ hh => hh⟩
            have := step' s5 hs5 (fun i hi h3 => by
              rw [hn5 i hi]
              rcases (show i = 0 ∨ i = 1 ∨ i = 2 ∨ i = 4 ∨ i = 5 by omega) with rfl | rfl | rfl | rfl | rfl <;> rfl) hnt
            unfold vdt at this
            rw [hme] at this
            exact this
        refine VM.go [47, 64] ⟨fun c3 => absurd c3 (by rw [show (12 : Int32) = nI 12 from rfl, nIle (by omega) (by omega)]; omega), fun _ => ⟨fun c4 => ?_, fun c4 => ?_⟩⟩
        · rw [hnight] at c4
          have hnt : ¬ vnight m t := fun q => c4 (by rw [show m / 2 ^ t % 2 = 1 from q]; rfl)
          have := ih s2 dv hs2 hn2 hdv
          rw [show vdues T c n kd nu ye se l (t + 1) = vdues T c n kd nu ye se l t from by
            show vdues T c n kd nu ye se l t + (if vnight (vmask (se l) c) t then _ else 0) = _
            rw [if_neg (by rw [hme]; exact hnt)]; rfl, ← nI_1] at this
          exact this
        · rw [hnight, show (1 : Int32) = nI 1 from rfl, nI_eq (by omega) (by decide)] at c4
          show VM G (d + 2) iX0_owed 64 _ _ _ _
          have due' := due
          have step' := step
          rcases hr with rfl | rfl | rfl | rfl | rfl | rfl
          all_goals
            refine VM.go [80, 112] ⟨fun c5 => due' s2 dv hs2 hn2 c4, fun c5 => ⟨_, e3 hs2, by decide, fun c6 => ?_, fun c6 => due' s2 dv hs2 hn2 c4⟩⟩
            have hn0 : nn = 0 := by
              have e6 : σ.1 _ 0 = 0 := (hs2.get rfl).symm.trans c6
              rw [hnr, show (0 : Int32) = nI 0 from rfl, nI_eq (by omega) (by decide)] at e6
              exact e6
            rcases hdv with e | e
            · exact absurd e c5
            · have := step' s2 hs2 hn2 c4
              rw [← e hn0 t] at this
              exact this
      exact key 0 (Nat.zero_le _) σ1 (-1) hs1 (fun i hi _ => hn1 i hi) (Or.inl rfl)
    · have hm0 : m = 0 := by
        rw [show (0 : Int32) = nI 0 from rfl, nI_eq (by omega) (by decide)] at c2
        exact c2
      have hh := h σ vag.rf
      have e : vowes T c n kd nu ye se l = 0 := by unfold vowes; dsimp only; rw [hme, if_pos hm0]
      rw [e] at hh
      exact hh
  · rw [show (6 : Int32) = nI 6 from rfl, nIlt (by omega) (by decide)]; exact hl
end BM
end
section
/-! ===== the class's Rule: its code run on a stack ===== -/
def vjoin (t a b : Int32) : Int32 :=
  if t = 9 then (if a = 0 ∧ b = 0 then 0 else 1) else if t = 10 then (if a = 0 ∨ b = 0 then 0 else 1) else if t = 60 then (if a < b then 1 else 0) else if t = 61 then (if a = b then 1 else 0) else if t = 43 then a + b else if t = 45 then a - b else a * b
def vstep1 (nm : Nat → Int32) (c : Int32) (st : List Int32) : Option (List Int32) :=
  if -6 ≤ c then (if st.length < 40 then some ((if c < 0 then nm (-1 - c).toNatClampNeg else c) :: st) else none)
  else if c = -11 ∨ c = -12 then (match st with
    | x :: r => some ((if c = -12 then -x else if x = 0 then 1 else 0) :: r)
    | [] => none)
  else (match st with
    | y :: x :: r => some (vjoin (-c) x y :: r)
    | _ => none)
def vrunC (nm : Nat → Int32) : List Int32 → List Int32 → Option (List Int32)
  | [], st => some st
  | c :: l, st => match vstep1 nm c st with
    | some st' => vrunC nm l st'
    | none => none
def vTof (cs : Nat → List Int32) (p : Nat) (nm : Nat → Int32) : Int32 := match vrunC nm (cs p) [] with
  | some (x :: _) => x
  | _ => 0
/-- where part p of the code ends -/
def vend (cs : Nat → List Int32) : Nat → Nat
  | 0 => (cs 0).length
  | p + 1 => vend cs p + (cs (p + 1)).length
def vbeg (cs : Nat → List Int32) (p : Nat) : Nat := match p with
  | 0 => 0
  | p + 1 => vend cs p
/-- the rule at cell r holds the code cs -/
def vRu (r : Nat) (cs : Nat → List Int32) (σ : vM) : Prop := vend cs 2 ≤ 160 ∧ (∀ p, p < 3 → σ.1 (r + 2) p = nI (vend cs p)) ∧ ∀ p, p < 3 → ∀ k, k < (cs p).length → σ.1 (r + 1) (vbeg cs p + k) = (cs p).getD k 0
/-- every part tells a number -/
def vWf (cs : Nat → List Int32) : Prop := ∀ p, p < 3 → ∀ nm, ∃ x, vrunC nm (cs p) [] = some [x]
section TL
variable {G : vG} {d : Nat} {σ : vM} {post : vQ}
theorem vb_joined {t a b : Int32} (h : post (some (.int (vjoin t a b))) σ) : VM G d iX4_joined 0 [some (.int t), some (.int a), some (.int b)] [] σ post := by
  unfold vjoin at h
  refine VM.go [60, 74, 88, 99, 110, 114, 118] ⟨fun e => ?_, fun e => ⟨fun e1 => ?_, fun e1 => ⟨fun e2 => ?_, fun e2 => ⟨fun e3 => ?_, fun e3 => ⟨fun e4 => ?_, fun e4 => ⟨fun e5 => ?_, fun e5 => ?_⟩⟩⟩⟩⟩⟩
  · dsimp only at e
    subst e
    rw [if_pos rfl] at h
    refine VM.at (VM.go [] ⟨fun c1 => ?_, fun c1 => ⟨fun c2 => ?_, fun c2 => ?_⟩⟩)
    · rw [if_neg (fun q => c1 q.1)] at h; exact h
    · rw [if_pos ⟨c1, c2⟩] at h; exact h
    · rw [if_neg (fun q => c2 q.2)] at h; exact h
  · dsimp only at e1
    subst e1
    rw [if_neg (by decide), if_pos rfl] at h
    refine VM.at (VM.go [] ⟨fun c1 => ?_, fun c1 => ⟨fun c2 => ?_, fun c2 => ?_⟩⟩)
    · rw [if_pos (Or.inl c1)] at h; exact h
    · rw [if_pos (Or.inr c2)] at h; exact h
    · rw [if_neg (fun q => q.elim c1 c2)] at h; exact h
  · dsimp only at e2
    subst e2
    rw [if_neg (by decide), if_neg (by decide), if_neg (by decide), if_neg (by decide), if_pos rfl] at h
    exact VM.at (VM.go [] h)
  · dsimp only at e3
    subst e3
    rw [if_neg (by decide), if_neg (by decide), if_neg (by decide), if_neg (by decide), if_neg (by decide), if_pos rfl] at h
    exact VM.at (VM.go [] h)
  · dsimp only at e4
    subst e4
    rw [if_neg (by decide), if_neg (by decide), if_pos rfl] at h
    refine VM.at (VM.go [] ⟨fun c1 => ?_, fun c1 => ?_⟩)
    · rw [if_neg (Int32.not_lt.mpr c1)] at h; exact h
    · rw [if_pos (Int32.not_le.mp c1)] at h; exact h
  · dsimp only at e5
    subst e5
    rw [if_neg (by decide), if_neg (by decide), if_neg (by decide), if_pos rfl] at h
    refine VM.at (VM.go [] ⟨fun c1 => ?_, fun c1 => ?_⟩)
    · rw [if_neg c1] at h; exact h
    · rw [if_pos c1] at h; exact h
  · rw [if_neg e, if_neg e1, if_neg e4, if_neg e5, if_neg e2, if_neg e3] at h
    exact VM.at (VM.go [] h)
/-- a list laid in the stack's cell, its top first -/
def vstL' (s : vM) (st : List Int32) : Prop := ∀ k, k < st.length → s.1 46 (st.length - 1 - k) = st.getD k 0
theorem vstL'.push {s : vM} {st : List Int32} {x : Int32} (h : vstL' s st) : vstL' (vput s 46 st.length x) (x :: st) := by
  intro k hk
  cases k with
  | zero => rw [vput_get, if_pos ⟨rfl, by simp⟩]; rfl
  | succ k =>
    simp only [List.length_cons] at hk ⊢
    rw [vput_ne (Or.inr (by omega)), show st.length + 1 - 1 - (k + 1) = st.length - 1 - k by omega, h k (by omega)]
    rfl
theorem vstL'.top {s : vM} {st : List Int32} {x y : Int32} (h : vstL' s (y :: st)) : vstL' (vput s 46 st.length x) (x :: st) := by
  intro k hk
  cases k with
  | zero => rw [vput_get, if_pos ⟨rfl, by simp⟩]; rfl
  | succ k =>
    have := h (k + 1) (by simpa using hk)
    simp only [List.length_cons] at hk this ⊢
    rw [vput_ne (Or.inr (by omega)), this]
    rfl
theorem vstL'.at0 {s : vM} {st : List Int32} {x : Int32} (h : vstL' s (x :: st)) : s.1 46 st.length = x := by
  have := h 0 (by simp)
  simpa using this
theorem vstL'.at1 {s : vM} {st : List Int32} {x y : Int32} (h : vstL' s (y :: x :: st)) : s.1 46 st.length = x := by
  have := h 1 (by simp)
  simpa using this
theorem vstL'.pop {s : vM} {st : List Int32} {y : Int32} (h : vstL' s (y :: st)) : vstL' s st := by
  intro k hk
  have := h (k + 1) (by simpa using hk)
  simp only [List.length_cons] at this
  rw [show st.length - 1 - k = st.length + 1 - 1 - (k + 1) by omega, this]
  rfl
theorem nI_m1' (n : Nat) : nI (n + 1) - 1 = nI n := nI_pred n
theorem vname_ix {c : Int32} (h0 : c < 0) (h1 : -6 ≤ c) : ∃ j, j < 6 ∧ -1 - c = nI j ∧ (-1 - c).toNatClampNeg = j := by
  have e0 := Int32.lt_iff_toInt_lt.mp h0
  have e1 := Int32.le_iff_toInt_le.mp h1
  have e2 : (-6 : Int32).toInt = -6 := by decide
  have e3 : (0 : Int32).toInt = 0 := by decide
  have e4 : (-1 : Int32).toInt = -1 := by decide
  rw [e2] at e1
  rw [e3] at e0
  have e5 : (-1 - c).toInt = -1 - c.toInt := by
    rw [Int32.toInt_sub, e4]
    apply Int.bmod_eq_of_le <;> omega
  refine ⟨(-1 - c.toInt).toNat, by omega, ?_, ?_⟩
  · apply Int32.toInt_inj.mp
    rw [e5, nI_toInt (by omega)]
    omega
  · rw [Int32.toNatClampNeg, e5]
theorem vrunC_drop {nm : Nat → Int32} {l : List Int32} {i : Nat} {st : List Int32} (hi : i < l.length) : vrunC nm (l.drop i) st = match vstep1 nm (l.getD i 0) st with | some st' => vrunC nm (l.drop (i + 1)) st' | none => none := by
  rw [List.drop_eq_getElem_cons hi]
  rw [show l.getD i 0 = l[i] by simp [hi]]
  rfl
set_option maxHeartbeats 4000000 in
theorem vb_tell {r p : Nat} {cs : Nat → List Int32} (hr : vRc r) (hp : p < 3) (hR : vRu r cs σ) (hwf : vWf cs) (h : ∀ σ', vag vStk σ σ' → post (some (.int (vTof cs p (σ.1 45)))) σ') : VM G (d + 1) iX4_tell 0 [some (.ref r), some (.int (nI p)), some (.ref 45), some (.ref 46), none, none, none] [] σ post := by
  obtain ⟨hE, hends, hcode⟩ := hR
  have hle : ∀ q, q < 3 → vend cs q ≤ 160 := by
    intro q hq
    have e1 : vend cs 1 = vend cs 0 + (cs 1).length := rfl
    have e2 : vend cs 2 = vend cs 1 + (cs 2).length := rfl
    rcases (show q = 0 ∨ q = 1 ∨ q = 2 by omega) with rfl | rfl | rfl <;> omega
  have hbe : vend cs p = vbeg cs p + (cs p).length := by
    rcases (show p = 0 ∨ p = 1 ∨ p = 2 by omega) with rfl | rfl | rfl
    · exact (Nat.zero_add _).symm
    · rfl
    · rfl
  have hlp := hle p hp
  obtain ⟨x, hx⟩ := hwf p hp (σ.1 45)
  have hT : vTof cs p (σ.1 45) = x := by unfold vTof; rw [hx]
  rw [hT] at h
  obtain ⟨V, hV⟩ : ∃ V : Option Value, V = some (.ref r) := ⟨_, rfl⟩
  rcases hr with rfl | rfl | rfl | rfl | rfl | rfl
  all_goals
    simp only [Nat.reduceAdd] at hends hcode
    -- the loop: i codes are done, the stack holds st
    have key : ∀ i, i ≤ (cs p).length → ∀ (s2 : vM) (st : List Int32) (y : Option Value), vag vStk σ s2 → vstL' s2 st → st.length ≤ 40 → vrunC (σ.1 45) ((cs p).drop i) st = some [x] → VM G (d + 1) iX4_tell 36 [V, some (.int (nI p)), some (.ref 45), some (.ref 46), some (.int (nI st.length)), some (.int (nI (vbeg cs p + i))), y] [] s2 post := by
      refine vloop _ ?_ ?_
      · subst hV
        intro s2 st y hs2 hst hl40 hrun
        rw [List.drop_length] at hrun
        have hst1 : st = [x] := Option.some.inj hrun
        subst hst1
        refine VM.go [210] ⟨p, rfl, hp, fun _ => ?_, fun c1 => absurd ?_ c1⟩
        · refine VM.at (VM.go [] ⟨fun c2 => absurd c2 (show ¬ nI 1 ≤ 0 by decide), fun _ => ⟨0, show nI 1 - 1 = nI 0 by decide, by decide, ?_⟩⟩)
          have := h s2 hs2
          rw [← hst.at0] at this
          exact this
        · rw [hs2.get rfl, hends p hp, hbe]
          exact nI_le (Nat.le_refl _) (by omega)
      · intro i hi ih s2 st y hs2 hst hl40 hrun
        rw [vrunC_drop hi] at hrun
        have hlt : ¬ nI (vend cs p) ≤ nI (vbeg cs p + i) := by rw [nIle (by omega) (by omega)]; omega
        have hcv : s2.1 _ (vbeg cs p + i) = (cs p).getD i 0 := (hs2.get rfl).trans (hcode p hp i hi)
        have next : ∀ (s3 : vM) (st3 : List Int32) (y : Option Value), vag vStk σ s3 → vstL' s3 st3 → st3.length ≤ 40 → vrunC (σ.1 45) ((cs p).drop (i + 1)) st3 = some [x] → VM G (d + 1) iX4_tell 204 [V, some (.int (nI p)), some (.ref 45), some (.ref 46), some (.int (nI st3.length)), some (.int (nI (vbeg cs p + i))), y] [] s3 post := by
          intro s3 st3 y a b c' e
          have := ih s3 st3 y a b c' e
          rw [← Nat.add_assoc, ← nI_1] at this
          subst hV
          exact VM.go [36] this
        obtain ⟨V2, hV2⟩ : ∃ V2 : Option Value, V2 = V := ⟨V, rfl⟩
        subst hV
        refine VM.go [57] ⟨p, rfl, hp, fun c1 => absurd c1 ?_, fun _ => ⟨fun c2 => absurd c2 ?_, fun _ => ?_⟩⟩
        · rw [hs2.get rfl, hends p hp]; exact hlt
        · rw [nIle (by decide) (by omega)]; omega
        · show VM G (d + 1) iX4_tell 57 _ _ _ _
          refine VM.go [66] ⟨vbeg cs p + i, rfl, by omega, ?_⟩
          rw [hcv]
          generalize (cs p).getD i 0 = c at hrun ⊢
          refine VM.at (VM.go [74, 109] ⟨fun c3 => ?_, fun c3 => ?_⟩)
          · -- a sign
            have c4 : ¬ -6 ≤ c := Int32.not_le.mpr c3
            unfold vstep1 at hrun
            rw [if_neg c4] at hrun
            have one : (c = -11 ∨ c = -12) → VM G (d + 1) iX4_tell 123 [V2, some (.int (nI p)), some (.ref 45), some (.ref 46), some (.int (nI st.length)), some (.int (nI (vbeg cs p + i))), some (.int c)] [] s2 post := by
              intro hc
              subst hV2
              rw [if_pos hc] at hrun
              match st, hrun, hl40, hst with
              | [], hrun, _, _ => cases hrun
              | x1 :: st, hrun, hl40, hst =>
                simp only [List.length_cons] at hl40 ⊢
                have ix : nI (st.length + 1) - 1 = nI st.length := nI_pred _
                refine VM.go [204] ⟨fun _ => ⟨fun c7 => ⟨st.length, ix, by omega, ?_⟩, fun c7 => ⟨st.length, ix, by omega, ?_⟩⟩, fun c7 => absurd (show nI 1 ≤ _ from nI_le (by omega) (by omega)) c7⟩
                · dsimp only at hrun
                  rw [if_neg c7] at hrun
                  rw [hst.at0]
                  refine ⟨fun c8 => ⟨nofun, st.length, ix, by omega, ?_⟩, fun c8 => ⟨nofun, st.length, ix, by omega, ?_⟩⟩
                  · rw [if_neg c8] at hrun
                    have := next (vput s2 46 st.length 0) (0 :: st) (some (.int c)) (hs2.put rfl) hst.top (by simp; omega) hrun
                    exact this
                  · rw [if_pos c8] at hrun
                    have := next (vput s2 46 st.length 1) (1 :: st) (some (.int c)) (hs2.put rfl) hst.top (by simp; omega) hrun
                    exact this
                · dsimp only at hrun
                  rw [if_pos c7] at hrun
                  rw [hst.at0]
                  refine ⟨nofun, st.length, ix, by omega, ?_⟩
                  have := next (vput s2 46 st.length (-x1)) (-x1 :: st) (some (.int c)) (hs2.put rfl) hst.top (by simp; omega) hrun
                  exact this
            subst hV2
            refine VM.at (VM.go [123, 171] ⟨fun c5 => one (Or.inl c5), fun c5 => ⟨fun c6 => ?_, fun c6 => one (Or.inr c6)⟩⟩)
            rw [if_neg (fun q => q.elim c5 c6)] at hrun
            show VM G (d + 1) iX4_tell 171 _ _ _ _
            match st, hrun, hl40, hst with
            | [], hrun, _, _ => cases hrun
            | [_], hrun, _, _ => cases hrun
            | y1 :: x1 :: st, hrun, hl40, hst =>
              simp only [List.length_cons] at hl40 ⊢
              have ix1 : nI (st.length + 1 + 1) + -1 = nI (st.length + 1) := pk_m1 _
              have ix : nI (st.length + 1 + 1) + -1 - 1 = nI st.length := by rw [ix1]; exact nI_pred _
              refine VM.go [204] ⟨fun _ => ⟨st.length, ix, by omega, st.length + 1, ix1, by omega, _, VM.at (vb_joined ?_), fun _ _ hh => hh⟩, fun c7 => absurd (show nI 2 ≤ _ from nI_le (by omega) (by omega)) c7⟩
              rw [hst.at1, show s2.1 46 (st.length + 1) = y1 from hst.at0]
              refine ⟨nofun, st.length, ix, by omega, ?_⟩
              have := next (vput s2 46 st.length (vjoin (-c) x1 y1)) (vjoin (-c) x1 y1 :: st) (some (.int c)) (hs2.put rfl) hst.pop.top (by simp; omega) hrun
              rw [List.length_cons, ← ix1] at this
              exact this
          · -- a number or a name
            have c4 : -6 ≤ c := Int32.not_lt.mp c3
            unfold vstep1 at hrun
            rw [if_pos c4] at hrun
            by_cases h40 : st.length < 40
            · rw [if_pos h40] at hrun
              refine VM.at (VM.go [204] ⟨fun _ => ⟨fun c5 => ?_, fun c5 => ?_⟩, fun c5 => absurd ?_ c5⟩)
              · obtain ⟨j, hj, e1, e2⟩ := vname_ix c5 c4
                rw [if_pos c5, e2] at hrun
                refine ⟨j, e1, hj, nofun, st.length, rfl, h40, ?_⟩
                have := next (vput s2 46 st.length (s2.1 45 j)) (s2.1 45 j :: st) (some (.int c)) (hs2.put rfl) hst.push (by simp; omega) (by rw [hs2.get rfl]; exact hrun)
                rw [List.length_cons, ← nI_1] at this
                exact this
              · rw [if_neg c5] at hrun
                refine ⟨nofun, st.length, rfl, h40, ?_⟩
                have := next (vput s2 46 st.length c) (c :: st) (some (.int c)) (hs2.put rfl) hst.push (by simp; omega) hrun
                rw [List.length_cons, ← nI_1] at this
                exact this
              · exact nI_lt h40 (by omega)
            · rw [if_neg h40] at hrun
              cases hrun
    subst hV
    refine VM.go [36] ⟨fun c1 => absurd c1 (nI_pos (by omega)), fun _ => ⟨fun _ => ⟨fun c2 => ?_, fun c2 => ?_⟩, fun c2 => absurd ?_ c2⟩⟩
    · have hp0 : ¬ p = 0 := fun e => c2 (by rw [e]; rfl)
      obtain ⟨q, rfl⟩ : ∃ q, p = q + 1 := ⟨p - 1, by omega⟩
      refine ⟨q, nI_pred q, by omega, ?_⟩
      rw [hends q (by omega)]
      exact key 0 (Nat.zero_le _) σ [] none vag.rf (fun k hk => absurd hk (Nat.not_lt_zero _)) (by decide) (by rw [List.drop_zero]; exact hx)
    · have hp0 : p = 0 := by
        rw [show (0 : Int32) = nI 0 from rfl, nI_eq (by omega) (by decide)] at c2
        exact c2
      subst hp0
      exact key 0 (Nat.zero_le _) σ [] none vag.rf (fun k hk => absurd hk (Nat.not_lt_zero _)) (by decide) (by rw [List.drop_zero]; exact hx)
    · exact nI_lt hp (by decide)
theorem vb_vTl {r : Nat} {cs : Nat → List Int32} (hr : vRc r) (hR : vRu r cs σ) (hwf : vWf cs) : vTl G (d + 1) r (vTof cs) σ := by
  intro σ' p post hp hs h
  have hR' : vRu r cs σ' := by
    obtain ⟨h1, h2, h3⟩ := hR
    refine ⟨h1, fun p hp => ?_, fun p hp k hk => ?_⟩
    · rw [hs.get (by rcases hr with rfl | rfl | rfl | rfl | rfl | rfl <;> rfl)]; exact h2 p hp
    · rw [hs.get (by rcases hr with rfl | rfl | rfl | rfl | rfl | rfl <;> rfl)]; exact h3 p hp k hk
  exact vb_tell hr hp hR' hwf h
end TL
end
section
/-! ===== HOW A TEXT IS READ, as a function: next, token, value, place, fault, code ===== -/
abbrev vPS : Type := Nat × Int32 × Nat × Nat × Option Nat × List Int32
abbrev vpN (s : vPS) : Nat := s.1
abbrev vpT (s : vPS) : Int32 := s.2.1
abbrev vpV (s : vPS) : Nat := s.2.2.1
abbrev vpP (s : vPS) : Nat := s.2.2.2.1
abbrev vpF (s : vPS) : Option Nat := s.2.2.2.2.1
abbrev vpC (s : vPS) : List Int32 := s.2.2.2.2.2
/-- from i on as long as P holds of the bytes -/
def vspan (P : Nat → Bool) (b : List Nat) : Nat → Nat → Nat
  | 0, i => i
  | n + 1, i => match b[i]? with
    | some c => if P c then vspan P b n (i + 1) else i
    | none => i
def vblank (c : Nat) : Bool := Nat.beq c 32 || Nat.beq c 10
def vletter (c : Nat) : Bool := Nat.ble 97 c && Nat.ble c 122
def vdigit (c : Nat) : Bool := Nat.ble 48 c && Nat.ble c 57
def vsign (c : Nat) : Bool := Nat.beq c 40 || (Nat.beq c 41 || (Nat.beq c 59 || (Nat.beq c 43 || (Nat.beq c 45 || (Nat.beq c 42 || (Nat.beq c 60 || Nat.beq c 61))))))
/-- years nights number night cloudy lights dues offs extras or and not -/
def vwords : List (List Nat) := [[121, 101, 97, 114, 115], [110, 105, 103, 104, 116, 115], [110, 117, 109, 98, 101, 114], [110, 105, 103, 104, 116], [99, 108, 111, 117, 100, 121], [108, 105, 103, 104, 116, 115], [100, 117, 101, 115], [111, 102, 102, 115], [101, 120, 116, 114, 97, 115], [111, 114], [97, 110, 100], [110, 111, 116]]
def vwordIx (w : List Nat) : Nat := vwords.findIdx (fun v => decide (v = w))
def vnumV (l : List Nat) : Nat := l.foldl (fun v c => 10 * v + (c - 48)) 0
/-- token, value, place, next, from i on -/
def vlex (b : List Nat) (i : Nat) : Int32 × Nat × Nat × Nat :=
  let p := vspan vblank b b.length i
  match b[p]? with
  | none => (0, 0, p, p)
  | some c =>
    if vletter c then
      let j := vspan vletter b b.length p
      let w := vwordIx ((b.drop p).take (j - p))
      (if w < 6 then 2 else if w < 12 then nI w else -1, w, p, j)
    else if vdigit c then
      let j := vspan vdigit b b.length p
      (if 4 < j - p then -1 else 1, vnumV ((b.drop p).take (j - p)), p, j)
    else (if vsign c then nI c else -1, 0, p, p + 1)
def vpAdv (b : List Nat) (s : vPS) : vPS := match vpF s with
  | some _ => (vpN s, -1, vpV s, vpP s, vpF s, vpC s)
  | none => let x := vlex b (vpN s); (x.2.2.2, x.1, x.2.1, x.2.2.1, none, vpC s)
def vpFail (s : vPS) : vPS := (vpN s, -1, vpV s, vpP s, (match vpF s with | none => some (vpP s) | some f => some f), vpC s)
def vpExp (b : List Nat) (t : Int32) (s : vPS) : vPS := if vpT s = t then vpAdv b s else vpFail s
def vpAdd (c : Int32) (s : vPS) : vPS := (vpN s, vpT s, vpV s, vpP s, vpF s, if (vpC s).length < 160 then vpC s ++ [c] else vpC s)
def vpLoop (p : vPS → Bool) (f : vPS → vPS) : Nat → vPS → vPS
  | 0, s => s
  | n + 1, s => if p s then vpLoop p f n (f s) else s
/-- what is read with one more open: a ONE, an E, a NOT; none: no more may be open -/
abbrev vpLo : Type := Option ((vPS → vPS) × (vPS → vPS) × (vPS → vPS))
def vpOne (b : List Nat) (lo : vpLo) (s : vPS) : vPS :=
  if vpT s = 1 then vpAdv b (vpAdd (nI (vpV s)) s)
  else if vpT s = 2 then vpAdv b (vpAdd (-1 - nI (vpV s)) s)
  else if vpT s = 45 then (match lo with | none => vpFail s | some l => vpAdd (-12) (l.1 (vpAdv b s)))
  else if vpT s = 40 then (match lo with | none => vpFail s | some l => vpExp b 41 (l.2.1 (vpAdv b s)))
  else vpFail s
def vpTerm (b : List Nat) (lo : vpLo) (s : vPS) : vPS := vpLoop (fun s => decide (vpT s = 42)) (fun s => vpAdd (-42) (vpOne b lo (vpAdv b s))) 160 (vpOne b lo s)
def vpSum (b : List Nat) (lo : vpLo) (s : vPS) : vPS := vpLoop (fun s => decide (vpT s = 43) || decide (vpT s = 45)) (fun s => vpAdd (-(vpT s)) (vpTerm b lo (vpAdv b s))) 160 (vpTerm b lo s)
def vpNot (b : List Nat) (lo : vpLo) (s : vPS) : vPS :=
  if vpT s = 11 then (match lo with | none => vpFail s | some l => vpAdd (-11) (l.2.2 (vpAdv b s)))
  else
    let s1 := vpSum b lo s
    if vpT s1 = 60 ∨ vpT s1 = 61 then vpAdd (-(vpT s1)) (vpSum b lo (vpAdv b s1)) else s1
def vpBoth (b : List Nat) (lo : vpLo) (s : vPS) : vPS := vpLoop (fun s => decide (vpT s = 10)) (fun s => vpAdd (-10) (vpNot b lo (vpAdv b s))) 160 (vpNot b lo s)
def vpEither (b : List Nat) (lo : vpLo) (s : vPS) : vPS := vpLoop (fun s => decide (vpT s = 9)) (fun s => vpAdd (-9) (vpBoth b lo (vpAdv b s))) 160 (vpBoth b lo s)
/-- the readers with r more that may be open -/
def vpLev (b : List Nat) : Nat → vpLo
  | 0 => none
  | r + 1 => some (vpOne b (vpLev b r), vpEither b (vpLev b r), vpNot b (vpLev b r))
def vpPart (b : List Nat) (k : Nat) (s : vPS) : vPS := vpExp b 59 (vpEither b (vpLev b 5) (vpExp b (nI (6 + k)) s))
def vp0 (b : List Nat) : vPS := vpAdv b (0, 0, 0, 0, none, [])
def vp1 (b : List Nat) : vPS := vpPart b 0 (vp0 b)
def vp2 (b : List Nat) : vPS := vpPart b 1 (vp1 b)
def vp3 (b : List Nat) : vPS := vpPart b 2 (vp2 b)
def vpEnd (b : List Nat) : vPS := if vpT (vp3 b) = 0 then vp3 b else vpFail (vp3 b)
/-- where the text's fault is -/
def vfault (b : List Nat) : Option Nat := vpF (vpEnd b)
/-- the code of its parts -/
def vcomp (b : List Nat) (p : Nat) : List Int32 := match p with
  | 0 => vpC (vp1 b)
  | 1 => (vpC (vp2 b)).drop (vpC (vp1 b)).length
  | _ => (vpC (vp3 b)).drop (vpC (vp2 b)).length
/-- does it name the night -/
def vnn (b : List Nat) : Nat := if (-4 : Int32) ∈ vpC (vp3 b) then 1 else 0
theorem vp_try : (List.range 3).map (vcomp [100, 117, 101, 115, 32, 121, 101, 97, 114, 115, 32, 59, 32, 111, 102, 102, 115, 32, 48, 32, 59, 32, 101, 120, 116, 114, 97, 115, 32, 51, 32, 59]) = [[-1], [0], [3]] := by decide +kernel
end
section
theorem vbq {a b : Nat} : (Nat.beq a b = true) = (a = b) := propext ⟨Nat.eq_of_beq_eq_true, fun e => by subst e; exact Nat.beq_refl a⟩
/-! ===== THE ABSTRACT STATE: numbers by the class's own cells, items of sheets, texts as bytes ===== -/
abbrev vα : Type := (Nat → Nat → Nat) × (Nat → Nat → Int32) × (Nat → List Nat)
def vaput (a : vα) (c k v : Nat) : vα := (fun c' k' => if c' = c ∧ k' = k then v else a.1 c' k', a.2)
theorem vaput_get (a : vα) (c k v c' k' : Nat) : (vaput a c k v).1 c' k' = if c' = c ∧ k' = k then v else a.1 c' k' := rfl
theorem vaput_ne {a : vα} {c k v c' k' : Nat} (h : c' ≠ c ∨ k' ≠ k) : (vaput a c k v).1 c' k' = a.1 c' k' := if_neg (fun q => h.elim (fun h => h q.1) (fun h => h q.2))
/-- the places that hold plain numbers: clouds, rule, how many lights; kinds .. many; the same kept; the image's flag; how many texts; the tape; sheets' sizes -/
def vps (c k : Nat) : Bool := (Nat.ble 2 c && Nat.ble c 9) || (Nat.beq c 1 && Nat.ble k 2) || (Nat.ble 11 c && Nat.ble c 18) || (Nat.beq c 10 && Nat.ble k 2) || (Nat.beq c 0 && (Nat.beq k 2 || Nat.beq k 4)) || (Nat.beq c 38 && Nat.beq k 0) || Nat.beq c 39 || (Nat.beq k 1 && (Nat.beq c 50 || (Nat.beq c 52 || (Nat.beq c 54 || Nat.beq c 56))))
/-- the class holds a -/
def vRC (a : vα) (σ : vM) : Prop :=
  (∀ c k, vps c k = true → σ.1 c k = nI (a.1 c k)) ∧ (∀ s, s < 4 → σ.1 (50 + 2 * s) 0 = nI (a.1 (50 + 2 * s) 0) - 1) ∧ (∀ s k, s < 4 → k < a.1 (50 + 2 * s) 1 → σ.1 (51 + 2 * s) k = a.2.1 s k) ∧
  ∀ t, t < a.1 0 4 → vRu (20 + 3 * t) (vcomp (a.2.2 t)) σ ∧ σ.1 (20 + 3 * t) 0 = nI (vnn (a.2.2 t))
/-- in range; paid is bounded apart -/
def vWF (a : vα) : Prop :=
  (a.1 1 0 < 4096 ∧ a.1 1 1 < a.1 0 4 ∧ a.1 1 2 ≤ 6) ∧ (1 ≤ a.1 0 4 ∧ a.1 0 4 ≤ 6) ∧ (∀ k, k < 6 → a.1 2 k < 6 ∧ a.1 3 k ≤ 9 ∧ a.1 4 k ≤ 999) ∧ (∀ k, k < 30 → a.1 5 k < 4096) ∧ (∀ k, k < 5 → a.1 6 k ≤ 99 ∧ a.1 7 k ≤ 900000) ∧ (∀ k, k < 4 → 1 ≤ a.1 8 k ∧ a.1 8 k ≤ 99 ∧ a.1 9 k ≤ 20) ∧
  (a.1 38 0 ≤ 160 ∧ ∀ k, k < 160 → a.1 39 k < 256) ∧ (∀ s, s < 4 → a.1 (50 + 2 * s) 0 ≤ 3 ∧ a.1 (50 + 2 * s) 1 ≤ 40 ∧ (a.1 (50 + 2 * s) 0 = 0 → a.1 (50 + 2 * s) 1 = 0)) ∧
  (∀ t, t < a.1 0 4 → vWf (vcomp (a.2.2 t)) ∧ vTok (vTof (vcomp (a.2.2 t))) (vnn (a.2.2 t)) ∧ (a.2.2 t).length ≤ 160 ∧ ∀ x ∈ a.2.2 t, x < 256) ∧
  (a.1 0 2 ≤ 1 ∧ (a.1 0 2 = 1 → (a.1 10 0 < 4096 ∧ a.1 10 1 < a.1 0 4 ∧ a.1 10 2 ≤ a.1 1 2) ∧ (∀ k, k < 6 → a.1 11 k < 6 ∧ a.1 12 k ≤ 9 ∧ a.1 13 k ≤ 999) ∧ (∀ k, k < 30 → a.1 14 k < 4096) ∧ (∀ k, k < 5 → a.1 15 k ≤ 99 ∧ a.1 16 k ≤ 900000) ∧ (∀ k, k < 4 → 1 ≤ a.1 17 k ∧ a.1 17 k ≤ 99 ∧ a.1 18 k ≤ 20) ∧ ∀ k, k < a.1 10 2 → a.1 11 k = a.1 2 k))
/-- the class's scratch: the bill, the purse, the reader's own -/
def vCs (c k : Nat) : Bool := (Nat.ble 40 c && Nat.ble c 48) || (Nat.beq c 38 && Nat.ble 1 k)
theorem vCs_ps {c k : Nat} (h : vps c k = true) : vCs c k = false := by
  cases hb : vCs c k with
  | false => rfl
  | true =>
    exfalso
    simp only [vCs, vps, Bool.or_eq_true, Bool.and_eq_true, Nat.ble_eq, vbq] at hb h
    omega
theorem vCs_ge {c k : Nat} (h : c < 38 ∨ 49 ≤ c) : vCs c k = false := by
  cases hb : vCs c k with
  | false => rfl
  | true =>
    exfalso
    simp only [vCs, Bool.or_eq_true, Bool.and_eq_true, Nat.ble_eq, vbq] at hb
    omega
theorem vRu.ag {r : Nat} {cs : Nat → List Int32} {σ σ' : vM} (h : vRu r cs σ) (h1 : ∀ k, σ'.1 (r + 1) k = σ.1 (r + 1) k) (h2 : ∀ k, σ'.1 (r + 2) k = σ.1 (r + 2) k) : vRu r cs σ' := ⟨h.1, fun p hp => by rw [h2]; exact h.2.1 p hp, fun p hp k hk => by rw [h1]; exact h.2.2 p hp k hk⟩
theorem vRC.ag {a : vα} {σ σ' : vM} (h : vRC a σ) (hs : vag vCs σ σ') (hWF : a.1 0 4 ≤ 6) : vRC a σ' := by
  obtain ⟨h1, h2, h3, h4⟩ := h
  refine ⟨fun c k hk => by rw [hs.get (vCs_ps hk)]; exact h1 c k hk, fun s hs' => by rw [hs.get (vCs_ge (by omega))]; exact h2 s hs', fun s k hs' hk => by rw [hs.get (vCs_ge (by omega))]; exact h3 s k hs' hk, fun t ht => ?_⟩
  exact ⟨(h4 t ht).1.ag (fun k => hs.get (vCs_ge (by omega))) (fun k => hs.get (vCs_ge (by omega))), by rw [hs.get (vCs_ge (by omega))]; exact (h4 t ht).2⟩
theorem vRC.num {a : vα} {σ : vM} (h : vRC a σ) (c k : Nat) (hk : vps c k = true) : σ.1 c k = nI (a.1 c k) := h.1 c k hk
/-- what one owes for a light, of a, with the clouds c and the rule of text t -/
def vowA (a : vα) (c t p l : Nat) : Nat := vowes (vTof (vcomp (a.2.2 t))) c (a.1 1 2) (a.1 2) (a.1 3) (a.1 4) (fun l => a.1 5 (6 * p + l)) l
/-- together, without what is paid -/
def vsumA (a : vα) (c t p : Nat) : Nat := vsumN (a.1 1 2) (fun l => vowA a c t p l)
/-- the bill's cells -/
def vBi (c _k : Nat) : Bool := Nat.ble 40 c && Nat.ble c 46
theorem vBi_Cs (c k : Nat) (h : vCs c k = false) : vBi c k = false := by
  cases hb : vBi c k with
  | false => rfl
  | true =>
    exfalso
    have e : vCs c k = true := by
      simp only [vCs, vBi, Bool.or_eq_true, Bool.and_eq_true, Nat.ble_eq, vbq] at hb ⊢
      omega
    rw [e] at h
    cases h
theorem vSc_Bi (c k : Nat) (h : vBi c k = false) : vSc c k = false := by
  cases hb : vSc c k with
  | false => rfl
  | true =>
    exfalso
    have e : vBi c k = true := by
      simp only [vSc, vBi, Bool.or_eq_true, Bool.and_eq_true, Nat.ble_eq, vbq] at hb ⊢
      omega
    rw [e] at h
    cases h
section AB
variable {G : vG} {d : Nat} {σ : vM} {post : vQ} {a : vα}
theorem vb_isLooker {v : Int32} (h1 : ∀ p, p < 5 → v = nI p → post (some (.int 1)) σ) (h0 : (∀ p, p < 5 → ¬ v = nI p) → post (some (.int 0)) σ) : VM G d iX6_isLooker 0 [some (.int v)] [] σ post := by
  refine VM.go [] ⟨fun c1 => ⟨Or.inl rfl, h0 (fun p hp e => ?_)⟩, fun c1 => ⟨fun c2 => ⟨Or.inl rfl, h0 (fun p hp e => ?_)⟩, fun c2 => ⟨Or.inr rfl, ?_⟩⟩⟩
  · subst e; exact nI_pos (by omega) c1
  · subst e; exact nI_ge hp (by decide) c2
  · obtain ⟨j, hj, rfl⟩ := nI_of c1
    rw [show (5 : Int32) = nI 5 from rfl, nIle (by decide) hj] at c2
    exact h1 j (by omega) rfl
theorem vb_isSheet {v : Int32} (h1 : ∀ p, p < 4 → v = nI p → post (some (.int 1)) σ) (h0 : (∀ p, p < 4 → ¬ v = nI p) → post (some (.int 0)) σ) : VM G d iX6_isSheet 0 [some (.int v)] [] σ post := by
  refine VM.go [] ⟨fun c1 => ⟨Or.inl rfl, h0 (fun p hp e => ?_)⟩, fun c1 => ⟨fun c2 => ⟨Or.inl rfl, h0 (fun p hp e => ?_)⟩, fun c2 => ⟨Or.inr rfl, ?_⟩⟩⟩
  · subst e; exact nI_pos (by omega) c1
  · subst e; exact nI_ge hp (by decide) c2
  · obtain ⟨j, hj, rfl⟩ := nI_of c1
    rw [show (4 : Int32) = nI 4 from rfl, nIle (by decide) hj] at c2
    exact h1 j (by omega) rfl
theorem vb_isLight {v : Int32} (hC : vRC a σ) (hW : vWF a) (h1 : ∀ p, p < a.1 1 2 → v = nI p → post (some (.int 1)) σ) (h0 : (∀ p, p < a.1 1 2 → ¬ v = nI p) → post (some (.int 0)) σ) : VM G d iX6_isLight 0 [some (.ref 0), some (.int v)] [] σ post := by
  have hn := hC.num 1 2 rfl
  have hn6 := hW.1.2.2
  refine VM.go [] ⟨fun c1 => ⟨Or.inl rfl, h0 (fun p hp e => ?_)⟩, fun c1 => ⟨fun c2 => ⟨Or.inl rfl, h0 (fun p hp e => ?_)⟩, fun c2 => ⟨fun c3 => ⟨Or.inl rfl, h0 (fun p hp e => ?_)⟩, fun c3 => ⟨Or.inr rfl, ?_⟩⟩⟩⟩
  · subst e; exact nI_pos (by omega) c1
  · subst e; rw [hn] at c2; exact nI_ge hp (by omega) c2
  · subst e; exact nI_ge (show p < 6 by omega) (by decide) c3
  · obtain ⟨j, hj, rfl⟩ := nI_of c1
    rw [hn, nIle (by omega) hj] at c2
    exact h1 j (by omega) rfl
theorem vb_ruleOf {t : Nat} (ht : t < 6) (h : post (some (.ref (20 + 3 * t))) σ) : VM G d iX6_ruleOf 0 [some (.ref 0), some (.int (nI t))] [] σ post := by
  refine VM.go [] ⟨fun c1 => absurd c1 (nI_pos (by omega)), fun c1 => ⟨fun c2 => absurd c2 (nI_ge ht (by decide)), fun c2 => ⟨t, rfl, ht, ?_⟩⟩⟩
  rcases (show t = 0 ∨ t = 1 ∨ t = 2 ∨ t = 3 ∨ t = 4 ∨ t = 5 by omega) with rfl | rfl | rfl | rfl | rfl | rfl <;> exact h
end AB
end
section
/-! ===== the bill laid open ===== -/
/-- the bill is open, by a rule of the code cs -/
def vBR (cs : Nat → List Int32) (c n r : Nat) (kd nu ye se : Nat → Nat) (σ : vM) : Prop := vRc r ∧ vRu r cs σ ∧ vWf cs ∧ (∃ nn, nn ≤ 1 ∧ vTok (vTof cs) nn ∧ σ.1 r 0 = nI nn) ∧ vBw c n r kd nu ye se ∧ vBl c n r kd nu ye se σ
theorem vRc_sc {r : Nat} (h : vRc r) (i k : Nat) (hi : i ≤ 2) : vSc (r + i) k = false := by
  unfold vRc at h
  cases hb : vSc (r + i) k with
  | false => rfl
  | true => exfalso; simp only [vSc, Bool.or_eq_true, vbq] at hb; omega
theorem vRc_bi {r : Nat} (h : vRc r) (i k : Nat) (hi : i ≤ 2) : vBi (r + i) k = false := by
  unfold vRc at h
  cases hb : vBi (r + i) k with
  | false => rfl
  | true => exfalso; simp only [vBi, Bool.and_eq_true, Nat.ble_eq] at hb; omega
theorem vBR.ag {cs : Nat → List Int32} {c n r : Nat} {kd nu ye se : Nat → Nat} {σ σ' : vM} (h : vBR cs c n r kd nu ye se σ) (hs : vag vSc σ σ') : vBR cs c n r kd nu ye se σ' := by
  obtain ⟨h1, h2, h3, ⟨nn, h4, h5, h6⟩, h7, h8⟩ := h
  exact ⟨h1, h2.ag (fun k => hs.get (vRc_sc h1 1 k (by decide))) (fun k => hs.get (vRc_sc h1 2 k (by decide))), h3, ⟨nn, h4, h5, (hs.get (vRc_sc h1 0 0 (by decide))).trans h6⟩, h7, h8.ag hs⟩
/-- another bill, the same rule -/
theorem vBR.to {cs : Nat → List Int32} {c n r c' n' : Nat} {kd nu ye se kd' nu' ye' se' : Nat → Nat} {σ σ' : vM} (h : vBR cs c n r kd nu ye se σ) (hs : vag vBi σ σ') (hw : vBw c' n' r kd' nu' ye' se') (hb : vBl c' n' r kd' nu' ye' se' σ') : vBR cs c' n' r kd' nu' ye' se' σ' := by
  obtain ⟨h1, h2, h3, ⟨nn, h4, h5, h6⟩, h7, h8⟩ := h
  exact ⟨h1, h2.ag (fun k => hs.get (vRc_bi h1 1 k (by decide))) (fun k => hs.get (vRc_bi h1 2 k (by decide))), h3, ⟨nn, h4, h5, (hs.get (vRc_bi h1 0 0 (by decide))).trans h6⟩, hw, hb⟩
theorem vowes_le {T : Nat → (Nat → Int32) → Int32} {c n : Nat} {kd nu ye se : Nat → Nat} {l : Nat} : vowes T c n kd nu ye se l ≤ 12987 := by
  by_cases hm : vmask (se l) c = 0
  · unfold vowes; dsimp only; rw [if_pos hm]; omega
  · rw [vowes_eq hm]
    have h1 := vdues_le (T := T) (c := c) (n := n) (kd := kd) (nu := nu) (ye := ye) (se := se) (l := l) (t := 12)
    have h2 := vextraS_le (kd l) (vpop (vmask (se l) c)) (vcl (T 2 (vnames c nu ye se n l 0)) 99)
    split <;> omega
section OP
variable {G : vG} {d : Nat} {σ : vM} {post : vQ} {a : vα} {cs : Nat → List Int32} {c n r : Nat} {kd nu ye se : Nat → Nat}
theorem vb_owedR {l : Nat} (hl : l < 6) (hB : vBR cs c n r kd nu ye se σ) (h : ∀ σ', vag vSc σ σ' → post (some (.int (nI (vowes (vTof cs) c n kd nu ye se l)))) σ') : VM G (d + 2) iX0_owed 0 [some (.ref 40), some (.int (nI l)), none, none, none, none, none] [] σ post := by
  obtain ⟨h1, h2, h3, ⟨nn, h4, h5, h6⟩, h7, h8⟩ := hB
  exact vb_owed h5 h4 h6 h1 hl h7 h8 (vb_vTl h1 h2 h3) h
theorem vb_sum (hB : vBR cs c n r kd nu ye se σ) (h : ∀ σ', vag vSc σ σ' → post (some (.int (nI (vsumN n (vowes (vTof cs) c n kd nu ye se))))) σ') : VM G (d + 3) iX0_sum 0 [some (.ref 40), none, none] [] σ post := by
  have hn6 := hB.2.2.2.2.1.2.1
  have hn := hB.2.2.2.2.2.2.1
  have key : ∀ i, i ≤ n → ∀ s2, vag vSc σ s2 → VM G (d + 3) iX0_sum 4 [some (.ref 40), some (.int (nI (vsumN i (vowes (vTof cs) c n kd nu ye se)))), some (.int (nI i))] [] s2 post := by
    refine vloop _ ?_ ?_
    · intro s2 hs2
      refine VM.go [4] ⟨fun _ => h s2 hs2, fun c1 => absurd ?_ c1⟩
      rw [hs2.get rfl, hn]; exact nI_le (Nat.le_refl _) (by omega)
    · intro i hi ih s2 hs2
      refine VM.go [4] ⟨fun c1 => absurd c1 (by rw [hs2.get rfl, hn]; exact nI_ge hi (by omega)), fun _ => ⟨_, VM.at (vb_owedR (l := i) (by omega) (hB.ag hs2) (fun s3 hs3 => ?_)), fun _ _ hh => hh⟩⟩
      have := ih s3 (hs2.tr hs3)
      rw [show vsumN (i + 1) (vowes (vTof cs) c n kd nu ye se) = vsumN i (vowes (vTof cs) c n kd nu ye se) + vowes (vTof cs) c n kd nu ye se i from rfl, ← nI_add, ← nI_1] at this
      exact this
  exact VM.go [4] (key 0 (Nat.zero_le _) σ vag.rf)
/-- Bill.open -/
theorem vb_open {p t : Nat} (hp : p < 5) (ht : t < 6) (hC : vRC a σ) (hW : vWF a) (h : ∀ σ', vag vBi σ σ' → vBl (a.1 1 0) (a.1 1 2) (20 + 3 * t) (a.1 2) (a.1 3) (a.1 4) (fun l => a.1 5 (6 * p + l)) σ' → post none σ') : VM G (d + 1) iX0_open 0 [some (.ref 40), some (.ref 1), some (.int (nI p)), some (.ref (20 + 3 * t)), none, none] [] σ post := by
  have hn6 := hW.1.2.2
  have hnum := fun c k hk => hC.num c k hk
  have key : ∀ i, i ≤ 6 → ∀ (s2 : vM) (y : Option Value), vag vBi σ s2 → s2.1 40 0 = nI (a.1 1 0) → s2.1 40 6 = nI (a.1 1 2) → s2.1 40 1 = nI (20 + 3 * t) → (∀ k, k < i → s2.1 41 k = nI (a.1 2 k) ∧ s2.1 42 k = nI (a.1 3 k) ∧ s2.1 43 k = nI (a.1 4 k) ∧ s2.1 44 k = nI (a.1 5 (6 * p + k))) → VM G (d + 1) iX0_open 29 [some (.ref 40), some (.ref 1), some (.int (nI p)), some (.ref (20 + 3 * t)), some (.int (nI i)), y] [] s2 post := by
    refine vloop _ ?_ ?_
    · intro s2 y hs2 h0 h6 h1 hk
      exact VM.go [29] ⟨fun _ => h s2 hs2 ⟨h0, h6, h1, fun k hk' => (hk k hk').1, fun k hk' => (hk k hk').2.1, fun k hk' => (hk k hk').2.2.1, fun k hk' => (hk k hk').2.2.2⟩, fun c1 => absurd (by decide) c1⟩
    · intro i hi ih s2 y hs2 h0 h6 h1 hk
      have e1 : s2.1 2 i = nI (a.1 2 i) := (hs2.get rfl).trans (hnum 2 i rfl)
      have e2 : s2.1 3 i = nI (a.1 3 i) := (hs2.get rfl).trans (hnum 3 i rfl)
      have e3 : s2.1 4 i = nI (a.1 4 i) := (hs2.get rfl).trans (hnum 4 i rfl)
      have e4 : s2.1 5 (6 * p + i) = nI (a.1 5 (6 * p + i)) := (hs2.get rfl).trans (hnum 5 _ rfl)
      have ix : nI p * 6 + nI i = nI (6 * p + i) := by
        rw [show (6 : Int32) = nI 6 from rfl, pk_mul, nI_add, Nat.mul_comm]
      refine VM.go [29] ⟨fun c1 => absurd c1 (nI_ge hi (by decide)), fun _ => ⟨i, rfl, hi, nofun, i, rfl, hi, i, rfl, hi, nofun, i, rfl, hi, i, rfl, hi, nofun, i, rfl, hi, ?_⟩⟩
      refine ⟨fun c1 => absurd c1 (by rw [ix]; exact nI_pos (by omega)), fun _ => ⟨fun c2 => absurd c2 (by rw [ix]; exact nI_ge (show 6 * p + i < 30 by omega) (by decide)), fun _ => ⟨6 * p + i, ix, by omega, nofun, i, rfl, hi, ?_⟩⟩⟩
      have := ih (vput (vput (vput (vput s2 41 i (s2.1 2 i)) 42 i (s2.1 3 i)) 43 i (s2.1 4 i)) 44 i (s2.1 5 (6 * p + i))) (some (.int (nI p * 6 + nI i))) ((((hs2.put rfl).put rfl).put rfl).put rfl) h0 h6 h1 (fun k hk' => ?_)
      · rw [← nI_1] at this
        exact this
      · by_cases e : k = i
        · subst e
          simp only [vput_get, true_and, and_true, if_true]
          refine ⟨?_, ?_, ?_, ?_⟩ <;> first | exact e1 | exact e2 | exact e3 | exact e4
        · have hk2 := hk k (by omega)
          refine ⟨?_, ?_, ?_, ?_⟩
          · rw [vput_ne (Or.inr e), vput_ne (Or.inr e), vput_ne (Or.inr e), vput_ne (Or.inr e)]; exact hk2.1
          · rw [vput_ne (Or.inr e), vput_ne (Or.inr e), vput_ne (Or.inr e), vput_ne (Or.inr e)]; exact hk2.2.1
          · rw [vput_ne (Or.inr e), vput_ne (Or.inr e), vput_ne (Or.inr e), vput_ne (Or.inr e)]; exact hk2.2.2.1
          · rw [vput_ne (Or.inr e), vput_ne (Or.inr e), vput_ne (Or.inr e), vput_ne (Or.inr e)]; exact hk2.2.2.2
  have g1 := hnum 1 0 rfl
  have g2 := hnum 1 2 rfl
  rcases (show t = 0 ∨ t = 1 ∨ t = 2 ∨ t = 3 ∨ t = 4 ∨ t = 5 by omega) with rfl | rfl | rfl | rfl | rfl | rfl
  all_goals
    refine VM.go [29] (key 0 (by decide) _ none (((vag.rf.put rfl).put rfl).put rfl) ?_ ?_ rfl (fun k hk => absurd hk (Nat.not_lt_zero _)))
    · exact g1
    · show (if (6 : Int32) < σ.1 1 2 then (6 : Int32) else σ.1 1 2) = _
      rw [g2, if_neg (by rw [show (6 : Int32) = nI 6 from rfl, nIlt (by decide) (by omega)]; omega)]
end OP
end
section
/-! ===== ALL of one, of all; who owes most ===== -/
/-- a bill of looker p, as it is laid -/
abbrev vBA (a : vα) (t p c : Nat) (σ : vM) : Prop := vBR (vcomp (a.2.2 t)) c (a.1 1 2) (20 + 3 * t) (a.1 2) (a.1 3) (a.1 4) (fun l => a.1 5 (6 * p + l)) σ
def vallA (a : vα) (c p : Nat) : Nat := vsumA a c (a.1 1 1) p - a.1 7 p
def vtogA (a : vα) (c : Nat) : Nat := vsumN 5 (fun p => vallA a c p)
theorem vWF.bw {a : vα} (hW : vWF a) {c p t : Nat} (hc : c < 4096) (hp : p < 5) (ht : t < 6) : vBw c (a.1 1 2) (20 + 3 * t) (a.1 2) (a.1 3) (a.1 4) (fun l => a.1 5 (6 * p + l)) := by
  obtain ⟨⟨h1, h2, h3⟩, h4, h5, h6, -⟩ := hW
  exact ⟨hc, h3, by omega, fun k hk => (h5 k hk).1, fun k hk => (h5 k hk).2.1, fun k hk => (h5 k hk).2.2, fun k hk => h6 _ (by omega)⟩
theorem vRc_of {t : Nat} (ht : t < 6) : vRc (20 + 3 * t) := by unfold vRc; omega
theorem vRC.bill {a : vα} {σ σ' : vM} (hC : vRC a σ) (hW : vWF a) {t p c : Nat} (ht : t < a.1 0 4) (hp : p < 5) (hc : c < 4096) (hs : vag vBi σ σ') (hB : vBl c (a.1 1 2) (20 + 3 * t) (a.1 2) (a.1 3) (a.1 4) (fun l => a.1 5 (6 * p + l)) σ') : vBA a t p c σ' := by
  have ht6 : t < 6 := by have := hW.2.1.2; omega
  obtain ⟨r1, r2⟩ := hC.2.2.2 t ht
  obtain ⟨w1, w2, -⟩ := hW.2.2.2.2.2.2.2.2.1 t ht
  have hr := vRc_of ht6
  exact ⟨hr, r1.ag (fun k => hs.get (vRc_bi hr 1 k (by decide))) (fun k => hs.get (vRc_bi hr 2 k (by decide))), w1, ⟨vnn (a.2.2 t), by unfold vnn; split <;> omega, w2, (hs.get (vRc_bi hr 0 0 (by decide))).trans r2⟩, hW.bw hc hp ht6, hB⟩
theorem vsumA_le {a : vα} {c t p : Nat} (hn : a.1 1 2 ≤ 6) : vsumA a c t p ≤ 77922 := by
  have h1 := vsumN_le (n := a.1 1 2) (f := fun l => vowA a c t p l) (b := 12987) (fun i _ => vowes_le)
  have h2 : a.1 1 2 * 12987 ≤ 6 * 12987 := Nat.mul_le_mul_right _ hn
  exact Nat.le_trans h1 h2
section AL
variable {G : vG} {d : Nat} {σ : vM} {post : vQ} {a : vα}
theorem vb_openBill {p : Nat} (hp : p < 5) (hC : vRC a σ) (hW : vWF a) (h : ∀ σ', vag vBi σ σ' → vBA a (a.1 1 1) p (a.1 1 0) σ' → post none σ') : VM G (d + 2) iX6_openBill 0 [some (.ref 0), some (.int (nI p))] [] σ post := by
  have hr := hC.num 1 1 rfl
  have ht : a.1 1 1 < a.1 0 4 := hW.1.2.1
  have ht6 : a.1 1 1 < 6 := by have := hW.2.1.2; omega
  have key : ∀ t, t = a.1 1 1 → VM G (d + 2) iX6_openBill 20 [some (.ref 0), some (.int (nI p))] [.ref (20 + 3 * t), .int (nI p), .ref 1, .ref 40] σ post := by
    intro t e
    have h' : ∀ σ', vag vBi σ σ' → vBl (a.1 1 0) (a.1 1 2) (20 + 3 * t) (a.1 2) (a.1 3) (a.1 4) (fun l => a.1 5 (6 * p + l)) σ' → post none σ' := fun σ' hs hB => h σ' hs (hC.bill hW ht hp hW.1.1 hs (by rw [← e]; exact hB))
    rcases (show t = 0 ∨ t = 1 ∨ t = 2 ∨ t = 3 ∨ t = 4 ∨ t = 5 by omega) with rfl | rfl | rfl | rfl | rfl | rfl
    all_goals exact VM.go [] ⟨_, VM.at (vb_open hp (by decide) hC hW (by exact h')), fun _ _ hh => hh⟩
  refine VM.go [17] ?_
  show VM G (d + 2) iX6_openBill 17 _ _ _ _
  rw [hr]
  refine VM.go [20] ⟨_, VM.at (vb_ruleOf ht6 ?_), fun _ _ hh => hh⟩
  exact key _ rfl
theorem vb_sumA {t p c : Nat} (hB : vBA a t p c σ) (h : ∀ σ', vag vSc σ σ' → post (some (.int (nI (vsumA a c t p)))) σ') : VM G (d + 3) iX0_sum 0 [some (.ref 40), none, none] [] σ post := vb_sum hB h
theorem vBA.cl {t p c c' : Nat} (hB : vBA a t p c σ) (hc : c' < 4096) : vBA a t p c' (vput σ 40 0 (nI c')) := by
  obtain ⟨w1, w2, w3, w4, w5, w6, w7⟩ := hB.2.2.2.2.1
  obtain ⟨g1, g2, g3, g4, g5, g6, g7⟩ := hB.2.2.2.2.2
  exact hB.to (vag.rf.put rfl) ⟨hc, w2, w3, w4, w5, w6, w7⟩ ⟨rfl, g2, g3, g4, g5, g6, g7⟩
theorem vb_allOf {p c : Nat} (hp : p < 5) (hc : c < 4096) (hC : vRC a σ) (hW : vWF a) (h : ∀ σ', vag vBi σ σ' → post (some (.int (nI (vallA a c p)))) σ') : VM G (d + 4) iX6_allOf 0 [some (.ref 0), some (.int (nI p)), some (.int (nI c))] [] σ post := by
  have hs := vsumA_le (a := a) (c := c) (t := a.1 1 1) (p := p) hW.1.2.2
  have hpd := (hW.2.2.2.2.1 p hp).2
  refine VM.go [] ⟨_, VM.at (vb_openBill hp hC hW (fun s2 hs2 hB => ?_)), fun _ _ hh => hh⟩
  have hs3 : vag vBi σ (vput s2 40 0 (nI c)) := hs2.put rfl
  refine ⟨_, VM.at (vb_sumA (hB.cl hc) (fun s4 hs4 => ?_)), fun _ _ hh => hh⟩
  have hs5 : vag vBi σ s4 := hs3.tr (hs4.up vSc_Bi)
  refine ⟨p, rfl, hp, ?_⟩
  rw [show s4.1 7 p = nI (a.1 7 p) from (hs5.get rfl).trans (hC.num 7 p rfl)]
  have e := vmax0 (a := vsumA a c (a.1 1 1) p) (b := a.1 7 p) (by omega) (by omega)
  have := h s4 hs5
  unfold vallA at this
  rw [← e] at this
  exact this
theorem vRC.bi {σ' : vM} (hC : vRC a σ) (hW : vWF a) (hs : vag vBi σ σ') : vRC a σ' := hC.ag (hs.up vBi_Cs) hW.2.1.2
theorem vb_allTogether {c : Nat} (hc : c < 4096) (hC : vRC a σ) (hW : vWF a) (h : ∀ σ', vag vBi σ σ' → post (some (.int (nI (vtogA a c)))) σ') : VM G (d + 5) iX6_allTogether 0 [some (.ref 0), some (.int (nI c)), none, none] [] σ post := by
  have key : ∀ i, i ≤ 5 → ∀ s2, vag vBi σ s2 → VM G (d + 5) iX6_allTogether 4 [some (.ref 0), some (.int (nI c)), some (.int (nI (vsumN i (fun p => vallA a c p)))), some (.int (nI i))] [] s2 post := by
    refine vloop _ ?_ ?_
    · intro s2 hs2
      exact VM.go [4] ⟨fun _ => h s2 hs2, fun c1 => absurd (by decide) c1⟩
    · intro i hi ih s2 hs2
      refine VM.go [4] ⟨fun c1 => absurd c1 (nI_ge hi (by decide)), fun _ => ⟨_, VM.at (vb_allOf hi hc (hC.bi hW hs2) hW (fun s3 hs3 => ?_)), fun _ _ hh => hh⟩⟩
      have := ih s3 (hs2.tr hs3)
      rw [show vsumN (i + 1) (fun p => vallA a c p) = vsumN i (fun p => vallA a c p) + vallA a c i from rfl, ← nI_add, ← nI_1] at this
      exact this
  exact VM.go [4] (key 0 (Nat.zero_le _) σ vag.rf)
/-- the first of 0 .. n for whom f is most -/
def vmost (f : Nat → Nat) : Nat → Nat
  | 0 => 0
  | n + 1 => if f (vmost f n) < f (n + 1) then n + 1 else vmost f n
theorem vmost_le (f : Nat → Nat) (n : Nat) : vmost f n ≤ n := by
  induction n with
  | zero => exact Nat.le_refl _
  | succ n ih => unfold vmost; split <;> omega
theorem vallA_le {c p : Nat} (hW : vWF a) : vallA a c p ≤ 77922 := by
  have := vsumA_le (a := a) (c := c) (t := a.1 1 1) (p := p) hW.1.2.2
  unfold vallA; omega
theorem vb_whoOwesMost (hC : vRC a σ) (hW : vWF a) (h : ∀ σ', vag vBi σ σ' → post (some (.int (nI (vmost (vallA a (a.1 1 0)) 4)))) σ') : VM G (d + 5) iX6_whoOwesMost 0 [some (.ref 0), none, none, none, none] [] σ post := by
  have hc := hW.1.1
  have hcl : ∀ {s2}, vag vBi σ s2 → s2.1 1 0 = nI (a.1 1 0) := fun hs => (hs.get rfl).trans (hC.num 1 0 rfl)
  have key : ∀ i, i ≤ 4 → ∀ s2 (y : Option Value), vag vBi σ s2 → VM G (d + 5) iX6_whoOwesMost 17 [some (.ref 0), some (.int (nI (vmost (vallA a (a.1 1 0)) i))), some (.int (nI (vallA a (a.1 1 0) (vmost (vallA a (a.1 1 0)) i)))), some (.int (nI (i + 1))), y] [] s2 post := by
    refine vloop _ ?_ ?_
    · intro s2 y hs2
      exact VM.go [17] ⟨fun _ => h s2 hs2, fun c1 => absurd (by decide) c1⟩
    · intro i hi ih s2 y hs2
      refine VM.go [30] ⟨fun c1 => absurd c1 (nI_ge (show i + 1 < 5 by omega) (by decide)), fun _ => ?_⟩
      refine VM.at (VM.go [31] ?_)
      show VM G (d + 5) iX6_whoOwesMost 31 _ _ _ _
      rw [hcl hs2]
      refine VM.go [17] ⟨_, VM.at (vb_allOf (show i + 1 < 5 by omega) hc (hC.bi hW hs2) hW (fun s3 hs3 => ?_)), fun _ _ hh => hh⟩
      have b1 := vallA_le (c := a.1 1 0) (p := i + 1) hW
      have b2 := vallA_le (c := a.1 1 0) (p := vmost (vallA a (a.1 1 0)) i) hW
      refine ⟨fun c1 => ?_, fun c1 => ?_⟩
      · rw [nIle (by omega) (by omega)] at c1
        have := ih s3 (some (.int (nI (vallA a (a.1 1 0) (i + 1))))) (hs2.tr hs3)
        rw [show vmost (vallA a (a.1 1 0)) (i + 1) = vmost (vallA a (a.1 1 0)) i from if_neg (by omega), ← nI_1 (i + 1)] at this
        exact this
      · rw [nIle (by omega) (by omega)] at c1
        have := ih s3 (some (.int (nI (vallA a (a.1 1 0) (i + 1))))) (hs2.tr hs3)
        rw [show vmost (vallA a (a.1 1 0)) (i + 1) = i + 1 from if_pos (by omega), ← nI_1 (i + 1)] at this
        exact this
  refine VM.go [11] ?_
  show VM G (d + 5) iX6_whoOwesMost 11 _ _ _ _
  rw [hcl vag.rf]
  exact VM.go [17] ⟨_, VM.at (vb_allOf (p := 0) (by decide) hc hC hW (fun s3 hs3 => by exact key 0 (Nat.zero_le _) s3 none hs3)), fun _ _ hh => hh⟩
end AL
end
section
/-! ===== WHAT A CALL ANSWERS AND LEAVES: functions of the abstract state ===== -/
/-- an int as a number below m -/
def vix (x : Int32) (m : Nat) : Option Nat := if 0 ≤ x ∧ x < nI m then some x.toNatClampNeg else none
theorem vix_nI {j m : Nat} (h : j < m) (hm : m < 2 ^ 31) : vix (nI j) m = some j := by
  unfold vix
  rw [if_pos ⟨Int32.not_lt.mp (nI_pos (by omega)), nI_lt h hm⟩, nI_clamp (by omega)]
theorem vix_some {x : Int32} {m j : Nat} (hm : m < 2 ^ 31) (h : vix x m = some j) : j < m ∧ x = nI j := by
  unfold vix at h
  split at h
  next hc =>
    obtain ⟨k, hk, rfl⟩ := nI_of (x := x) (Int32.not_lt.mpr hc.1)
    rw [nI_clamp hk] at h
    cases h
    exact ⟨(nIlt hk hm).mp hc.2, rfl⟩
  next => cases h
theorem vix_none {x : Int32} {m : Nat} (hm : m < 2 ^ 31) (h : vix x m = none) : ∀ j, j < m → ¬ x = nI j := by
  rintro j hj rfl
  rw [vix_nI hj hm] at h
  cases h
theorem vix_no {x : Int32} {m : Nat} (hm : m < 2 ^ 31) (h : ∀ j, j < m → ¬ x = nI j) : vix x m = none := by
  cases hv : vix x m with
  | none => rfl
  | some j => obtain ⟨h1, h2⟩ := vix_some hm hv; exact absurd h2 (h j h1)
/-- below m and not below lo -/
theorem vix_le {x : Int32} {m : Nat} (hm : m < 2 ^ 30) (h : vix x (m + 1) = none) : ¬ (0 ≤ x ∧ x ≤ nI m) := by
  rintro ⟨h1, h2⟩
  obtain ⟨j, hj, rfl⟩ := vnat (by omega) h1 h2
  exact vix_none (by omega) h j (by omega) rfl
abbrev vR2 : Type := Int32 × vα
/-- set(): cell, how many places, least, most -/
def vsetT (a : vα) (w : Nat) : Nat × Nat × Nat × Nat := match w with
  | 1 => (3, a.1 1 2, 0, 9)
  | 2 => (4, a.1 1 2, 1, 999)
  | 3 => (6, 5, 0, 99)
  | 4 => (8, 4, 1, 99)
  | _ => (9, 4, 0, 20)
def sSet (a : vα) (what i v : Int32) : vR2 := match vix what 6 with
  | none => (-2, a)
  | some 0 => (match vix v 4096 with
    | some x => (nI (a.1 1 0), vaput a 1 0 x)
    | none => (-2, a))
  | some w => (match vix i (vsetT a w).2.1, vix v ((vsetT a w).2.2.2 + 1) with
    | some k, some x => if (vsetT a w).2.2.1 ≤ x then (nI (a.1 (vsetT a w).1 k), vaput a (vsetT a w).1 k x) else (-2, a)
    | _, _ => (-2, a))
def vseen0 (a : vα) (n : Nat) : Nat → vα
  | 0 => a
  | i + 1 => vaput (vseen0 a n i) 5 (6 * i + n) 0
theorem vseen0_ne {a : vα} {n i c k : Nat} (h : c ≠ 5) : (vseen0 a n i).1 c k = a.1 c k := by
  induction i with
  | zero => rfl
  | succ i ih => exact (vaput_ne (Or.inl h)).trans ih
theorem vseen0_2 {a : vα} {n i : Nat} : (vseen0 a n i).2 = a.2 := by
  induction i with
  | zero => rfl
  | succ i ih => exact ih
def vlight (a : vα) (k m y : Nat) : vα := vaput (vseen0 (vaput (vaput (vaput a 2 (a.1 1 2) k) 3 (a.1 1 2) m) 4 (a.1 1 2) y) (a.1 1 2) 5) 1 2 (a.1 1 2 + 1)
def sLight (a : vα) (kind number years : Int32) : vR2 := match vix kind 6, vix number 10, vix years 1000 with
  | some k, some m, some y => if y = 0 then (-2, a) else if a.1 1 2 = 6 then (-4, a) else (nI (a.1 1 2), vlight a k m y)
  | _, _, _ => (-2, a)
def sLook (a : vα) (looker light nights : Int32) : vR2 := match vix looker 5, vix light (a.1 1 2), vix nights 4096 with
  | some p, some l, some x => (nI (a.1 5 (6 * p + l)), vaput a 5 (6 * p + l) x)
  | _, _, _ => (-2, a)
def sTold (a : vα) (i what : Int32) : Int32 := match vix what 10 with
  | none => -2
  | some w => match w with
    | 0 => nI (a.1 1 0)
    | 1 => (match vix i (a.1 1 2) with | some l => nI (a.1 3 l) | none => -2)
    | 2 => (match vix i (a.1 1 2) with | some l => nI (a.1 4 l) | none => -2)
    | 3 => (match vix i 5 with | some l => nI (a.1 6 l) | none => -2)
    | 4 => (match vix i 4 with | some l => nI (a.1 8 l) | none => -2)
    | 5 => (match vix i 4 with | some l => nI (a.1 9 l) | none => -2)
    | 6 => (match vix i (a.1 1 2) with | some l => nI (a.1 2 l) | none => -2)
    | 7 => (match vix i 5 with | some p => nI (a.1 7 p) | none => -2)
    | 8 => (match vix i 5 with | some p => nI (vallA a (a.1 1 0) p) | none => -2)
    | _ => (match vix i 5 with | some p => nI (vlitS (a.1 1 0) (fun l => a.1 5 (6 * p + l)) (a.1 1 2)) | none => -2)
def sFeed (a : vα) (letter : Int32) : vR2 := match vix letter 256 with
  | none => (-2, a)
  | some x => if a.1 38 0 = 160 then (-4, a) else (nI (a.1 38 0 + 1), vaput (vaput a 39 (a.1 38 0) x) 38 0 (a.1 38 0 + 1))
def sForce (a : vα) (t : Int32) : vR2 := match vix t (a.1 0 4) with
  | none => (-2, a)
  | some t => (nI (a.1 1 1), vaput a 1 1 t)
def sOwes (a : vα) (looker light what : Int32) : Int32 := match vix looker 5, vix light (a.1 1 2), vix what 22 with
  | some p, some l, some w => if w = 0 then nI (vowA a (a.1 1 0) (a.1 1 1) p l) else if w = 1 then nI (vpop (vmask (a.1 5 (6 * p + l)) (a.1 1 0))) else if 10 ≤ w then nI (vdt (vTof (vcomp (a.2.2 (a.1 1 1)))) (a.1 1 0) (a.1 1 2) (a.1 2) (a.1 3) (a.1 4) (fun l => a.1 5 (6 * p + l)) l (w - 10)) else -2
  | _, _, _ => -2
def vworth (a : vα) : Nat := vsumN 4 (fun k => a.1 8 k * a.1 9 k)
def vpcs (a : vα) : Nat := vsumN 4 (fun k => a.1 9 k)
def sAll (a : vα) (what : Int32) : Int32 := match vix what 3 with
  | some 0 => nI (vtogA a (a.1 1 0))
  | some 1 => nI (vmost (vallA a (a.1 1 0)) 4)
  | some _ => nI (vworth a)
  | none => -2
def sCount (a : vα) (what : Int32) : Int32 := match vix what 6 with
  | some 0 => nI (a.1 1 2)
  | some 1 => nI (vpop (a.1 1 0))
  | some 2 => nI (vpcs a)
  | some 3 => nI (a.1 0 4)
  | some 4 => nI (a.1 38 0)
  | some _ => nI (a.1 1 1)
  | none => -2
/-- a place that holds a number is written on both sides -/
theorem vRC.put {a : vα} {σ : vM} (h : vRC a σ) {c k v : Nat} (hk : vps c k = true) (hc : (c ≤ 18 ∧ 1 ≤ c) ∨ c = 38 ∨ c = 39 ∨ (c = 0 ∧ k = 2)) (hT : a.1 0 4 ≤ 6) : vRC (vaput a c k v) (vput σ c k (nI v)) := by
  obtain ⟨h1, h2, h3, h4⟩ := h
  refine ⟨fun c' k' hk' => ?_, fun s hs => ?_, fun s k' hs hk' => ?_, fun t ht => ?_⟩
  · rw [vput_get, vaput_get]
    by_cases e : c' = c ∧ k' = k
    · rw [if_pos e, if_pos e]
    · rw [if_neg e, if_neg e]; exact h1 c' k' hk'
  · rw [vput_ne (Or.inl (by omega)), vaput_ne (Or.inl (by omega))]; exact h2 s hs
  · rw [vaput_ne (Or.inl (by omega))] at hk'
    rw [vput_ne (Or.inl (by omega))]; exact h3 s k' hs hk'
  · rw [vaput_ne (by omega)] at ht
    obtain ⟨r1, r2⟩ := h4 t ht
    exact ⟨r1.ag (fun k' => vput_ne (Or.inl (by omega))) (fun k' => vput_ne (Or.inl (by omega))), by rw [vput_ne (Or.inl (by omega))]; exact r2⟩
end
section
/-! ===== the class's calls, one by one ===== -/
section C1
variable {G : vG} {d : Nat} {σ : vM} {post : vQ} {a : vα}
theorem vc_look {p0 l0 w0 : Int32} (hC : vRC a σ) (hW : vWF a) (h : ∀ σ', (∀ c k, ¬ c = 5 → σ'.1 c k = σ.1 c k) → σ'.2 = σ.2 → vRC (sLook a p0 l0 w0).2 σ' → post (some (.int (sLook a p0 l0 w0).1)) σ') : VM G (d + 1) iX6_look 0 [some (.ref 0), some (.int p0), some (.int l0), some (.int w0), none, none] [] σ post := by
  have bad : sLook a p0 l0 w0 = (-2, a) → post (some (.int (-2))) σ := fun e => by
    have := h σ (fun _ _ _ => rfl) rfl (by rw [e]; exact hC)
    rw [e] at this
    exact this
  have hn6 := hW.1.2.2
  refine VM.go [] ⟨_, VM.at (vb_isLooker (fun p hp e1 => ?_) (fun hno => ?_)), fun _ _ hh => hh⟩
  · refine ⟨fun c => absurd c (by decide), fun _ => ⟨_, VM.at (vb_isLight hC hW (fun l hl e2 => ?_) (fun hno => ?_)), fun _ _ hh => hh⟩⟩
    · refine ⟨fun c => absurd c (by decide), fun _ => ⟨_, VM.at (vb_between (fun b1 b2 => ?_) (fun hno => ?_)), fun _ _ hh => hh⟩⟩
      · obtain ⟨w, hw, e3⟩ := vnat (m := 4095) (by decide) b1 b2
        have es : sLook a p0 l0 w0 = (nI (a.1 5 (6 * p + l)), vaput a 5 (6 * p + l) w) := by
          unfold sLook
          rw [e1, e2, e3, vix_nI hp (by decide), vix_nI hl (by omega), vix_nI (show w < 4096 by omega) (by decide)]
        have ix : p0 * 6 + l0 = nI (6 * p + l) := by
          rw [e1, e2, show (6 : Int32) = nI 6 from rfl, pk_mul, nI_add, Nat.mul_comm]
        refine ⟨fun _ => ⟨6 * p + l, ix, by omega, nofun, 6 * p + l, ix, by omega, ?_⟩, fun c => absurd c (by decide)⟩
        have := h (vput σ 5 (6 * p + l) w0) (fun c k hc => vput_ne (Or.inl hc)) rfl (by rw [es, e3]; exact hC.put rfl (Or.inl ⟨by decide, by decide⟩) hW.2.1.2)
        rw [es] at this
        rw [hC.num 5 (6 * p + l) rfl]
        exact this
      · refine ⟨fun c => absurd rfl c, fun _ => bad ?_⟩
        unfold sLook
        rw [e1, e2, vix_nI hp (by decide), vix_nI hl (by omega), vix_no (by decide) (fun j hj e => hno ⟨by rw [e]; exact Int32.not_lt.mp (nI_pos (by omega)), by rw [e]; exact nI_le (show j ≤ 4095 by omega) (by decide)⟩)]
    · refine ⟨fun _ => bad ?_, fun c => absurd rfl c⟩
      unfold sLook
      rw [e1, vix_nI hp (by decide), vix_no (by omega) hno]
  · refine ⟨fun _ => bad ?_, fun c => absurd rfl c⟩
    unfold sLook
    rw [vix_no (by decide) hno]
theorem vix_btw {x : Int32} {m : Nat} (hm : m < 2 ^ 30) (hno : ¬ (0 ≤ x ∧ x ≤ nI m)) : vix x (m + 1) = none := vix_no (by omega) (fun j hj e => hno ⟨by rw [e]; exact Int32.not_lt.mp (nI_pos (by omega)), by rw [e]; exact nI_le (show j ≤ m by omega) (by omega)⟩)
theorem vc_force {t0 : Int32} (hC : vRC a σ) (hW : vWF a) (h : ∀ σ', (∀ c k, ¬ c = 1 → σ'.1 c k = σ.1 c k) → σ'.2 = σ.2 → vRC (sForce a t0).2 σ' → post (some (.int (sForce a t0).1)) σ') : VM G (d + 1) iX6_force 0 [some (.ref 0), some (.int t0), none] [] σ post := by
  obtain ⟨hT1, hT6⟩ := hW.2.1
  refine VM.go [8] ?_
  show VM G (d + 1) iX6_force 8 _ _ _ _
  rw [hC.num 0 4 rfl, show nI (a.1 0 4) - 1 = nI (a.1 0 4 - 1) from pk_sub (b := 1) hT1]
  refine VM.go [] ⟨_, VM.at (vb_between (fun b1 b2 => ?_) (fun hno => ?_)), fun _ _ hh => hh⟩
  · obtain ⟨t, ht, rfl⟩ := vnat (by omega) b1 b2
    have es : sForce a (nI t) = (nI (a.1 1 1), vaput a 1 1 t) := by
      unfold sForce; rw [vix_nI (by omega) (by omega)]
    refine ⟨fun _ => ?_, fun c => absurd c (by decide)⟩
    have := h (vput σ 1 1 (nI t)) (fun c k hc => vput_ne (Or.inl hc)) rfl (by rw [es]; exact hC.put rfl (Or.inl ⟨by decide, by decide⟩) hT6)
    rw [es, ← hC.num 1 1 rfl] at this
    exact this
  · refine ⟨fun c => absurd rfl c, fun _ => ?_⟩
    have es : sForce a t0 = (-2, a) := by
      unfold sForce
      have := vix_btw (by omega) hno
      rw [show a.1 0 4 - 1 + 1 = a.1 0 4 by omega] at this
      rw [this]
    have := h σ (fun _ _ _ => rfl) rfl (by rw [es]; exact hC)
    rw [es] at this
    exact this
theorem vb_worth (hC : vRC a σ) (h : post (some (.int (nI (vworth a)))) σ) : VM G d iX5_worth 0 [some (.ref 1), none, none] [] σ post := by
  have key : ∀ i, i ≤ 4 → VM G d iX5_worth 4 [some (.ref 1), some (.int (nI (vsumN i (fun k => a.1 8 k * a.1 9 k)))), some (.int (nI i))] [] σ post := by
    refine vloop _ ?_ ?_
    · exact VM.go [4] ⟨fun _ => h, fun c1 => absurd (by decide) c1⟩
    · intro i hi ih
      refine VM.go [4] ⟨fun c1 => absurd c1 (nI_ge hi (by decide)), fun _ => ⟨i, rfl, hi, i, rfl, hi, ?_⟩⟩
      rw [show vsumN (i + 1) (fun k => a.1 8 k * a.1 9 k) = vsumN i (fun k => a.1 8 k * a.1 9 k) + a.1 8 i * a.1 9 i from rfl, ← nI_add, ← nI_1, ← pk_mul, ← hC.num 8 i rfl, ← hC.num 9 i rfl] at ih
      exact ih
  exact VM.go [4] (key 0 (Nat.zero_le _))
theorem vb_pieceCount (hC : vRC a σ) (h : post (some (.int (nI (vpcs a)))) σ) : VM G d iX5_pieceCount 0 [some (.ref 1), none, none] [] σ post := by
  have key : ∀ i, i ≤ 4 → VM G d iX5_pieceCount 4 [some (.ref 1), some (.int (nI (vsumN i (fun k => a.1 9 k)))), some (.int (nI i))] [] σ post := by
    refine vloop _ ?_ ?_
    · exact VM.go [4] ⟨fun _ => h, fun c1 => absurd (by decide) c1⟩
    · intro i hi ih
      refine VM.go [4] ⟨fun c1 => absurd c1 (nI_ge hi (by decide)), fun _ => ⟨i, rfl, hi, ?_⟩⟩
      rw [show vsumN (i + 1) (fun k => a.1 9 k) = vsumN i (fun k => a.1 9 k) + a.1 9 i from rfl, ← nI_add, ← nI_1, ← hC.num 9 i rfl] at ih
      exact ih
  exact VM.go [4] (key 0 (Nat.zero_le _))
/-- out of a switch's keys, all of which are below m -/
theorem vsw_outN {x : Int32} {m df : Nat} {l : List (Int32 × Nat)} (hm : m < 2 ^ 31) (hv : vix x m = none) (hk : l.all (fun q => (List.range m).any (fun j => decide (q.1 = nI j))) = true) : vswT x df l = df := by
  induction l with
  | nil => rfl
  | cons q l ih =>
    simp only [List.all_cons, Bool.and_eq_true] at hk
    unfold vswT
    obtain ⟨j, hj, e⟩ := List.any_eq_true.mp hk.1
    rw [if_neg (fun e2 => vix_none hm hv j (List.mem_range.mp hj) (e2.trans (of_decide_eq_true e)))]
    exact ih hk.2
theorem vc_count {w0 : Int32} (hC : vRC a σ) (hW : vWF a) (h : post (some (.int (sCount a w0))) σ) : VM G (d + 1) iX6_count 0 [some (.ref 0), some (.int w0)] [] σ post := by
  unfold sCount at h
  cases hv : vix w0 6 with
  | none =>
    rw [hv] at h
    exact VM.go [] (vsw_go 88 (vsw_outN (m := 6) (by decide) hv (by decide)) h)
  | some w =>
    rw [hv] at h
    obtain ⟨hw, rfl⟩ := vix_some (by decide) hv
    rcases (show w = 0 ∨ w = 1 ∨ w = 2 ∨ w = 3 ∨ w = 4 ∨ w = 5 by omega) with rfl | rfl | rfl | rfl | rfl | rfl
    · refine VM.go [] (vsw_go 40 (by decide) ?_)
      rw [← hC.num 1 2 rfl] at h
      exact h
    · refine VM.go [] (vsw_go 48 (by decide) ⟨_, VM.at (vb_bitCount ?_), fun _ _ hh => hh⟩)
      rw [hC.num 1 0 rfl, vbc hW.1.1]
      exact h
    · exact VM.go [] (vsw_go 59 (by decide) ⟨_, VM.at (vb_pieceCount hC (by exact h)), fun _ _ hh => hh⟩)
    · refine VM.go [] (vsw_go 67 (by decide) ?_)
      rw [← hC.num 0 4 rfl] at h
      exact h
    · refine VM.go [] (vsw_go 72 (by decide) ?_)
      rw [← hC.num 38 0 rfl] at h
      exact h
    · refine VM.go [] (vsw_go 80 (by decide) ?_)
      rw [← hC.num 1 1 rfl] at h
      exact h
theorem vc_all {w0 : Int32} (hC : vRC a σ) (hW : vWF a) (h : ∀ σ', vag vBi σ σ' → post (some (.int (sAll a w0))) σ') : VM G (d + 6) iX6_all 0 [some (.ref 0), some (.int w0)] [] σ post := by
  unfold sAll at h
  cases hv : vix w0 3 with
  | none =>
    rw [hv] at h
    exact VM.go [] (vsw_go 53 (vsw_outN (m := 3) (by decide) hv (by decide)) (h σ vag.rf))
  | some w =>
    rw [hv] at h
    obtain ⟨hw, rfl⟩ := vix_some (by decide) hv
    rcases (show w = 0 ∨ w = 1 ∨ w = 2 by omega) with rfl | rfl | rfl
    · refine VM.go [36] (vsw_go 28 (by decide) ?_)
      show VM G (d + 6) iX6_all 36 _ _ _ _
      rw [hC.num 1 0 rfl]
      exact VM.go [] ⟨_, VM.at (vb_allTogether hW.1.1 hC hW (by exact h)), fun _ _ hh => hh⟩
    · exact VM.go [] (vsw_go 40 (by decide) ⟨_, VM.at (vb_whoOwesMost hC hW (by exact h)), fun _ _ hh => hh⟩)
    · exact VM.go [] (vsw_go 45 (by decide) ⟨_, VM.at (vb_worth hC (by exact h σ vag.rf)), fun _ _ hh => hh⟩)
theorem vc_owes {p0 l0 w0 : Int32} (hC : vRC a σ) (hW : vWF a) (h : ∀ σ', vag vBi σ σ' → post (some (.int (sOwes a p0 l0 w0))) σ') : VM G (d + 3) iX6_owes 0 [some (.ref 0), some (.int p0), some (.int l0), some (.int w0)] [] σ post := by
  have hn6 := hW.1.2.2
  have ht6 : a.1 1 1 < 6 := by have := hW.1.2.1; have := hW.2.1.2; omega
  refine VM.go [] ⟨_, VM.at (vb_isLooker (fun p hp e1 => ?_) (fun hno => ?_)), fun _ _ hh => hh⟩
  · refine ⟨fun c => absurd c (by decide), fun _ => ⟨_, VM.at (vb_isLight hC hW (fun l hl e2 => ?_) (fun hno => ?_)), fun _ _ hh => hh⟩⟩
    · subst e1; subst e2
      refine ⟨fun _ => ⟨_, VM.at (vb_openBill hp hC hW (fun s2 hs2 hB => ?_)), fun _ _ hh => hh⟩, fun c => absurd c (by decide)⟩
      have hl6 : l < 6 := by omega
      unfold sOwes at h
      rw [vix_nI hp (by decide), vix_nI hl (by omega)] at h
      have hrc := vRc_of ht6
      refine ⟨fun c1 => ⟨fun c2 => ⟨_, VM.at (vb_between (fun b1 b2 => ?_) (fun hno => ?_)), fun _ _ hh => hh⟩, fun c2 => ?_⟩, fun c1 => ?_⟩
      · obtain ⟨w, hw, rfl⟩ := vnat (m := 21) (by decide) (by
          rw [Int32.le_iff_toInt_le] at b1 ⊢
          rw [show (10 : Int32).toInt = 10 from by decide] at b1
          rw [show (0 : Int32).toInt = 0 from by decide]
          omega) b2
        rw [show (10 : Int32) = nI 10 from rfl, nIle (by decide) (by omega)] at b1
        rw [vix_nI (show w < 22 by omega) (by decide)] at h
        dsimp only at h
        rw [if_neg (by omega), if_neg (by omega), if_pos b1] at h
        refine ⟨fun _ => ?_, fun c => absurd c (by decide)⟩
        obtain ⟨k1, k2, k3, ⟨nn, k4, k5, k6⟩, k7, k8⟩ := hB
        have ex : nI w - 10 = nI (w - 10) := pk_sub (b := 10) b1
        refine VM.at (VM.go [73] ?_)
        show VM G (d + 3) iX6_owes 73 _ _ _ _
        rw [ex]
        refine VM.go [] ⟨_, VM.at (vb_dueFor k5 hrc hl6 (show w - 10 < 12 by omega) k7 k8 (vb_vTl k1 k2 k3) (fun s3 hs3 => ?_)), fun _ _ hh => hh⟩
        exact h s3 (hs2.tr (hs3.up vSc_Bi))
      · refine ⟨fun c => absurd rfl c, fun _ => ?_⟩
        have := h s2 hs2
        cases hv : vix w0 22 with
        | none => rw [hv] at this; exact this
        | some w =>
          rw [hv] at this
          obtain ⟨hw, rfl⟩ := vix_some (by decide) hv
          dsimp only at this
          rw [if_neg (fun e => c1 (by rw [e]; rfl)), if_neg (fun e => c2 (by rw [e]; rfl)), if_neg (fun e => hno ⟨nI_le e (by omega), nI_le (show w ≤ 21 by omega) (by decide)⟩)] at this
          exact this
      · rw [show w0 = nI 1 from c2, vix_nI (by decide) (by decide)] at h
        exact ⟨_, VM.at (vb_nightsOf hl6 hB.2.2.2.2.1 hB.2.2.2.2.2 (by exact h s2 hs2)), fun _ _ hh => hh⟩
      · rw [show w0 = nI 0 from c1, vix_nI (by decide) (by decide)] at h
        exact ⟨_, VM.at (vb_owedR hl6 hB (fun s3 hs3 => by exact h s3 (hs2.tr (hs3.up vSc_Bi)))), fun _ _ hh => hh⟩
    · refine ⟨fun c => absurd rfl c, fun _ => ?_⟩
      have := h σ vag.rf
      unfold sOwes at this
      rw [e1, vix_nI hp (by decide), vix_no (by omega) hno] at this
      exact this
  · refine ⟨fun _ => ?_, fun c => absurd rfl c⟩
    have := h σ vag.rf
    unfold sOwes at this
    rw [vix_no (by decide) hno] at this
    exact this
end C1
end
section
/-! ===== told, set, light, feed ===== -/
/-- the class's own cells -/
def vKl (c _k : Nat) : Bool := Nat.ble c 57
/-- set() and told(): which cell, how many places -/
def vplc (w : Nat) : Nat := match w with | 1 => 3 | 2 => 4 | 3 => 6 | 4 => 8 | 5 => 9 | _ => 2
def vpln (a : vα) (w : Nat) : Nat := match w with | 3 => 5 | 4 => 4 | 5 => 4 | _ => a.1 1 2
section C2
variable {G : vG} {d : Nat} {σ : vM} {post : vQ} {a : vα}
theorem vb_placesOf {w : Nat} (hw : w < 7) (h1 : 1 ≤ w) (h : post (some (.ref (vplc w))) σ) : VM G d iX6_placesOf 0 [some (.ref 0), some (.int (nI w))] [] σ post := by
  rcases (show w = 1 ∨ w = 2 ∨ w = 3 ∨ w = 4 ∨ w = 5 ∨ w = 6 by omega) with rfl | rfl | rfl | rfl | rfl | rfl
  · exact VM.go [] (vsw_go 40 (by decide) h)
  · exact VM.go [] (vsw_go 48 (by decide) h)
  · exact VM.go [] (vsw_go 56 (by decide) h)
  · exact VM.go [] (vsw_go 64 (by decide) h)
  · exact VM.go [] (vsw_go 72 (by decide) h)
  · exact VM.go [] (vsw_go 80 (by decide) h)
theorem vb_placeCount {w : Nat} (hw : w < 7) (h1 : 1 ≤ w) (hC : vRC a σ) (h : post (some (.int (nI (vpln a w)))) σ) : VM G d iX6_placeCount 0 [some (.ref 0), some (.int (nI w))] [] σ post := by
  have e := hC.num 1 2 rfl
  rcases (show w = 1 ∨ w = 2 ∨ w = 3 ∨ w = 4 ∨ w = 5 ∨ w = 6 by omega) with rfl | rfl | rfl | rfl | rfl | rfl
  · refine VM.go [] (vsw_go 32 (by decide) ?_)
    rw [show vpln a 1 = a.1 1 2 from rfl, ← e] at h; exact h
  · refine VM.go [] (vsw_go 32 (by decide) ?_)
    rw [show vpln a 2 = a.1 1 2 from rfl, ← e] at h; exact h
  · exact VM.go [] (vsw_go 28 (by decide) h)
  · exact VM.go [] (vsw_go 30 (by decide) h)
  · exact VM.go [] (vsw_go 30 (by decide) h)
  · refine VM.go [] (vsw_go 32 (by decide) ?_)
    rw [show vpln a 6 = a.1 1 2 from rfl, ← e] at h; exact h
theorem vpln_le (hW : vWF a) (w : Nat) : vpln a w ≤ 6 := by
  have := hW.1.2.2
  unfold vpln; split <;> omega
theorem vb_toldPl {w : Nat} {i0 : Int32} (hw : w < 7) (h1 : 1 ≤ w) (hC : vRC a σ) (hW : vWF a) (hy : ∀ j, j < vpln a w → i0 = nI j → post (some (.int (nI (a.1 (vplc w) j)))) σ) (hn : (∀ j, j < vpln a w → ¬ i0 = nI j) → post (some (.int (-2))) σ) : VM G (d + 1) iX6_told 25 [some (.ref 0), some (.int i0), some (.int (nI w)), none] [] σ post := by
  refine VM.go [] ⟨_, VM.at (vb_placesOf hw h1 ?_), fun _ _ hh => hh⟩
  have hq := vpln_le hW w
  have fin : i0 < 0 → post (some (.int (-2))) σ := fun c => hn (fun j hj e => absurd c (by rw [e]; exact nI_pos (by omega)))
  have fin2 : ¬ i0 < 0 → nI (vpln a w) ≤ i0 → post (some (.int (-2))) σ := fun _ c => hn (fun j hj e => by
    rw [e, nIle (by omega) (by omega)] at c
    omega)
  have mid : ∀ {P : Prop}, ¬ i0 < 0 → ¬ nI (vpln a w) ≤ i0 → (∀ j, j < vpln a w → i0 = nI j → P) → P := fun c1 c2 k => by
    obtain ⟨j, hj, rfl⟩ := nI_of c1
    rw [nIle (by omega) (by omega)] at c2
    exact k j (by omega) rfl
  rcases (show w = 1 ∨ w = 2 ∨ w = 3 ∨ w = 4 ∨ w = 5 ∨ w = 6 by omega) with rfl | rfl | rfl | rfl | rfl | rfl
  all_goals refine ⟨fun c => fin c, fun c => ⟨_, VM.at (vb_placeCount (by decide) (by decide) hC ?_), fun _ _ hh => hh⟩⟩
  all_goals refine ⟨fun c2 => fin2 c c2, fun c2 => mid c c2 (fun j hj e => ?_)⟩
  all_goals have hy' := hy j hj e
  all_goals simp only [vpln] at hj hq
  · rw [show vplc 1 = 3 from rfl, ← hC.num 3 j rfl] at hy'
    exact ⟨fun _ => ⟨j, e, by omega, hy'⟩, fun c3 => absurd (show i0 < nI 6 by rw [e]; exact nI_lt (by omega) (by decide)) c3⟩
  · rw [show vplc 2 = 4 from rfl, ← hC.num 4 j rfl] at hy'
    exact ⟨fun _ => ⟨j, e, by omega, hy'⟩, fun c3 => absurd (show i0 < nI 6 by rw [e]; exact nI_lt (by omega) (by decide)) c3⟩
  · rw [show vplc 3 = 6 from rfl, ← hC.num 6 j rfl] at hy'
    exact ⟨fun _ => ⟨j, e, by omega, hy'⟩, fun c3 => absurd (show i0 < nI 5 by rw [e]; exact nI_lt (by omega) (by decide)) c3⟩
  · rw [show vplc 4 = 8 from rfl, ← hC.num 8 j rfl] at hy'
    exact ⟨fun _ => ⟨j, e, by omega, hy'⟩, fun c3 => absurd (show i0 < nI 4 by rw [e]; exact nI_lt (by omega) (by decide)) c3⟩
  · rw [show vplc 5 = 9 from rfl, ← hC.num 9 j rfl] at hy'
    exact ⟨fun _ => ⟨j, e, by omega, hy'⟩, fun c3 => absurd (show i0 < nI 4 by rw [e]; exact nI_lt (by omega) (by decide)) c3⟩
  · rw [show vplc 6 = 2 from rfl, ← hC.num 2 j rfl] at hy'
    exact ⟨fun _ => ⟨j, e, by omega, hy'⟩, fun c3 => absurd (show i0 < nI 6 by rw [e]; exact nI_lt (by omega) (by decide)) c3⟩
theorem vc_feed {x0 : Int32} (hC : vRC a σ) (hW : vWF a) (h : ∀ σ', vag vKl σ σ' → vRC (sFeed a x0).2 σ' → post (some (.int (sFeed a x0).1)) σ') : VM G (d + 1) iX6_feed 0 [some (.ref 0), some (.int x0)] [] σ post := by
  have hT := hW.2.1.2
  have hs := hW.2.2.2.2.2.2.1.1
  have bad : ∀ v, sFeed a x0 = (v, a) → post (some (.int v)) σ := fun v e => by
    have := h σ vag.rf (by rw [e]; exact hC)
    rw [e] at this
    exact this
  refine VM.go [] ⟨_, VM.at (vb_between (fun b1 b2 => ?_) (fun hno => ?_)), fun _ _ hh => hh⟩
  · obtain ⟨x, hx, e⟩ := vnat (m := 255) (by decide) b1 b2
    have es : sFeed a x0 = if a.1 38 0 = 160 then (-4, a) else (nI (a.1 38 0 + 1), vaput (vaput a 39 (a.1 38 0) x) 38 0 (a.1 38 0 + 1)) := by
      unfold sFeed; rw [e, vix_nI (show x < 256 by omega) (by decide)]
    refine ⟨fun _ => ?_, fun c => absurd c (by decide)⟩
    have en := hC.num 38 0 rfl
    refine ⟨fun c => ?_, fun c => ?_⟩
    · have hlt : a.1 38 0 < 160 := by
        have c' : σ.1 38 0 < nI 160 := c
        rw [en, nIlt (by omega) (by decide)] at c'
        exact c'
      rw [if_neg (by omega)] at es
      refine ⟨_, VM.at (VM.go [] ⟨fun c2 => absurd c2 ?_, fun _ => ⟨fun c3 => absurd c3 ?_, fun _ => ⟨nofun, a.1 38 0, en, hlt, ?_⟩⟩⟩), fun _ _ hh => hh⟩
      · rw [en]; exact nI_pos (by omega)
      · rw [en]; exact nI_ge hlt (by decide)
      · have := h (vput (vput σ 39 (a.1 38 0) x0) 38 0 (nI (a.1 38 0 + 1))) ((vag.rf.put rfl).put rfl) (by
          rw [es, e]
          exact (hC.put (c := 39) rfl (Or.inr (Or.inr (Or.inl rfl))) hT).put (c := 38) rfl (Or.inr (Or.inl rfl)) hT)
        rw [es, ← nI_1, ← en] at this
        exact this
    · have hge : a.1 38 0 = 160 := by
        have c' : ¬ σ.1 38 0 < nI 160 := c
        rw [en, nIlt (by omega) (by decide)] at c'
        omega
      rw [if_pos hge] at es
      exact bad _ es
  · refine ⟨fun c => absurd rfl c, fun _ => bad (-2) ?_⟩
    unfold sFeed
    rw [vix_btw (m := 255) (by decide) hno]
theorem vb_toldOf {p0 w0 : Int32} (hC : vRC a σ) (hW : vWF a) (h7 : ¬ w0 < 7) (h : ∀ σ', vag vBi σ σ' → post (some (.int (sTold a p0 w0))) σ') : VM G (d + 5) iX6_toldOfLooker 0 [some (.ref 0), some (.int p0), some (.int w0)] [] σ post := by
  have hbig : ∀ j, j < 7 → ¬ w0 = nI j := fun j hj e => h7 (by rw [e]; exact nI_lt hj (by decide))
  refine VM.go [] ⟨_, VM.at (vb_isLooker (fun p hp e1 => ?_) (fun hno => ?_)), fun _ _ hh => hh⟩
  · refine ⟨fun _ => ?_, fun c => absurd c (by decide)⟩
    cases hv : vix w0 10 with
    | none =>
      refine vsw_go 72 (vsw_outN (m := 10) (by decide) hv (by decide)) ?_
      have := h σ vag.rf
      unfold sTold at this
      rw [hv] at this
      exact this
    | some w =>
      obtain ⟨hw, rfl⟩ := vix_some (by decide) hv
      have hw7 : 7 ≤ w := Nat.le_of_not_lt (fun q => hbig w q rfl)
      unfold sTold at h
      rw [hv, e1] at h
      subst e1
      rcases (show w = 7 ∨ w = 8 ∨ w = 9 by omega) with rfl | rfl | rfl
      all_goals dsimp only at h
      all_goals rw [vix_nI hp (by decide)] at h
      · refine vsw_go 36 (by decide) ⟨p, rfl, hp, ?_⟩
        have := h σ vag.rf
        dsimp only at this
        rw [← hC.num 7 p rfl] at this
        exact this
      · refine vsw_go 46 (by decide) (VM.at (VM.go [55] ?_))
        show VM G (d + 5) iX6_toldOfLooker 55 _ _ _ _
        rw [hC.num 1 0 rfl]
        exact VM.go [] ⟨_, VM.at (vb_allOf hp hW.1.1 hC hW (by exact h)), fun _ _ hh => hh⟩
      · refine vsw_go 59 (by decide) ⟨_, VM.at (vb_openBill hp hC hW (fun s2 hs2 hB => ?_)), fun _ _ hh => hh⟩
        exact ⟨_, VM.at (vb_lightsSeen hB.2.2.2.2.1 hB.2.2.2.2.2 (by exact h s2 hs2)), fun _ _ hh => hh⟩
  · refine ⟨fun c => absurd rfl c, fun _ => ?_⟩
    have := h σ vag.rf
    unfold sTold at this
    rw [vix_no (x := p0) (by decide) hno] at this
    cases hv : vix w0 10 with
    | none => rw [hv] at this; exact this
    | some w =>
      rw [hv] at this
      obtain ⟨hw, rfl⟩ := vix_some (by decide) hv
      have hw7 : 7 ≤ w := Nat.le_of_not_lt (fun q => hbig w q rfl)
      rcases (show w = 7 ∨ w = 8 ∨ w = 9 by omega) with rfl | rfl | rfl <;> exact this
theorem vc_told {i0 w0 : Int32} (hC : vRC a σ) (hW : vWF a) (h : ∀ σ', vag vBi σ σ' → post (some (.int (sTold a i0 w0))) σ') : VM G (d + 6) iX6_told 0 [some (.ref 0), some (.int i0), some (.int w0), none] [] σ post := by
  refine VM.go [25] ⟨fun c1 => ⟨fun c2 => ?_, fun c2 => ⟨_, VM.at (vb_toldOf hC hW c2 (by exact h)), fun _ _ hh => hh⟩⟩, fun c1 => ?_⟩
  · show VM G (d + 6) iX6_told 25 _ _ _ _
    cases hv : vix w0 7 with
    | none =>
      refine VM.go [] ⟨_, VM.at (VM.go [] (vsw_go 88 (vsw_outN (m := 7) (by decide) hv (by decide)) ?_)), fun _ _ hh => hh⟩
      have := h σ vag.rf
      unfold sTold at this
      rw [vix_no (x := w0) (m := 10) (by decide) (fun j hj e => ?_)] at this
      · exact this
      · subst e
        have c2' : nI j < nI 7 := c2
        rw [nIlt (by omega) (by decide)] at c2'
        exact vix_none (by decide) hv j c2' rfl
    | some w =>
      obtain ⟨hw, rfl⟩ := vix_some (by decide) hv
      have h1 : 1 ≤ w := by
        rcases Nat.eq_zero_or_pos w with rfl | q
        · exact absurd rfl c1
        · exact q
      have h' := h σ vag.rf
      unfold sTold at h'
      rw [vix_nI (show w < 10 by omega) (by decide)] at h'
      have hn6 := hW.1.2.2
      refine vb_toldPl hw h1 hC hW (fun j hj e => ?_) (fun hno => ?_)
      · rcases (show w = 1 ∨ w = 2 ∨ w = 3 ∨ w = 4 ∨ w = 5 ∨ w = 6 by omega) with rfl | rfl | rfl | rfl | rfl | rfl
        all_goals dsimp only at h'
        all_goals simp only [vpln] at hj
        all_goals rw [e, vix_nI hj (by omega)] at h'
        all_goals exact h'
      · rcases (show w = 1 ∨ w = 2 ∨ w = 3 ∨ w = 4 ∨ w = 5 ∨ w = 6 by omega) with rfl | rfl | rfl | rfl | rfl | rfl
        all_goals dsimp only at h'
        all_goals simp only [vpln] at hno
        all_goals rw [vix_no (by omega) hno] at h'
        all_goals exact h'
  · have c' : w0 = nI 0 := c1
    have := h σ vag.rf
    rw [c'] at this
    unfold sTold at this
    rw [vix_nI (by decide) (by decide), ← hC.num 1 0 rfl] at this
    exact this
end C2
end
section
/-! ===== set, light ===== -/
def vlo (w : Nat) : Nat := match w with | 2 => 1 | 4 => 1 | _ => 0
def vhi (w : Nat) : Nat := match w with | 0 => 4095 | 1 => 9 | 2 => 999 | 3 => 99 | 4 => 99 | _ => 20
theorem vLeast_at {w : Nat} (hw : w < 6) : vLeast.getD w 0 = nI (vlo w) := by
  rcases (show w = 0 ∨ w = 1 ∨ w = 2 ∨ w = 3 ∨ w = 4 ∨ w = 5 by omega) with rfl | rfl | rfl | rfl | rfl | rfl <;> decide
theorem vMost_at {w : Nat} (hw : w < 6) : vMost.getD w 0 = nI (vhi w) := by
  rcases (show w = 0 ∨ w = 1 ∨ w = 2 ∨ w = 3 ∨ w = 4 ∨ w = 5 by omega) with rfl | rfl | rfl | rfl | rfl | rfl <;> decide
section C3
variable {G : vG} {d : Nat} {σ : vM} {post : vQ} {a : vα}
theorem sSet_0 {i0 v0 : Int32} : sSet a (nI 0) i0 v0 = match vix v0 4096 with | some x => (nI (a.1 1 0), vaput a 1 0 x) | none => (-2, a) := by
  unfold sSet
  rw [vix_nI (by decide) (by decide)]
  rfl
theorem sSet_w {w : Nat} {i0 v0 : Int32} (hw : w < 6) (h1 : 1 ≤ w) : sSet a (nI w) i0 v0 = match vix i0 (vpln a w) with | none => (-2, a) | some k => match vix v0 (vhi w + 1) with | none => (-2, a) | some x => if vlo w ≤ x then (nI (a.1 (vplc w) k), vaput a (vplc w) k x) else (-2, a) := by
  have key : ∀ (o1 o2 : Option Nat) (c lo : Nat), (match o1, o2 with | some k, some x => if lo ≤ x then (nI (a.1 c k), vaput a c k x) else ((-2 : Int32), a) | _, _ => ((-2 : Int32), a)) = match o1 with | none => ((-2 : Int32), a) | some k => match o2 with | none => (-2, a) | some x => if lo ≤ x then (nI (a.1 c k), vaput a c k x) else (-2, a) := by
    intro o1 o2 c lo
    cases o1 <;> cases o2 <;> rfl
  unfold sSet
  rw [vix_nI hw (by decide)]
  rcases (show w = 1 ∨ w = 2 ∨ w = 3 ∨ w = 4 ∨ w = 5 by omega) with rfl | rfl | rfl | rfl | rfl <;> exact key _ _ _ _
theorem sSet_no {w : Nat} {i0 v0 : Int32} (hw : w < 6) (hb : ¬ (nI (vlo w) ≤ v0 ∧ v0 ≤ nI (vhi w))) : sSet a (nI w) i0 v0 = (-2, a) := by
  have hhi : vhi w < 2 ^ 30 := by unfold vhi; split <;> decide
  rcases Nat.eq_zero_or_pos w with rfl | h1
  · rw [sSet_0, vix_btw (m := 4095) (by decide) hb]
  · rw [sSet_w hw h1]
    cases vix i0 (vpln a w) with
    | none => rfl
    | some k =>
      cases hx : vix v0 (vhi w + 1) with
      | none => rfl
      | some x =>
        obtain ⟨q1, q2⟩ := vix_some (by omega) hx
        exact if_neg (fun q => hb ⟨by rw [q2]; exact nI_le q (by omega), by rw [q2]; exact nI_le (Nat.le_of_lt_succ q1) (by omega)⟩)
theorem sSet_noI {w : Nat} {i0 v0 : Int32} (hW : vWF a) (hw : w < 6) (h1 : 1 ≤ w) (hn : ∀ j, j < vpln a w → ¬ i0 = nI j) : sSet a (nI w) i0 v0 = (-2, a) := by
  have hq := vpln_le hW w
  rw [sSet_w hw h1, vix_no (x := i0) (by omega) hn]
theorem sSet_yes {w j x : Nat} (hW : vWF a) (hw : w < 6) (h1 : 1 ≤ w) (hj : j < vpln a w) (hl : vlo w ≤ x) (hh : x ≤ vhi w) : sSet a (nI w) (nI j) (nI x) = (nI (a.1 (vplc w) j), vaput a (vplc w) j x) := by
  have hq := vpln_le hW w
  have hhi : vhi w < 2 ^ 30 := by unfold vhi; split <;> decide
  rw [sSet_w hw h1, vix_nI hj (by omega), vix_nI (Nat.lt_succ_of_le hh) (by omega)]
  exact if_pos hl
theorem vc_setB {w x : Nat} {i0 : Int32} (hw : w < 6) (hl : vlo w ≤ x) (hh : x ≤ vhi w) (hC : vRC a σ) (hW : vWF a) (h : ∀ σ', vag vKl σ σ' → vRC (sSet a (nI w) i0 (nI x)).2 σ' → post (some (.int (sSet a (nI w) i0 (nI x)).1)) σ') : VM G (d + 1) iX6_set 44 [some (.ref 0), some (.int (nI w)), some (.int i0), some (.int (nI x)), none, none] [] σ post := by
  have hT := hW.2.1.2
  refine VM.go [] ⟨fun c => ⟨_, VM.at (vb_placesOf (by omega) (Nat.pos_of_ne_zero (fun e => c (by rw [e]; rfl))) ?_), fun _ _ hh => hh⟩, fun c => ?_⟩
  · have h1 : 1 ≤ w := Nat.pos_of_ne_zero (fun e => c (by rw [e]; rfl))
    have hq := vpln_le hW w
    have bad : (∀ j, j < vpln a w → ¬ i0 = nI j) → post (some (.int (-2))) σ := fun hn => by
      have e := sSet_noI (v0 := nI x) hW hw h1 hn
      have := h σ vag.rf (by rw [e]; exact hC)
      rw [e] at this
      exact this
    have fin : i0 < 0 → post (some (.int (-2))) σ := fun c => bad (fun j hj e => absurd c (by rw [e]; exact nI_pos (by omega)))
    have fin2 : ¬ i0 < 0 → nI (vpln a w) ≤ i0 → post (some (.int (-2))) σ := fun _ c => bad (fun j hj e => by
      rw [e, nIle (by omega) (by omega)] at c
      omega)
    have mid : ∀ {P : Prop}, ¬ i0 < 0 → ¬ nI (vpln a w) ≤ i0 → (∀ j, j < vpln a w → i0 = nI j → P) → P := fun c1 c2 k => by
      obtain ⟨j, hj, rfl⟩ := nI_of c1
      rw [nIle (by omega) (by omega)] at c2
      exact k j (by omega) rfl
    have good : ∀ j, j < vpln a w → i0 = nI j → post (some (.int (σ.1 (vplc w) j))) (vput σ (vplc w) j (nI x)) := fun j hj e => by
      have es := sSet_yes hW hw h1 hj hl hh
      subst e
      have hp : vps (vplc w) j = true ∧ 2 ≤ vplc w ∧ vplc w ≤ 9 := by
        rcases (show w = 1 ∨ w = 2 ∨ w = 3 ∨ w = 4 ∨ w = 5 by omega) with rfl | rfl | rfl | rfl | rfl <;> exact ⟨rfl, by decide, by decide⟩
      have hk : vKl (vplc w) j = true := by
        unfold vKl
        rw [Nat.ble_eq]
        omega
      have := h (vput σ (vplc w) j (nI x)) (vag.rf.put hk) (by rw [es]; exact hC.put hp.1 (Or.inl ⟨by omega, by omega⟩) hT)
      rw [es, ← hC.num _ j hp.1] at this
      exact this
    rcases (show w = 1 ∨ w = 2 ∨ w = 3 ∨ w = 4 ∨ w = 5 by omega) with rfl | rfl | rfl | rfl | rfl
    all_goals refine ⟨fun c => fin c, fun c => ⟨_, VM.at (vb_placeCount (by decide) (by decide) hC ?_), fun _ _ hh => hh⟩⟩
    all_goals refine ⟨fun c2 => fin2 c c2, fun c2 => mid c c2 (fun j hj e => ?_)⟩
    all_goals have hg := good j hj e
    all_goals simp only [vpln] at hj hq
    · exact ⟨fun _ => ⟨j, e, by omega, nofun, j, e, by omega, hg⟩, fun c3 => absurd (show i0 < nI 6 by rw [e]; exact nI_lt (by omega) (by decide)) c3⟩
    · exact ⟨fun _ => ⟨j, e, by omega, nofun, j, e, by omega, hg⟩, fun c3 => absurd (show i0 < nI 6 by rw [e]; exact nI_lt (by omega) (by decide)) c3⟩
    · exact ⟨fun _ => ⟨j, e, by omega, nofun, j, e, by omega, hg⟩, fun c3 => absurd (show i0 < nI 5 by rw [e]; exact nI_lt (by omega) (by decide)) c3⟩
    · exact ⟨fun _ => ⟨j, e, by omega, nofun, j, e, by omega, hg⟩, fun c3 => absurd (show i0 < nI 4 by rw [e]; exact nI_lt (by omega) (by decide)) c3⟩
    · exact ⟨fun _ => ⟨j, e, by omega, nofun, j, e, by omega, hg⟩, fun c3 => absurd (show i0 < nI 4 by rw [e]; exact nI_lt (by omega) (by decide)) c3⟩
  · have e0 : w = 0 := by
      have q := congrArg Int32.toNatClampNeg c
      rw [nI_clamp (by omega)] at q
      exact q.trans (by decide)
    subst e0
    have es : sSet a (nI 0) i0 (nI x) = (nI (a.1 1 0), vaput a 1 0 x) := by
      have hh' : x ≤ 4095 := by simpa [vhi] using hh
      rw [sSet_0, vix_nI (show x < 4096 by omega) (by decide)]
    have := h (vput σ 1 0 (nI x)) (vag.rf.put rfl) (by rw [es]; exact hC.put rfl (Or.inl ⟨by decide, by decide⟩) hT)
    rw [es, ← hC.num 1 0 rfl] at this
    exact this
theorem vc_set {w0 i0 v0 : Int32} (hC : vRC a σ) (hW : vWF a) (h : ∀ σ', vag vKl σ σ' → vRC (sSet a w0 i0 v0).2 σ' → post (some (.int (sSet a w0 i0 v0).1)) σ') : VM G (d + 1) iX6_set 0 [some (.ref 0), some (.int w0), some (.int i0), some (.int v0), none, none] [] σ post := by
  have bad : sSet a w0 i0 v0 = (-2, a) → post (some (.int (-2))) σ := fun e => by
    have := h σ vag.rf (by rw [e]; exact hC)
    rw [e] at this
    exact this
  cases hv : vix w0 6 with
  | none =>
    have es : sSet a w0 i0 v0 = (-2, a) := by unfold sSet; rw [hv]
    refine VM.go [] ⟨fun _ => bad es, fun c => ⟨fun _ => bad es, fun c2 => ?_⟩⟩
    obtain ⟨j, hj, rfl⟩ := nI_of c
    have c2' : ¬ nI 6 ≤ nI j := c2
    rw [nIle (by decide) (by omega)] at c2'
    rw [vix_nI (by omega) (by decide)] at hv
    cases hv
  | some w =>
    obtain ⟨hw, rfl⟩ := vix_some (by decide) hv
    refine VM.go [23] ⟨fun c => absurd c (nI_pos (by omega)), fun _ => ⟨fun c => absurd c (nI_ge hw (by decide)), fun _ => ⟨fun _ => ?_, fun c => absurd (show nI w < nI 6 from nI_lt hw (by decide)) c⟩⟩⟩
    show VM G (d + 1) iX6_set 23 _ _ _ _
    refine VM.go [44] ⟨w, rfl, hw, fun c => ?_, fun c => ⟨w, rfl, hw, fun c2 => ?_, fun c2 => ?_⟩⟩
    · have c : v0 < vLeast.getD w 0 := c
      rw [vLeast_at hw] at c
      exact bad (sSet_no hw (fun q => absurd c (Int32.not_lt.mpr q.1)))
    · have c : ¬ v0 < vLeast.getD w 0 := c
      have c2 : v0 ≤ vMost.getD w 0 := c2
      rw [vLeast_at hw] at c
      rw [vMost_at hw] at c2
      have hlo : vlo w < 2 ^ 31 := by unfold vlo; split <;> decide
      have hhi : vhi w < 2 ^ 31 := by unfold vhi; split <;> decide
      obtain ⟨x, hx, rfl⟩ := vnat hhi (by
        rw [Int32.le_iff_toInt_le]
        have c3 := Int32.le_iff_toInt_le.mp (Int32.not_lt.mp c)
        have c4 := Int32.le_iff_toInt_le.mp (Int32.not_lt.mp (nI_pos hlo))
        omega) c2
      rw [nIlt (by omega) hlo] at c
      show VM G (d + 1) iX6_set 44 _ _ _ _
      exact vc_setB hw (by omega) hx hC hW h
    · have c2 : ¬ v0 ≤ vMost.getD w 0 := c2
      rw [vMost_at hw] at c2
      exact bad (sSet_no hw (fun q => c2 q.2))
end C3
end
section
/-! ===== light ===== -/
section C4
variable {G : vG} {d : Nat} {σ : vM} {post : vQ} {a : vα}
theorem vb_addLight {k m y : Nat} (hC : vRC a σ) (hW : vWF a) (h4 : a.1 1 2 = 6 → post (some (.int (-4))) σ) (h : a.1 1 2 < 6 → ∀ σ', vag vKl σ σ' → vRC (vlight a k m y) σ' → post (some (.int (nI (a.1 1 2)))) σ') : VM G d iX5_addLight 0 [some (.ref 1), some (.int (nI k)), some (.int (nI m)), some (.int (nI y)), none, none] [] σ post := by
  have hn6 := hW.1.2.2
  have hT := hW.2.1.2
  have hn := hC.num 1 2 rfl
  obtain ⟨n, hgn⟩ : ∃ n, n = a.1 1 2 := ⟨_, rfl⟩
  unfold vlight at h
  rw [← hgn] at hn6 hn h4 h
  refine VM.go [6] ?_
  show VM G d iX5_addLight 6 _ _ _ _
  rw [hn]
  by_cases e6 : n = 6
  · refine VM.go [] ⟨fun _ => h4 e6, fun _ => ⟨fun c => absurd c ?_, fun _ => h4 e6⟩⟩
    rw [e6]; decide
  · have hlt : n < 6 := by omega
    have key : ∀ i, i ≤ 5 → ∀ s2, vag vKl σ s2 → vRC (vseen0 (vaput (vaput (vaput a 2 n k) 3 n m) 4 n y) n i) s2 → VM G d iX5_addLight 48 [some (.ref 1), some (.int (nI k)), some (.int (nI m)), some (.int (nI y)), some (.int (nI n)), some (.int (nI i))] [] s2 post := by
      refine vloop _ ?_ ?_
      · intro s2 hs2 h2
        refine VM.go [48] ⟨fun _ => ?_, fun c1 => absurd (by decide) c1⟩
        have hT2 : (vseen0 (vaput (vaput (vaput a 2 n k) 3 n m) 4 n y) n 5).1 0 4 ≤ 6 := by rw [vseen0_ne (by decide)]; exact hT
        have := h hlt (vput s2 1 2 (nI (n + 1))) (hs2.put rfl) (h2.put rfl (Or.inl ⟨by decide, by decide⟩) hT2)
        rw [← nI_1] at this
        exact this
      · intro i hi ih s2 hs2 h2
        have ix : nI i * 6 + nI n = nI (6 * i + n) := by
          rw [show (6 : Int32) = nI 6 from rfl, pk_mul, nI_add, Nat.mul_comm]
        refine VM.go [48] ⟨fun c1 => absurd c1 (nI_ge hi (by decide)), fun _ => ⟨nofun, 6 * i + n, ix, by omega, ?_⟩⟩
        have hT2 : (vseen0 (vaput (vaput (vaput a 2 n k) 3 n m) 4 n y) n i).1 0 4 ≤ 6 := by rw [vseen0_ne (by decide)]; exact hT
        have := ih (vput s2 5 (6 * i + n) (nI 0)) (hs2.put rfl) (h2.put rfl (Or.inl ⟨by decide, by decide⟩) hT2)
        rw [← nI_1] at this
        exact this
    refine VM.go [48] ⟨fun c => absurd c (nI_pos (by omega)), fun _ => ⟨fun _ => ⟨nofun, n, rfl, hlt, nofun, n, rfl, hlt, nofun, n, rfl, hlt, ?_⟩, fun c => absurd (show nI n < nI 6 from nI_lt hlt (by decide)) c⟩⟩
    exact key 0 (Nat.zero_le _) _ (((vag.rf.put rfl).put rfl).put rfl) (((hC.put (c := 2) rfl (Or.inl ⟨by decide, by decide⟩) hT).put (c := 3) rfl (Or.inl ⟨by decide, by decide⟩) hT).put (c := 4) rfl (Or.inl ⟨by decide, by decide⟩) hT)
theorem vnat1 {x : Int32} {m : Nat} (hm : m < 2 ^ 31) (h0 : 1 ≤ x) (h1 : x ≤ nI m) : ∃ n : Nat, 1 ≤ n ∧ n ≤ m ∧ x = nI n := by
  obtain ⟨n, hn, rfl⟩ := vnat hm (by
    rw [Int32.le_iff_toInt_le] at h0 ⊢
    rw [show (1 : Int32).toInt = 1 from by decide] at h0
    rw [show (0 : Int32).toInt = 0 from by decide]
    omega) h1
  rw [show (1 : Int32) = nI 1 from rfl, nIle (by decide) (by omega)] at h0
  exact ⟨n, h0, hn, rfl⟩
theorem sLight_no {k0 m0 y0 : Int32} (hn : ¬ (0 ≤ k0 ∧ k0 ≤ nI 5) ∨ ¬ (0 ≤ m0 ∧ m0 ≤ nI 9) ∨ ¬ (1 ≤ y0 ∧ y0 ≤ nI 999)) : sLight a k0 m0 y0 = (-2, a) := by
  unfold sLight
  cases hk : vix k0 6 with
  | none => rfl
  | some k =>
    cases hm : vix m0 10 with
    | none => rfl
    | some m =>
      cases hy : vix y0 1000 with
      | none => rfl
      | some y =>
        dsimp only
        obtain ⟨k1, rfl⟩ := vix_some (by decide) hk
        obtain ⟨m1, rfl⟩ := vix_some (by decide) hm
        obtain ⟨y1, rfl⟩ := vix_some (by decide) hy
        rcases hn with q | q | q
        · exact absurd ⟨Int32.not_lt.mp (nI_pos (by omega)), nI_le (show k ≤ 5 by omega) (by decide)⟩ q
        · exact absurd ⟨Int32.not_lt.mp (nI_pos (by omega)), nI_le (show m ≤ 9 by omega) (by decide)⟩ q
        · refine if_pos ?_
          rcases Nat.eq_zero_or_pos y with e | e
          · exact e
          · exact absurd ⟨show nI 1 ≤ nI y from nI_le e (by omega), nI_le (show y ≤ 999 by omega) (by decide)⟩ q
theorem vc_light {k0 m0 y0 : Int32} (hC : vRC a σ) (hW : vWF a) (h : ∀ σ', vag vKl σ σ' → vRC (sLight a k0 m0 y0).2 σ' → post (some (.int (sLight a k0 m0 y0).1)) σ') : VM G (d + 1) iX6_light 0 [some (.ref 0), some (.int k0), some (.int m0), some (.int y0)] [] σ post := by
  have bad : sLight a k0 m0 y0 = (-2, a) → post (some (.int (-2))) σ := fun e => by
    have := h σ vag.rf (by rw [e]; exact hC)
    rw [e] at this
    exact this
  refine VM.go [] ⟨_, VM.at (vb_between (fun b1 b2 => ?_) (fun hno => ?_)), fun _ _ hh => hh⟩
  · obtain ⟨k, hk, rfl⟩ := vnat (m := 5) (by decide) b1 b2
    refine ⟨fun c => absurd c (by decide), fun _ => ⟨_, VM.at (vb_between (fun b1 b2 => ?_) (fun hno => ?_)), fun _ _ hh => hh⟩⟩
    · obtain ⟨m, hm, rfl⟩ := vnat (m := 9) (by decide) b1 b2
      refine ⟨fun c => absurd c (by decide), fun _ => ⟨_, VM.at (vb_between (fun b1 b2 => ?_) (fun hno => ?_)), fun _ _ hh => hh⟩⟩
      · obtain ⟨y, hy1, hy, rfl⟩ := vnat1 (m := 999) (by decide) b1 b2
        have es : sLight a (nI k) (nI m) (nI y) = if a.1 1 2 = 6 then (-4, a) else (nI (a.1 1 2), vlight a k m y) := by
          unfold sLight
          rw [vix_nI (show k < 6 by omega) (by decide), vix_nI (show m < 10 by omega) (by decide), vix_nI (show y < 1000 by omega) (by decide)]
          exact if_neg (by omega)
        rw [es] at h
        refine ⟨fun _ => ⟨_, VM.at (vb_addLight hC hW (fun e6 => ?_) (fun hlt s2 hs2 h2 => ?_)), fun _ _ hh => hh⟩, fun c => absurd c (by decide)⟩
        · rw [if_pos e6] at h
          exact h σ vag.rf hC
        · rw [if_neg (by omega)] at h
          exact h s2 hs2 h2
      · exact ⟨fun c => absurd rfl c, fun _ => bad (sLight_no (Or.inr (Or.inr hno)))⟩
    · exact ⟨fun _ => bad (sLight_no (Or.inr (Or.inl hno))), fun c => absurd rfl c⟩
  · exact ⟨fun _ => bad (sLight_no (Or.inl hno)), fun c => absurd rfl c⟩
end C4
end
section
/-! ===== Purse ===== -/
/-- (0: none, else the fewest and one more; how much it falls short; the way) -/
abbrev vQS : Type := Nat × Nat × (Nat → Nat)
def vmp (a : vα) (k x : Nat) : Nat := min (a.1 9 k) (x / a.1 8 k)
def vway (A b c e : Nat) (k : Nat) : Nat := match k with | 0 => A | 1 => b | 2 => c | _ => e
def vpk (st : vQS) (A b c e l : Nat) : vQS := if l = 0 ∧ (st.1 = 0 ∨ A + b + c + e + 1 < st.1) then (A + b + c + e + 1, min st.2.1 l, vway A b c e) else (st.1, min st.2.1 l, st.2.2)
def vskB (a : vα) (c e x : Nat) : Nat → vQS → vQS
  | 0, st => st
  | n + 1, st => vskB a c e x n (vpk st (vmp a 0 (x - n * a.1 8 1)) n c e (x - n * a.1 8 1 - vmp a 0 (x - n * a.1 8 1) * a.1 8 0))
def vskC (a : vα) (e x : Nat) : Nat → vQS → vQS
  | 0, st => st
  | n + 1, st => vskC a e x n (vskB a n e (x - n * a.1 8 2) (vmp a 1 (x - n * a.1 8 2) + 1) st)
def vskD (a : vα) (x : Nat) : Nat → vQS → vQS
  | 0, st => st
  | n + 1, st => vskD a x n (vskC a n (x - n * a.1 8 3) (vmp a 2 (x - n * a.1 8 3) + 1) st)
def vseek (a : vα) (x : Nat) : vQS := vskD a x (vmp a 3 x + 1) (0, x, fun _ => 0)
/-- the purse holds it -/
def vPu (st : vQS) (σ : vM) : Prop := σ.1 47 0 = nI st.1 - 1 ∧ σ.1 47 1 = nI st.2.1 ∧ (1 ≤ st.1 → ∀ k, k < 4 → σ.1 48 k = nI (st.2.2 k)) ∧ st.1 ≤ 81 ∧ st.2.1 ≤ 999
theorem nI_min {p q : Nat} (hp : p < 2 ^ 31) (hq : q < 2 ^ 31) : (if nI q < nI p then nI q else nI p) = nI (min p q) := by
  by_cases h : q < p
  · rw [if_pos ((nIlt hq hp).mpr h), Nat.min_eq_right (Nat.le_of_lt h)]
  · rw [if_neg (fun e => h ((nIlt hq hp).mp e)), Nat.min_eq_left (Nat.le_of_not_lt h)]
theorem nI_m1a (x : Int32) : x + (-1) = x - 1 := by rw [Int32.sub_eq_add_neg]
theorem vmp_mul {a : vα} {k x n : Nat} (h : n ≤ vmp a k x) : n * a.1 8 k ≤ x := by
  unfold vmp at h
  have h2 : n ≤ x / a.1 8 k := Nat.le_trans h (Nat.min_le_right _ _)
  exact Nat.le_trans (Nat.mul_le_mul_right _ h2) (Nat.div_mul_le_self _ _)
section PU
variable {G : vG} {d : Nat} {σ : vM} {post : vQ} {a : vα}
theorem vWF.br (hW : vWF a) {k : Nat} (hk : k < 4) : 1 ≤ a.1 8 k ∧ a.1 8 k ≤ 99 ∧ a.1 9 k ≤ 20 := hW.2.2.2.2.2.1 k hk
theorem vmp_le (hW : vWF a) {k x : Nat} (hk : k < 4) : vmp a k x ≤ 20 := Nat.le_trans (Nat.min_le_left _ _) (hW.br hk).2.2
theorem vb_most {k x : Nat} (hk : k < 4) (hx : x < 2 ^ 31) (hC : vRC a σ) (hW : vWF a) (h : post (some (.int (nI (vmp a k x)))) σ) : VM G (d + 1) iX1_most 0 [some (.int (nI k)), some (.int (nI x)), some (.ref 8), some (.ref 9)] [] σ post := by
  obtain ⟨w1, w2, w3⟩ := hW.br hk
  have e8 : σ.1 8 k = nI (a.1 8 k) := hC.num 8 k rfl
  have e9 : σ.1 9 k = nI (a.1 9 k) := hC.num 9 k rfl
  have hd : x / a.1 8 k ≤ x := Nat.div_le_self _ _
  have e : (if σ.1 8 k = 0 then (0 : Int32) else 0) = 0 := ite_self _
  have fin : post (some (.int (if nI x / σ.1 8 k < σ.1 9 k then nI x / σ.1 8 k else σ.1 9 k))) σ := by
    rw [e8, e9, pk_div hx (by omega) (by omega), nI_min (by omega) (by omega)]
    exact h
  refine VM.go [] ⟨k, rfl, hk, fun _ => ⟨k, rfl, hk, k, rfl, hk, ?_, fin⟩, fun c => absurd ?_ c⟩
  · rw [e8]
    intro q
    have := congrArg Int32.toNatClampNeg q
    rw [nI_clamp (by omega)] at this
    have h0 : (0 : Int32).toNatClampNeg = 0 := by decide
    omega
  · rw [e8]; exact nI_le (show 1 ≤ a.1 8 k from w1) (by omega)
theorem vb_keep {x1 x2 x3 x4 : Int32} (h : post none (vput (vput (vput (vput (vput σ 48 0 x1) 48 1 x2) 48 2 x3) 48 3 x4) 47 0 (x1 + x2 + x3 + x4))) : VM G d iX1_keep 0 [some (.ref 47), some (.int x1), some (.int x2), some (.int x3), some (.int x4)] [] σ post := by
  exact VM.go [] ⟨nofun, 0, rfl, by decide, nofun, 1, rfl, by decide, nofun, 2, rfl, by decide, nofun, 3, rfl, by decide, h⟩
theorem nI_m1e {f : Nat} (hf : f < 2 ^ 31) : nI f - 1 = -1 ↔ f = 0 := by
  constructor
  · intro q
    cases f with
    | zero => rfl
    | succ f =>
      rw [nI_pred f] at q
      exact absurd (show nI f < 0 by rw [q]; decide) (nI_pos (by omega))
  · rintro rfl; decide
theorem vPu.keep {st : vQS} {A b c e : Nat} (hA : A ≤ 20) (hb : b ≤ 20) (hc : c ≤ 20) (he : e ≤ 20) (hP : vPu st σ) (hq : st.1 = 0 ∨ A + b + c + e + 1 < st.1) : vPu (vpk st A b c e 0) (vput (vput (vput (vput (vput (vput σ 47 1 (nI (min st.2.1 0))) 48 0 (nI A)) 48 1 (nI b)) 48 2 (nI c)) 48 3 (nI e)) 47 0 (nI A + nI b + nI c + nI e)) := by
  unfold vpk
  rw [if_pos ⟨rfl, hq⟩]
  refine ⟨?_, rfl, fun _ k hk => ?_, by dsimp only; omega, by dsimp only; omega⟩
  · rw [vput_eq, nI_add, nI_add, nI_add]
    exact (nI_pred _).symm
  · rcases (show k = 0 ∨ k = 1 ∨ k = 2 ∨ k = 3 by omega) with rfl | rfl | rfl | rfl <;> rfl
theorem vPu.skip {st : vQS} {A b c e l : Nat} (hP : vPu st σ) (hq : ¬ (l = 0 ∧ (st.1 = 0 ∨ A + b + c + e + 1 < st.1))) : vPu (vpk st A b c e l) (vput σ 47 1 (nI (min st.2.1 l))) := by
  obtain ⟨p1, p2, p3, p4, p5⟩ := hP
  unfold vpk
  rw [if_neg hq]
  exact ⟨p1, rfl, p3, p4, by dsimp only; omega⟩
theorem vb_seekB {x X e c : Nat} {ya yb : Option Value} (hC : vRC a σ) (hW : vWF a) (hX : X ≤ 999) (hc : c ≤ 20) (he : e ≤ 20) : ∀ n, n ≤ vmp a 1 X + 1 → ∀ (st : vQS) (s2 : vM) (y9 y10 y11 : Option Value), vag vCs σ s2 → vPu st s2 → (∀ (s3 : vM) (y8 y9 y10 y11 : Option Value), vag vCs σ s3 → vPu (vskB a c e X n st) s3 → VM G (d + 2) iX1_seek 182 [some (.ref 47), some (.int (nI x)), some (.ref 8), some (.ref 9), some (.int (nI e)), ya, some (.int (nI c)), yb, y8, y9, y10, y11] [] s3 post) → yb = some (.int (nI X)) → VM G (d + 2) iX1_seek 83 [some (.ref 47), some (.int (nI x)), some (.ref 8), some (.ref 9), some (.int (nI e)), ya, some (.int (nI c)), yb, some (.int (nI n - 1)), y9, y10, y11] [] s2 post := by
  intro n
  induction n with
  | zero =>
    intro hn st s2 y9 y10 y11 hs2 hP h hy
    subst hy
    exact VM.go [83, 182] ⟨fun _ => h s2 _ _ _ _ hs2 hP, fun q => absurd (by decide) q⟩
  | succ n ih =>
    intro hn st s2 y9 y10 y11 hs2 hP h hy
    subst hy
    have hT := hW.2.1.2
    have hC2 := hC.ag hs2 hT
    obtain ⟨w1, w2, w3⟩ := hW.br (k := 1) (by decide)
    obtain ⟨v1, v2, v3⟩ := hW.br (k := 0) (by decide)
    have hm := vmp_mul (show n ≤ vmp a 1 X by omega)
    have hn20 : n ≤ 20 := by have := vmp_le hW (k := 1) (x := X) (by decide); omega
    rw [nI_pred n]
    obtain ⟨Y, hY⟩ : ∃ Y, Y = X - n * a.1 8 1 := ⟨_, rfl⟩
    refine VM.go [99] ⟨fun q => absurd q (nI_pos (by omega)), fun _ => ⟨1, rfl, by decide, ?_⟩⟩
    show VM G (d + 2) iX1_seek 99 _ _ _ _
    rw [hC2.num 8 1 rfl, pk_mul, show nI X - nI (n * a.1 8 1) = nI Y from by rw [hY]; exact pk_sub hm]
    refine VM.go [109] ⟨_, VM.at (vb_most (k := 0) (by decide) (by omega) hC2 hW ?_), fun _ _ hh => hh⟩
    obtain ⟨A, hA⟩ : ∃ A, A = vmp a 0 Y := ⟨_, rfl⟩
    have hA20 : A ≤ 20 := by rw [hA]; exact vmp_le hW (by decide)
    have hmA := vmp_mul (show A ≤ vmp a 0 Y by omega)
    obtain ⟨l, hl⟩ : ∃ l, l = Y - A * a.1 8 0 := ⟨_, rfl⟩
    rw [← hA]
    refine VM.at (VM.go [120] ⟨0, rfl, by decide, ?_⟩)
    show VM G (d + 2) iX1_seek 120 _ _ _ _
    rw [hC2.num 8 0 rfl, pk_mul, show nI Y - nI (A * a.1 8 0) = nI l from by rw [hl]; exact pk_sub hmA]
    obtain ⟨p1, p2, p3, p4, p5⟩ := hP
    refine VM.go [133] ?_
    show VM G (d + 2) iX1_seek 133 _ _ _ _
    rw [p2, nI_min (by omega) (by omega)]
    have cont : ∀ s4, vag vCs σ s4 → vPu (vpk st A n c e l) s4 → VM G (d + 2) iX1_seek 176 [some (.ref 47), some (.int (nI x)), some (.ref 8), some (.ref 9), some (.int (nI e)), ya, some (.int (nI c)), some (.int (nI X)), some (.int (nI n)), some (.int (nI Y)), some (.int (nI A)), some (.int (nI l))] [] s4 post := by
      intro s4 hs4 hP4
      refine VM.go [83] ?_
      show VM G (d + 2) iX1_seek 83 _ _ _ _
      rw [nI_m1a]
      refine ih (by omega) _ s4 _ _ _ hs4 hP4 (fun s5 y8 y9 y10 y11 hs5 hP5 => h s5 y8 y9 y10 y11 hs5 ?_) rfl
      rw [hl, hA, hY] at hP5
      exact hP5
    have hs3 : vag vCs σ (vput s2 47 1 (nI (min st.2.1 l))) := hs2.put rfl
    have skip := fun hq => cont _ hs3 (vPu.skip (A := A) (b := n) (c := c) (e := e) (l := l) ⟨p1, p2, p3, p4, p5⟩ hq)
    by_cases hl0 : l = 0
    · have keep := fun hq => cont _ (((((hs3.put (v := nI A) (show vCs 48 0 = true from rfl)).put (v := nI n) (show vCs 48 1 = true from rfl)).put (v := nI c) (show vCs 48 2 = true from rfl)).put (v := nI e) (show vCs 48 3 = true from rfl)).put (v := nI A + nI n + nI c + nI e) (show vCs 47 0 = true from rfl)) (by rw [hl0]; exact vPu.keep hA20 hn20 hc he ⟨p1, p2, p3, p4, p5⟩ hq)
      subst hl0
      have es : nI A + nI n + nI c + nI e = nI (A + n + c + e) := by rw [nI_add, nI_add, nI_add]
      refine VM.go [176] ⟨fun q => absurd rfl q, fun _ => ⟨fun q => ⟨_, VM.at (vb_keep ?_), fun _ _ hh => hh⟩, fun q => ⟨fun q2 => ?_, fun q2 => ⟨_, VM.at (vb_keep ?_), fun _ _ hh => hh⟩⟩⟩⟩
      · have q' : s2.1 47 0 = -1 := q
        rw [p1, nI_m1e (by omega)] at q'
        exact VM.at (keep (Or.inl q'))
      · have q' : ¬ s2.1 47 0 = -1 := q
        rw [p1, nI_m1e (by omega)] at q'
        have q2' : s2.1 47 0 ≤ nI A + nI n + nI c + nI e := q2
        rw [p1, es, show st.1 = (st.1 - 1) + 1 by omega, nI_pred, nIle (by omega) (by omega)] at q2'
        exact VM.at (skip (fun r => by rcases r.2 with r | r <;> omega))
      · have q' : ¬ s2.1 47 0 = -1 := q
        rw [p1, nI_m1e (by omega)] at q'
        have q2' : ¬ s2.1 47 0 ≤ nI A + nI n + nI c + nI e := q2
        rw [p1, es, show st.1 = (st.1 - 1) + 1 by omega, nI_pred, nIle (by omega) (by omega)] at q2'
        exact VM.at (keep (Or.inr (by omega)))
    · refine VM.go [176] ⟨fun _ => VM.at (skip (fun r => hl0 r.1)), fun q => absurd q ?_⟩
      intro q
      have := congrArg Int32.toNatClampNeg q
      rw [nI_clamp (by omega)] at this
      exact hl0 (this.trans (by decide))
theorem vb_seekC {x X e : Nat} {ya : Option Value} (hC : vRC a σ) (hW : vWF a) (hX : X ≤ 999) (he : e ≤ 20) : ∀ n, n ≤ vmp a 2 X + 1 → ∀ (st : vQS) (s2 : vM) (y7 y8 y9 y10 y11 : Option Value), vag vCs σ s2 → vPu st s2 → (∀ (s3 : vM) (y6 y7 y8 y9 y10 y11 : Option Value), vag vCs σ s3 → vPu (vskC a e X n st) s3 → VM G (d + 2) iX1_seek 188 [some (.ref 47), some (.int (nI x)), some (.ref 8), some (.ref 9), some (.int (nI e)), ya, y6, y7, y8, y9, y10, y11] [] s3 post) → ya = some (.int (nI X)) → VM G (d + 2) iX1_seek 57 [some (.ref 47), some (.int (nI x)), some (.ref 8), some (.ref 9), some (.int (nI e)), ya, some (.int (nI n - 1)), y7, y8, y9, y10, y11] [] s2 post := by
  intro n
  induction n with
  | zero =>
    intro hn st s2 y7 y8 y9 y10 y11 hs2 hP h hy
    subst hy
    exact VM.go [57, 188] ⟨fun _ => h s2 _ _ _ _ _ _ hs2 hP, fun q => absurd (by decide) q⟩
  | succ n ih =>
    intro hn st s2 y7 y8 y9 y10 y11 hs2 hP h hy
    subst hy
    have hT := hW.2.1.2
    have hC2 := hC.ag hs2 hT
    obtain ⟨w1, w2, w3⟩ := hW.br (k := 2) (by decide)
    have hm := vmp_mul (show n ≤ vmp a 2 X by omega)
    have hn20 : n ≤ 20 := by have := vmp_le hW (k := 2) (x := X) (by decide); omega
    rw [nI_pred n]
    obtain ⟨Y, hY⟩ : ∃ Y, Y = X - n * a.1 8 2 := ⟨_, rfl⟩
    refine VM.go [73] ⟨fun q => absurd q (nI_pos (by omega)), fun _ => ⟨2, rfl, by decide, ?_⟩⟩
    show VM G (d + 2) iX1_seek 73 _ _ _ _
    rw [hC2.num 8 2 rfl, pk_mul, show nI X - nI (n * a.1 8 2) = nI Y from by rw [hY]; exact pk_sub hm]
    refine VM.go [83] ⟨_, VM.at (vb_most (k := 1) (by decide) (by omega) hC2 hW ?_), fun _ _ hh => hh⟩
    rw [← nI_pred (vmp a 1 Y)]
    refine VM.at (VM.go [83] ?_)
    show VM G (d + 2) iX1_seek 83 _ _ _ _
    refine vb_seekB hC hW (by omega) hn20 he _ (Nat.le_refl _) st s2 _ _ _ hs2 hP (fun s3 y8 y9 y10 y11 hs3 hP3 => ?_) rfl
    refine VM.go [57] ?_
    show VM G (d + 2) iX1_seek 57 _ _ _ _
    rw [nI_m1a]
    refine ih (by omega) _ s3 _ _ _ _ _ hs3 hP3 (fun s5 y6 y7 y8 y9 y10 y11 hs5 hP5 => h s5 y6 y7 y8 y9 y10 y11 hs5 ?_) rfl
    rw [hY] at hP5
    exact hP5
theorem vb_seekD {x : Nat} (hC : vRC a σ) (hW : vWF a) (hx : x ≤ 999) : ∀ n, n ≤ vmp a 3 x + 1 → ∀ (st : vQS) (s2 : vM) (y5 y6 y7 y8 y9 y10 y11 : Option Value), vag vCs σ s2 → vPu st s2 → (∀ (s3 : vM), vag vCs σ s3 → vPu (vskD a x n st) s3 → post none s3) → VM G (d + 2) iX1_seek 32 [some (.ref 47), some (.int (nI x)), some (.ref 8), some (.ref 9), some (.int (nI n - 1)), y5, y6, y7, y8, y9, y10, y11] [] s2 post := by
  intro n
  induction n with
  | zero =>
    intro hn st s2 y5 y6 y7 y8 y9 y10 y11 hs2 hP h
    exact VM.go [32] ⟨fun _ => h s2 hs2 hP, fun q => absurd (by decide) q⟩
  | succ n ih =>
    intro hn st s2 y5 y6 y7 y8 y9 y10 y11 hs2 hP h
    have hT := hW.2.1.2
    have hC2 := hC.ag hs2 hT
    obtain ⟨w1, w2, w3⟩ := hW.br (k := 3) (by decide)
    have hm := vmp_mul (show n ≤ vmp a 3 x by omega)
    have hn20 : n ≤ 20 := by have := vmp_le hW (k := 3) (x := x) (by decide); omega
    rw [nI_pred n]
    obtain ⟨Y, hY⟩ : ∃ Y, Y = x - n * a.1 8 3 := ⟨_, rfl⟩
    refine VM.go [47] ⟨fun q => absurd q (nI_pos (by omega)), fun _ => ⟨3, rfl, by decide, ?_⟩⟩
    show VM G (d + 2) iX1_seek 47 _ _ _ _
    rw [hC2.num 8 3 rfl, pk_mul, show nI x - nI (n * a.1 8 3) = nI Y from by rw [hY]; exact pk_sub hm]
    refine VM.go [57] ⟨_, VM.at (vb_most (k := 2) (by decide) (by omega) hC2 hW ?_), fun _ _ hh => hh⟩
    rw [← nI_pred (vmp a 2 Y)]
    refine VM.at (VM.go [57] ?_)
    show VM G (d + 2) iX1_seek 57 _ _ _ _
    refine vb_seekC hC hW (by omega) hn20 _ (Nat.le_refl _) st s2 _ _ _ _ _ hs2 hP (fun s3 y6 y7 y8 y9 y10 y11 hs3 hP3 => ?_) rfl
    refine VM.go [32] ?_
    show VM G (d + 2) iX1_seek 32 _ _ _ _
    rw [nI_m1a]
    refine ih (by omega) _ s3 _ _ _ _ _ _ _ hs3 hP3 (fun s5 hs5 hP5 => h s5 hs5 ?_)
    rw [hY] at hP5
    exact hP5
theorem vb_seek {x : Nat} (hx : x ≤ 999) (hC : vRC a σ) (hW : vWF a) (h : ∀ σ', vag vCs σ σ' → vPu (vseek a x) σ' → post none σ') : VM G (d + 2) iX1_seek 0 [some (.ref 47), some (.int (nI x)), some (.ref 8), some (.ref 9), none, none, none, none, none, none, none, none] [] σ post := by
  have hs1 : vag vCs σ (vput (vput σ 47 0 (-1)) 47 1 (nI x)) := (vag.rf.put rfl).put rfl
  refine VM.go [32] ⟨fun q => absurd q (by decide), fun _ => ⟨fun _ => ⟨_, VM.at (vb_most (k := 3) (by decide) (by omega) (hC.ag hs1 hW.2.1.2) hW ?_), fun _ _ hh => hh⟩, fun q => absurd (by decide) q⟩⟩
  rw [← nI_pred (vmp a 3 x)]
  refine VM.at (VM.go [32] ?_)
  show VM G (d + 2) iX1_seek 32 _ _ _ _
  exact vb_seekD hC hW hx _ (Nat.le_refl _) (0, x, fun _ => 0) _ _ _ _ _ _ _ _ hs1 ⟨show (-1 : Int32) = nI 0 - 1 by decide, rfl, fun q => absurd q (Nat.not_succ_le_zero 0), Nat.zero_le _, hx⟩ h
end PU
end
section
/-! ===== pieces, pay ===== -/
def sPieces (a : vα) (x what : Int32) : Int32 := match vix x 1000, vix what 3 with
  | some x, some w => if w = 0 then (if (vseek a x).1 = 0 then 0 else 1) else if w = 1 then nI (vseek a x).1 - 1 else nI (x - (vseek a x).2.1)
  | _, _ => -2
def vpaid (a : vα) (w : Nat → Nat) : Nat → vα
  | 0 => a
  | i + 1 => vaput (vpaid a w i) 9 i (a.1 9 i - w i)
theorem vpaid_ne {a : vα} {w : Nat → Nat} {i c k : Nat} (h : c ≠ 9 ∨ i ≤ k) : (vpaid a w i).1 c k = a.1 c k := by
  induction i with
  | zero => rfl
  | succ i ih => exact (vaput_ne (by rcases h with h | h; exact Or.inl h; exact Or.inr (by omega))).trans (ih (by rcases h with h | h; exact Or.inl h; exact Or.inr (by omega)))
def sPay (a : vα) (looker : Int32) : vR2 := match vix looker 5 with
  | none => (-2, a)
  | some p => if 999 < vallA a (a.1 1 0) p then (-3, a) else if (vseek a (vallA a (a.1 1 0) p)).1 = 0 then (-3, a) else (nI (vseek a (vallA a (a.1 1 0) p)).1 - 1, vaput (vpaid a (vseek a (vallA a (a.1 1 0) p)).2.2 4) 7 p (a.1 7 p + vallA a (a.1 1 0) p))
theorem vskB_ind {a : vα} {I : vQS → Prop} {c e X : Nat} (h : ∀ st b, b ≤ vmp a 1 X → I st → I (vpk st (vmp a 0 (X - b * a.1 8 1)) b c e (X - b * a.1 8 1 - vmp a 0 (X - b * a.1 8 1) * a.1 8 0))) : ∀ n, n ≤ vmp a 1 X + 1 → ∀ st, I st → I (vskB a c e X n st) := by
  intro n
  induction n with
  | zero => exact fun _ st hI => hI
  | succ n ih => exact fun hn st hI => ih (by omega) _ (h st n (by omega) hI)
theorem vskC_ind {a : vα} {I : vQS → Prop} {e X : Nat} (h : ∀ st c n, c ≤ vmp a 2 X → n ≤ vmp a 1 (X - c * a.1 8 2) + 1 → I st → I (vskB a c e (X - c * a.1 8 2) n st)) : ∀ n, n ≤ vmp a 2 X + 1 → ∀ st, I st → I (vskC a e X n st) := by
  intro n
  induction n with
  | zero => exact fun _ st hI => hI
  | succ n ih => exact fun hn st hI => ih (by omega) _ (h st n _ (by omega) (Nat.le_refl _) hI)
theorem vskD_ind {a : vα} {I : vQS → Prop} {x : Nat} (h : ∀ st e n, e ≤ vmp a 3 x → n ≤ vmp a 2 (x - e * a.1 8 3) + 1 → I st → I (vskC a e (x - e * a.1 8 3) n st)) : ∀ n, n ≤ vmp a 3 x + 1 → ∀ st, I st → I (vskD a x n st) := by
  intro n
  induction n with
  | zero => exact fun _ st hI => hI
  | succ n ih => exact fun hn st hI => ih (by omega) _ (h st n _ (by omega) (Nat.le_refl _) hI)
theorem vseek_ind {a : vα} {I : vQS → Prop} {x : Nat} (h0 : I (0, x, fun _ => 0)) (h : ∀ st e c b, e ≤ vmp a 3 x → c ≤ vmp a 2 (x - e * a.1 8 3) → b ≤ vmp a 1 (x - e * a.1 8 3 - c * a.1 8 2) → I st → I (vpk st (vmp a 0 (x - e * a.1 8 3 - c * a.1 8 2 - b * a.1 8 1)) b c e (x - e * a.1 8 3 - c * a.1 8 2 - b * a.1 8 1 - vmp a 0 (x - e * a.1 8 3 - c * a.1 8 2 - b * a.1 8 1) * a.1 8 0))) : I (vseek a x) :=
  vskD_ind (fun _ e n he hn hI => vskC_ind (fun _ c n hc hn hI => vskB_ind (fun _ b hb hI => h _ e c b he hc hb hI) n hn _ hI) n hn _ hI) _ (Nat.le_refl _) _ h0
theorem vmp_le9 {a : vα} {k x n : Nat} (h : n ≤ vmp a k x) : n ≤ a.1 9 k := Nat.le_trans h (Nat.min_le_left _ _)
theorem vseek_way {a : vα} {x : Nat} : ∀ k, k < 4 → (vseek a x).2.2 k ≤ a.1 9 k := by
  refine vseek_ind (I := fun st => ∀ k, k < 4 → st.2.2 k ≤ a.1 9 k) (fun k _ => Nat.zero_le _) (fun st e c b he hc hb hI k hk => ?_)
  unfold vpk
  split
  · rcases (show k = 0 ∨ k = 1 ∨ k = 2 ∨ k = 3 by omega) with rfl | rfl | rfl | rfl
    · exact vmp_le9 (Nat.le_refl _)
    · exact vmp_le9 hb
    · exact vmp_le9 hc
    · exact vmp_le9 he
  · exact hI k hk
theorem vseek_sh {a : vα} {x : Nat} : (vseek a x).2.1 ≤ x := by
  refine vseek_ind (I := fun st => st.2.1 ≤ x) (Nat.le_refl _) (fun st e c b he hc hb hI => ?_)
  unfold vpk
  split <;> exact Nat.le_trans (Nat.min_le_left _ _) hI
theorem vKl_Cs (c k : Nat) (h : vKl c k = false) : vCs c k = false := by
  cases hb : vCs c k with
  | false => rfl
  | true =>
    exfalso
    have e : vKl c k = true := by
      simp only [vCs, vKl, Bool.or_eq_true, Bool.and_eq_true, Nat.ble_eq, vbq] at hb ⊢
      omega
    rw [e] at h
    cases h
section PY
variable {G : vG} {d : Nat} {σ : vM} {post : vQ} {a : vα}
theorem vc_pieces {x0 w0 : Int32} (hC : vRC a σ) (hW : vWF a) (h : ∀ σ', vag vCs σ σ' → post (some (.int (sPieces a x0 w0))) σ') : VM G (d + 3) iX6_pieces 0 [some (.ref 0), some (.int x0), some (.int w0)] [] σ post := by
  have bad : sPieces a x0 w0 = -2 → post (some (.int (-2))) σ := fun e => by
    have := h σ vag.rf
    rw [e] at this
    exact this
  refine VM.go [] ⟨_, VM.at (vb_between (fun b1 b2 => ?_) (fun hno => ?_)), fun _ _ hh => hh⟩
  · obtain ⟨x, hx, rfl⟩ := vnat (m := 999) (by decide) b1 b2
    refine ⟨fun c => absurd c (by decide), fun _ => ⟨_, VM.at (vb_between (fun b1 b2 => ?_) (fun hno => ?_)), fun _ _ hh => hh⟩⟩
    · obtain ⟨w, hw, rfl⟩ := vnat (m := 2) (by decide) b1 b2
      have es : sPieces a (nI x) (nI w) = if w = 0 then (if (vseek a x).1 = 0 then 0 else 1) else if w = 1 then nI (vseek a x).1 - 1 else nI (x - (vseek a x).2.1) := by
        unfold sPieces
        rw [vix_nI (show x < 1000 by omega) (by decide), vix_nI (show w < 3 by omega) (by decide)]
      rw [es] at h
      refine ⟨fun _ => ⟨_, VM.at (vb_seek hx hC hW (fun s2 hs2 hP => ?_)), fun _ _ hh => hh⟩, fun c => absurd c (by decide)⟩
      obtain ⟨p1, p2, p3, p4, p5⟩ := hP
      have h2 := h s2 hs2
      rcases (show w = 0 ∨ w = 1 ∨ w = 2 by omega) with rfl | rfl | rfl
      · refine ⟨fun c => absurd rfl c, fun _ => ⟨fun c => ?_, fun c => ?_⟩⟩
        · have c' : s2.1 47 0 < 0 := c
          rw [if_pos rfl, if_pos ?_] at h2
          · exact h2
          · refine Classical.byContradiction (fun q => ?_)
            rw [p1, show (vseek a x).1 = ((vseek a x).1 - 1) + 1 by omega, nI_pred] at c'
            exact nI_pos (by omega) c'
        · have c' : ¬ s2.1 47 0 < 0 := c
          rw [if_pos rfl, if_neg ?_] at h2
          · exact h2
          · intro q
            rw [p1, q] at c'
            exact c' (by decide)
      · rw [if_neg (by decide), if_pos rfl, ← p1] at h2
        exact ⟨fun _ => ⟨fun c => absurd rfl c, fun _ => h2⟩, fun c => absurd c (by decide)⟩
      · rw [if_neg (by decide), if_neg (by decide), ← pk_sub vseek_sh, ← p2] at h2
        exact ⟨fun _ => ⟨fun _ => h2, fun c => absurd c (by decide)⟩, fun c => absurd c (by decide)⟩
    · refine ⟨fun c => absurd rfl c, fun _ => bad ?_⟩
      unfold sPieces
      rw [vix_btw (x := w0) (m := 2) (by decide) hno]
      cases vix (nI x) 1000 <;> rfl
  · refine ⟨fun _ => bad ?_, fun c => absurd rfl c⟩
    unfold sPieces
    rw [vix_btw (x := x0) (m := 999) (by decide) hno]
theorem vc_pay {p0 : Int32} (hC : vRC a σ) (hW : vWF a) (h : ∀ σ', vag vKl σ σ' → vRC (sPay a p0).2 σ' → post (some (.int (sPay a p0).1)) σ') : VM G (d + 5) iX6_pay 0 [some (.ref 0), some (.int p0), none, none] [] σ post := by
  have hT := hW.2.1.2
  have bad : sPay a p0 = (-2, a) → post (some (.int (-2))) σ := fun e => by
    have := h σ vag.rf (by rw [e]; exact hC)
    rw [e] at this
    exact this
  refine VM.go [19] ⟨_, VM.at (vb_isLooker (fun p hp e1 => ?_) (fun hno => ?_)), fun _ _ hh => hh⟩
  · subst e1
    refine ⟨fun _ => ?_, fun c => absurd c (by decide)⟩
    obtain ⟨X, hX⟩ : ∃ X, X = vallA a (a.1 1 0) p := ⟨_, rfl⟩
    have hXle : X ≤ 77922 := by rw [hX]; exact vallA_le hW
    have es : sPay a (nI p) = if 999 < X then (-3, a) else if (vseek a X).1 = 0 then (-3, a) else (nI (vseek a X).1 - 1, vaput (vpaid a (vseek a X).2.2 4) 7 p (a.1 7 p + X)) := by
      unfold sPay
      rw [vix_nI hp (by decide), hX]
    rw [es] at h
    refine VM.at (VM.go [19] ?_)
    show VM G (d + 5) iX6_pay 19 _ _ _ _
    rw [hC.num 1 0 rfl]
    refine VM.go [] ⟨_, VM.at (vb_allOf hp hW.1.1 hC hW (fun s2 hs2 => ?_)), fun _ _ hh => hh⟩
    rw [← hX]
    have st3 : ∀ s3, vag vCs σ s3 → (if 999 < X then ((-3 : Int32), a) else if (vseek a X).1 = 0 then (-3, a) else (nI (vseek a X).1 - 1, vaput (vpaid a (vseek a X).2.2 4) 7 p (a.1 7 p + X))) = (-3, a) → post (some (.int (-3))) s3 := fun s3 hs3 e => by
      rw [e] at h
      exact h s3 (hs3.up vKl_Cs) (hC.ag hs3 hT)
    have hs2' := hs2.up vBi_Cs
    refine ⟨fun c => ?_, fun c => ?_⟩
    · have c' : nI X ≤ nI 999 := c
      rw [nIle (by omega) (by decide)] at c'
      have hC2 := hC.ag hs2' hT
      refine ⟨_, VM.at (vb_seek c' hC2 hW (fun s3 hs3 hP => ?_)), fun _ _ hh => hh⟩
      have hs3' := hs2'.tr hs3
      have hC3 := hC.ag hs3' hT
      obtain ⟨p1, p2, p3, p4, p5⟩ := hP
      refine ⟨fun c2 => ?_, fun c2 => ?_⟩
      · have c2' : 0 ≤ s3.1 47 0 := c2
        have hne : ¬ (vseek a X).1 = 0 := fun q => by
          rw [p1, q] at c2'
          exact absurd c2' (by decide)
        rw [if_neg (by omega), if_neg hne] at h
        obtain ⟨w, hw⟩ : ∃ w, w = (vseek a X).2.2 := ⟨_, rfl⟩
        have hw9 : ∀ k, k < 4 → w k ≤ a.1 9 k := by rw [hw]; exact vseek_way
        rw [← hw] at h
        have hw48 : ∀ k, k < 4 → s3.1 48 k = nI (w k) := by rw [hw]; exact p3 (by omega)
        have key : ∀ i, i ≤ 4 → ∀ s4, vag vKl σ s4 → vRC (vpaid a w i) s4 → (∀ k, k < 4 → s4.1 48 k = nI (w k)) → s4.1 47 0 = nI (vseek a X).1 - 1 → VM G (d + 5) iX6_pay 70 [some (.ref 0), some (.int (nI p)), some (.int (nI X)), some (.int (nI i))] [] s4 post := by
          refine vloop _ ?_ ?_
          · intro s4 hs4 hC4 h48 h47
            have e7 : s4.1 7 p = nI (a.1 7 p) := (hC4.num 7 p rfl).trans (by rw [vpaid_ne (Or.inl (by decide))])
            refine VM.go [70] ⟨fun _ => ⟨p, rfl, hp, nofun, p, rfl, hp, ?_⟩, fun q => absurd (by decide) q⟩
            have hT4 : (vpaid a w 4).1 0 4 ≤ 6 := by rw [vpaid_ne (Or.inl (by decide))]; exact hT
            have := h (vput s4 7 p (nI (a.1 7 p + X))) (hs4.put rfl) (hC4.put (c := 7) rfl (Or.inl ⟨by decide, by decide⟩) hT4)
            rw [← nI_add, ← e7] at this
            rw [← h47] at this
            exact this
          · intro i hi ih s4 hs4 hC4 h48 h47
            have e9 : s4.1 9 i = nI (a.1 9 i) := (hC4.num 9 i rfl).trans (by rw [vpaid_ne (Or.inr (Nat.le_refl _))])
            have hT4 : (vpaid a w i).1 0 4 ≤ 6 := by rw [vpaid_ne (Or.inl (by decide))]; exact hT
            refine VM.go [70] ⟨fun q => absurd q (nI_ge hi (by decide)), fun _ => ⟨i, rfl, hi, i, rfl, hi, nofun, i, rfl, hi, ?_⟩⟩
            have := ih (vput s4 9 i (nI (a.1 9 i - w i))) (hs4.put rfl) (hC4.put (c := 9) rfl (Or.inl ⟨by decide, by decide⟩) hT4) h48 h47
            rw [← pk_sub (hw9 i hi), ← e9, ← h48 i hi, ← nI_1] at this
            exact this
        refine VM.at (VM.go [70] ?_)
        exact key 0 (Nat.zero_le _) s3 (hs3'.up vKl_Cs) hC3 hw48 p1
      · refine st3 s3 hs3' ?_
        rw [if_neg (by omega)]
        have c2' : ¬ 0 ≤ s3.1 47 0 := c2
        rw [if_pos ?_]
        refine Classical.byContradiction (fun q => c2' ?_)
        rw [p1, show (vseek a X).1 = ((vseek a X).1 - 1) + 1 by omega, nI_pred]
        exact Int32.not_lt.mp (nI_pos (by omega))
    · have c' : ¬ nI X ≤ nI 999 := c
      rw [nIle (by omega) (by decide)] at c'
      exact st3 s2 hs2' (if_pos (by omega))
  · refine ⟨fun c => absurd rfl c, fun _ => bad ?_⟩
    unfold sPay
    rw [vix_no (by decide) hno]
end PY
end
section
/-! ===== cheapest, leave, farm ===== -/
def vupd (se : Nat → Nat) (l v : Nat) : Nat → Nat := fun k => if k = l then v else se k
theorem vupd_2 {se : Nat → Nat} {l v w : Nat} : vupd (vupd se l v) l w = vupd se l w := by
  funext k; unfold vupd; split <;> rfl
theorem vupd_id {se : Nat → Nat} {l v : Nat} : vupd (vupd se l v) l (se l) = se := by
  funext k; unfold vupd; split
  · next h => rw [h]
  · rfl
def vkeep (se : Nat → Nat) (m i : Nat) : Nat → Nat := fun k => if k < i then se k &&& m else se k
theorem vkeep_s {se : Nat → Nat} {m i : Nat} : vupd (vkeep se m i) i (se i &&& m) = vkeep se m (i + 1) := by
  funext k; unfold vupd vkeep
  by_cases h : k = i
  · rw [if_pos h, if_pos (by omega), h]
  · rw [if_neg h]
    by_cases h2 : k < i
    · rw [if_pos h2, if_pos (by omega)]
    · rw [if_neg h2, if_neg (by omega)]
abbrev vse (a : vα) (p : Nat) : Nat → Nat := fun l => a.1 5 (6 * p + l)
def vsm (a : vα) (se : Nat → Nat) : Nat := vsumN (a.1 1 2) (vowes (vTof (vcomp (a.2.2 (a.1 1 1)))) (a.1 1 0) (a.1 1 2) (a.1 2) (a.1 3) (a.1 4) se)
theorem vsm_le {a : vα} {se : Nat → Nat} (hn : a.1 1 2 ≤ 6) : vsm a se ≤ 77922 := by
  have h1 := vsumN_le (n := a.1 1 2) (f := vowes (vTof (vcomp (a.2.2 (a.1 1 1)))) (a.1 1 0) (a.1 1 2) (a.1 2) (a.1 3) (a.1 4) se) (b := 12987) (fun i _ => vowes_le)
  have h2 : a.1 1 2 * 12987 ≤ 6 * 12987 := Nat.mul_le_mul_right _ hn
  exact Nat.le_trans h1 h2
def vchp (f : Nat → Nat) (tk : Nat) : Nat → Nat × Nat
  | 0 => (0, 0)
  | t + 1 => if tk / 2 ^ t % 2 = 1 then vchp f tk t else if (vchp f tk t).1 = 0 ∨ f t + 1 < (vchp f tk t).2 then (t + 1, f t + 1) else vchp f tk t
def sCheapest (a : vα) (looker light what : Int32) : Int32 := match vix looker 5, vix light (a.1 1 2), vix what 2 with
  | some p, some l, some w => if w = 0 then nI (vchp (fun t => vsm a (vupd (vse a p) l (a.1 5 (6 * p + l) ||| 2 ^ t))) (a.1 5 (6 * p + l) ||| a.1 1 0) 12).1 - 1 else nI (vchp (fun t => vsm a (vupd (vse a p) l (a.1 5 (6 * p + l) ||| 2 ^ t))) (a.1 5 (6 * p + l) ||| a.1 1 0) 12).2 - 1
  | _, _, _ => -2
def vlvp (f : Nat → Nat) (base : Nat) : Nat → Nat × Nat
  | 0 => (0, base)
  | l + 1 => if f l < (vlvp f base l).2 then (l + 1, f l) else vlvp f base l
def sLeave (a : vα) (looker what : Int32) : Int32 := match vix looker 5, vix what 2 with
  | some p, some w => if w = 0 then nI (vlvp (fun l => vsm a (vupd (vse a p) l 0)) (vsm a (vse a p)) (a.1 1 2)).1 - 1 else nI (vlvp (fun l => vsm a (vupd (vse a p) l 0)) (vsm a (vse a p)) (a.1 1 2)).2
  | _, _ => -2
def vff (f : Nat → Nat) (K : Nat) : Nat → Nat → Int32
  | 0, _ => -1
  | n + 1, t => if K ≤ f t then nI t else vff f K n (t + 1)
def sFarm (a : vα) (looker k : Int32) : Int32 := match vix looker 5, vix k 100000 with
  | some p, some K => vff (fun t => vsm a (vkeep (vse a p) (2 ^ (t + 1) - 1) 6)) K 12 0
  | _, _ => -2
theorem vBR.seen {cs : Nat → List Int32} {c n r : Nat} {kd nu ye se : Nat → Nat} {σ : vM} {l v : Nat} (hB : vBR cs c n r kd nu ye se σ) (hl : l < 6) (hv : v < 4096) : vBR cs c n r kd nu ye (vupd se l v) (vput σ 44 l (nI v)) := by
  obtain ⟨w1, w2, w3, w4, w5, w6, w7⟩ := hB.2.2.2.2.1
  obtain ⟨g1, g2, g3, g4, g5, g6, g7⟩ := hB.2.2.2.2.2
  refine hB.to (vag.rf.put rfl) ⟨w1, w2, w3, w4, w5, w6, fun k hk => ?_⟩ ⟨g1, g2, g3, g4, g5, g6, fun k hk => ?_⟩
  · unfold vupd; split
    · exact hv
    · exact w7 k hk
  · rw [vput_get]
    unfold vupd
    by_cases e : k = l
    · rw [if_pos ⟨rfl, e⟩, if_pos e]
    · rw [if_neg (fun q => e q.2), if_neg e]; exact g7 k hk
theorem nI_shl1 : ∀ t, t < 12 → (1 : Int32) <<< (nI t &&& 31) = nI (2 ^ t) := by decide
theorem nI_shl2 : ∀ t, t < 12 → (2 : Int32) <<< (nI t &&& 31) - 1 = nI (2 ^ (t + 1) - 1) := by decide
theorem vor_lt {s t : Nat} (hs : s < 4096) (ht : t < 12) : s ||| 2 ^ t < 4096 := Nat.or_lt_two_pow (n := 12) hs (Nat.pow_lt_pow_right (by decide) ht)
section BE
variable {G : vG} {d : Nat} {σ : vM} {post : vQ} {a : vα} {cs : Nat → List Int32} {c n r : Nat} {kd nu ye se : Nat → Nat}
theorem vb_keepNights {m : Nat} (hm : m < 4096) (hB : vBR cs c n r kd nu ye se σ) (h : ∀ σ', vag vBi σ σ' → vBR cs c n r kd nu ye (vkeep se m 6) σ' → post none σ') : VM G d iX0_keepNights 0 [some (.ref 40), some (.int (nI m)), none] [] σ post := by
  have key : ∀ i, i ≤ 6 → ∀ s2, vag vBi σ s2 → vBR cs c n r kd nu ye (vkeep se m i) s2 → VM G d iX0_keepNights 2 [some (.ref 40), some (.int (nI m)), some (.int (nI i))] [] s2 post := by
    refine vloop _ ?_ ?_
    · intro s2 hs2 h2
      exact VM.go [2] ⟨fun _ => h s2 hs2 h2, fun q => absurd (by decide) q⟩
    · intro i hi ih s2 hs2 h2
      have e : s2.1 44 i = nI (se i) := by
        have := h2.2.2.2.2.2.2.2.2.2.2.2 i hi
        unfold vkeep at this
        rw [if_neg (Nat.lt_irrefl _)] at this
        exact this
      have hse : se i < 4096 := by
        have := h2.2.2.2.2.1.2.2.2.2.2.2 i hi
        unfold vkeep at this
        rw [if_neg (Nat.lt_irrefl _)] at this
        exact this
      refine VM.go [2] ⟨fun q => absurd q (nI_ge hi (by decide)), fun _ => ⟨i, rfl, hi, nofun, i, rfl, hi, ?_⟩⟩
      have h3 := h2.seen (v := se i &&& m) hi (Nat.lt_of_le_of_lt Nat.and_le_left hse)
      rw [vkeep_s] at h3
      have := ih (vput s2 44 i (nI (se i &&& m))) (hs2.put rfl) h3
      rw [← nI_and (by omega) (by omega), ← e, ← nI_1] at this
      exact this
  refine VM.go [2] (key 0 (Nat.zero_le _) σ vag.rf ?_)
  have : vkeep se m 0 = se := by funext k; unfold vkeep; rw [if_neg (Nat.not_lt_zero _)]
  rw [this]; exact hB
theorem vchp_le {f : Nat → Nat} {tk : Nat} (hf : ∀ t, f t ≤ 77922) (t : Nat) : (vchp f tk t).1 ≤ t ∧ (vchp f tk t).2 ≤ 77923 := by
  induction t with
  | zero => exact ⟨Nat.le_refl _, Nat.zero_le _⟩
  | succ t ih =>
    unfold vchp
    have := hf t
    split
    · exact ⟨by omega, ih.2⟩
    · split
      · exact ⟨Nat.le_refl _, by dsimp only; omega⟩
      · exact ⟨by omega, ih.2⟩
theorem vc_cheapest {p0 l0 w0 : Int32} (hC : vRC a σ) (hW : vWF a) (h : ∀ σ', vag vBi σ σ' → post (some (.int (sCheapest a p0 l0 w0))) σ') : VM G (d + 4) iX6_cheapest 0 [some (.ref 0), some (.int p0), some (.int l0), some (.int w0), none, none, none, none, none, none] [] σ post := by
  have bad : sCheapest a p0 l0 w0 = -2 → post (some (.int (-2))) σ := fun e => by
    have := h σ vag.rf
    rw [e] at this
    exact this
  have hn6 := hW.1.2.2
  refine VM.go [] ⟨_, VM.at (vb_isLooker (fun p hp e1 => ?_) (fun hno => ?_)), fun _ _ hh => hh⟩
  · refine ⟨fun c => absurd c (by decide), fun _ => ⟨_, VM.at (vb_isLight hC hW (fun l hl e2 => ?_) (fun hno => ?_)), fun _ _ hh => hh⟩⟩
    · refine ⟨fun c => absurd c (by decide), fun _ => ⟨_, VM.at (vb_between (fun b1 b2 => ?_) (fun hno => ?_)), fun _ _ hh => hh⟩⟩
      · obtain ⟨w, hw, e3⟩ := vnat (m := 1) (by decide) b1 b2
        subst e1; subst e2; subst e3
        unfold sCheapest at h
        rw [vix_nI hp (by decide), vix_nI hl (by omega), vix_nI (show w < 2 by omega) (by decide)] at h
        dsimp only at h
        obtain ⟨f, hf⟩ : ∃ f, f = (fun t => vsm a (vupd (vse a p) l (a.1 5 (6 * p + l) ||| 2 ^ t))) := ⟨_, rfl⟩
        obtain ⟨s, hs⟩ : ∃ s, s = a.1 5 (6 * p + l) := ⟨_, rfl⟩
        obtain ⟨tk, htk⟩ : ∃ tk, tk = s ||| a.1 1 0 := ⟨_, rfl⟩
        rw [← hf, ← hs, ← htk] at h
        have hl6 : l < 6 := by omega
        have hs4 : s < 4096 := by rw [hs]; exact hW.2.2.2.1 _ (by omega)
        have hc4 := hW.1.1
        have htk4 : tk < 4096 := by rw [htk]; exact Nat.or_lt_two_pow (n := 12) hs4 hc4
        have hfl : ∀ t, f t ≤ 77922 := fun t => by rw [hf]; exact vsm_le hn6
        refine ⟨fun _ => ⟨_, VM.at (vb_openBill hp hC hW (fun s2 hs2 hB => ?_)), fun _ _ hh => hh⟩, fun c => absurd c (by decide)⟩
        have g7 : s2.1 44 l = nI s := by rw [hs]; exact hB.2.2.2.2.2.2.2.2.2.2.2 l hl6
        have g1 : s2.1 40 0 = nI (a.1 1 0) := hB.2.2.2.2.2.1
        have key : ∀ t, t ≤ 12 → ∀ (s3 : vM) (se' : Nat → Nat) (y9 : Option Value), vag vBi σ s3 → (∀ v, vupd se' l v = vupd (vse a p) l v) → vBR (vcomp (a.2.2 (a.1 1 1))) (a.1 1 0) (a.1 1 2) (20 + 3 * a.1 1 1) (a.1 2) (a.1 3) (a.1 4) se' s3 → VM G (d + 4) iX6_cheapest 64 [some (.ref 0), some (.int (nI p)), some (.int (nI l)), some (.int (nI w)), some (.int (nI s)), some (.int (nI tk)), some (.int (nI (vchp f tk t).1 - 1)), some (.int (nI (vchp f tk t).2 - 1)), some (.int (nI t)), y9] [] s3 post := by
          refine vloop _ ?_ ?_
          · intro s3 se' y9 hs3 _ hB3
            refine VM.go [64] ⟨fun _ => ⟨fun c => ?_, fun c => ?_⟩, fun q => absurd (by decide) q⟩
            · have := h s3 hs3
              rw [if_neg (fun e => c (by rw [e]; rfl))] at this
              exact this
            · have e0 : w = 0 := by
                have q := congrArg Int32.toNatClampNeg (show nI w = 0 from c)
                rw [nI_clamp (by omega)] at q
                exact q.trans (by decide)
              have := h s3 hs3
              rw [if_pos e0] at this
              exact this
          · intro t ht ih s3 se' y9 hs3 hse' hB3
            have hb := vchp_le (tk := tk) hfl t
            obtain ⟨r, hr⟩ : ∃ r, r = vchp f tk t := ⟨_, rfl⟩
            have es : vchp f tk (t + 1) = if tk / 2 ^ t % 2 = 1 then r else if r.1 = 0 ∨ f t + 1 < r.2 then (t + 1, f t + 1) else r := by rw [hr]; rfl
            rw [es] at ih
            rw [← hr] at hb ⊢
            refine VM.go [78] ⟨fun q => absurd q (nI_ge ht (by decide)), fun _ => ?_⟩
            show VM G (d + 4) iX6_cheapest 78 _ _ _ _
            rw [nI_night htk4 (by omega)]
            have cont : ∀ (r' : Nat × Nat) (s4 : vM) (se4 : Nat → Nat) (y : Option Value), vag vBi σ s4 → (∀ v, vupd se4 l v = vupd (vse a p) l v) → vBR (vcomp (a.2.2 (a.1 1 1))) (a.1 1 0) (a.1 1 2) (20 + 3 * a.1 1 1) (a.1 2) (a.1 3) (a.1 4) se4 s4 → r' = (if tk / 2 ^ t % 2 = 1 then r else if r.1 = 0 ∨ f t + 1 < r.2 then (t + 1, f t + 1) else r) → VM G (d + 4) iX6_cheapest 127 [some (.ref 0), some (.int (nI p)), some (.int (nI l)), some (.int (nI w)), some (.int (nI s)), some (.int (nI tk)), some (.int (nI r'.1 - 1)), some (.int (nI r'.2 - 1)), some (.int (nI t)), y] [] s4 post := by
              intro r' s4 se4 y hs4 hse4 hB4 er
              refine VM.go [64] ?_
              show VM G (d + 4) iX6_cheapest 64 _ _ _ _
              rw [nI_1, er]
              exact ih s4 se4 y hs4 hse4 hB4
            by_cases hbit : tk / 2 ^ t % 2 = 1
            · rw [hbit]
              refine VM.go [127] ⟨fun _ => cont r s3 se' _ hs3 hse' hB3 (if_pos hbit).symm, fun q => absurd q (by decide)⟩
            · rw [show tk / 2 ^ t % 2 = 0 by omega]
              rw [if_neg hbit] at cont
              refine VM.go [97] ⟨fun q => absurd rfl q, fun _ => ⟨nofun, l, rfl, hl6, ?_⟩⟩
              show VM G (d + 4) iX6_cheapest 97 _ _ _ _
              rw [nI_shl1 t ht, nI_or (by omega) (Nat.lt_of_lt_of_le (Nat.pow_lt_pow_right (by decide) ht) (by decide))]
              have hB4 := hB3.seen (v := s ||| 2 ^ t) hl6 (vor_lt hs4 ht)
              rw [hse'] at hB4
              have hs4' : vag vBi σ (vput s3 44 l (nI (s ||| 2 ^ t))) := hs3.put rfl
              have ef : f t = vsm a (vupd (vse a p) l (s ||| 2 ^ t)) := by rw [hf, hs]
              refine VM.go [127] ⟨_, VM.at (vb_sum hB4 (fun s5 hs5 => ?_)), fun _ _ hh => hh⟩
              have hs5' := hs4'.tr (hs5.up vSc_Bi)
              have hB5 := hB4.ag hs5
              have hft := hfl t
              rw [show vsumN (a.1 1 2) (vowes (vTof (vcomp (a.2.2 (a.1 1 1)))) (a.1 1 0) (a.1 1 2) (a.1 2) (a.1 3) (a.1 4) (vupd (vse a p) l (s ||| 2 ^ t))) = f t from by rw [ef]; rfl]
              have ctA := fun q => cont (t + 1, f t + 1) s5 (vupd (vse a p) l (s ||| 2 ^ t)) (some (.int (nI (f t)))) hs5' (fun v => vupd_2) hB5 (if_pos q).symm
              have ctB := fun q => cont r s5 (vupd (vse a p) l (s ||| 2 ^ t)) (some (.int (nI (f t)))) hs5' (fun v => vupd_2) hB5 (if_neg q).symm
              dsimp only at ctA
              rw [nI_pred, nI_pred] at ctA
              refine VM.at (VM.go [127] ⟨fun q => ?_, fun q => ⟨fun q2 => ?_, fun q2 => ?_⟩⟩)
              · have q' : nI r.1 - 1 = -1 := q
                rw [nI_m1e (by omega)] at q'
                exact ctA (Or.inl q')
              · have q' : ¬ nI r.1 - 1 = -1 := q
                rw [nI_m1e (by omega)] at q'
                have q2' : nI r.2 - 1 ≤ nI (f t) := q2
                refine ctB (fun z => ?_)
                rcases z with z | z
                · exact q' z
                · rw [show r.2 = (r.2 - 1) + 1 by omega, nI_pred, nIle (by omega) (by omega)] at q2'
                  omega
              · have q' : ¬ nI r.1 - 1 = -1 := q
                rw [nI_m1e (by omega)] at q'
                have q2' : ¬ nI r.2 - 1 ≤ nI (f t) := q2
                refine ctA (Or.inr ?_)
                refine Classical.byContradiction (fun z => q2' ?_)
                by_cases e0 : r.2 = 0
                · rw [e0]
                  refine Int32.not_lt.mp (fun z2 => ?_)
                  exact nI_pos (show f t < 2 ^ 31 by omega) (Int32.lt_trans z2 (by decide))
                · rw [show r.2 = (r.2 - 1) + 1 by omega, nI_pred, nIle (by omega) (by omega)]
                  omega
        refine VM.at (VM.go [64] ⟨l, rfl, hl6, ?_⟩)
        show VM G (d + 4) iX6_cheapest 64 _ _ _ _
        rw [g7, g1, nI_or (by omega) (by omega), ← htk]
        exact key 0 (Nat.zero_le _) s2 (vse a p) none hs2 (fun _ => rfl) hB
      · refine ⟨fun c => absurd rfl c, fun _ => bad ?_⟩
        unfold sCheapest
        rw [vix_btw (x := w0) (m := 1) (by decide) hno]
        cases vix p0 5 <;> cases vix l0 (a.1 1 2) <;> rfl
    · refine ⟨fun _ => bad ?_, fun c => absurd rfl c⟩
      unfold sCheapest
      rw [vix_no (x := l0) (by omega) hno]
      cases vix p0 5 <;> rfl
  · refine ⟨fun _ => bad ?_, fun c => absurd rfl c⟩
    unfold sCheapest
    rw [vix_no (x := p0) (by decide) hno]
end BE
end
section
/-! ===== leave, farm, walk ===== -/
section LE
variable {G : vG} {d : Nat} {σ : vM} {post : vQ} {a : vα}
theorem vlvp_le {f : Nat → Nat} {base : Nat} (hb : base ≤ 77922) (hf : ∀ t, f t ≤ 77922) (t : Nat) : (vlvp f base t).1 ≤ t ∧ (vlvp f base t).2 ≤ 77922 := by
  induction t with
  | zero => exact ⟨Nat.le_refl _, hb⟩
  | succ t ih =>
    unfold vlvp
    split
    · exact ⟨Nat.le_refl _, hf t⟩
    · exact ⟨by omega, ih.2⟩
theorem vc_leave {p0 w0 : Int32} (hC : vRC a σ) (hW : vWF a) (h : ∀ σ', vag vBi σ σ' → post (some (.int (sLeave a p0 w0))) σ') : VM G (d + 4) iX6_leave 0 [some (.ref 0), some (.int p0), some (.int w0), none, none, none, none, none] [] σ post := by
  have bad : sLeave a p0 w0 = -2 → post (some (.int (-2))) σ := fun e => by
    have := h σ vag.rf
    rw [e] at this
    exact this
  have hn6 := hW.1.2.2
  refine VM.go [] ⟨_, VM.at (vb_isLooker (fun p hp e1 => ?_) (fun hno => ?_)), fun _ _ hh => hh⟩
  · refine ⟨fun c => absurd c (by decide), fun _ => ⟨_, VM.at (vb_between (fun b1 b2 => ?_) (fun hno => ?_)), fun _ _ hh => hh⟩⟩
    · obtain ⟨w, hw, e3⟩ := vnat (m := 1) (by decide) b1 b2
      subst e1; subst e3
      unfold sLeave at h
      rw [vix_nI hp (by decide), vix_nI (show w < 2 by omega) (by decide)] at h
      dsimp only at h
      obtain ⟨f, hf⟩ : ∃ f, f = (fun l => vsm a (vupd (vse a p) l 0)) := ⟨_, rfl⟩
      obtain ⟨base, hbase⟩ : ∃ b, b = vsm a (vse a p) := ⟨_, rfl⟩
      rw [← hf, ← hbase] at h
      have hfl : ∀ t, f t ≤ 77922 := fun t => by rw [hf]; exact vsm_le hn6
      have hbl : base ≤ 77922 := by rw [hbase]; exact vsm_le hn6
      refine ⟨fun _ => ⟨_, VM.at (vb_openBill hp hC hW (fun s2 hs2 hB => ?_)), fun _ _ hh => hh⟩, fun c => absurd c (by decide)⟩
      refine VM.at (VM.go [38] ⟨_, VM.at (vb_sum hB (fun s3 hs3 => ?_)), fun _ _ hh => hh⟩)
      rw [show vsumN (a.1 1 2) (vowes (vTof (vcomp (a.2.2 (a.1 1 1)))) (a.1 1 0) (a.1 1 2) (a.1 2) (a.1 3) (a.1 4) (vse a p)) = base from by rw [hbase]; rfl]
      have hs3' := hs2.tr (hs3.up vSc_Bi)
      have hB3 := hB.ag hs3
      have key : ∀ i, i ≤ a.1 1 2 → ∀ (s4 : vM) (y6 y7 : Option Value), vag vBi σ s4 → vBR (vcomp (a.2.2 (a.1 1 1))) (a.1 1 0) (a.1 1 2) (20 + 3 * a.1 1 1) (a.1 2) (a.1 3) (a.1 4) (vse a p) s4 → VM G (d + 4) iX6_leave 38 [some (.ref 0), some (.int (nI p)), some (.int (nI w)), some (.int (nI (vlvp f base i).1 - 1)), some (.int (nI (vlvp f base i).2)), some (.int (nI i)), y6, y7] [] s4 post := by
        refine vloop _ ?_ ?_
        · intro s4 y6 y7 hs4 hB4
          have en : s4.1 1 2 = nI (a.1 1 2) := (hs4.get rfl).trans (hC.num 1 2 rfl)
          have fin : VM G (d + 4) iX6_leave 121 [some (.ref 0), some (.int (nI p)), some (.int (nI w)), some (.int (nI (vlvp f base (a.1 1 2)).1 - 1)), some (.int (nI (vlvp f base (a.1 1 2)).2)), some (.int (nI (a.1 1 2))), y6, y7] [] s4 post := by
            refine VM.go [] ⟨fun c => ?_, fun c => ?_⟩
            · have := h s4 hs4
              rw [if_neg (fun e => c (by rw [e]; rfl))] at this
              exact this
            · have e0 : w = 0 := by
                have q := congrArg Int32.toNatClampNeg (show nI w = 0 from c)
                rw [nI_clamp (by omega)] at q
                exact q.trans (by decide)
              have := h s4 hs4
              rw [if_pos e0] at this
              exact this
          refine VM.go [121] ⟨fun _ => fin, fun q => absurd ?_ q⟩
          rw [en]; exact nI_le (Nat.le_refl _) (by omega)
        · intro i hi ih s4 y6 y7 hs4 hB4
          have en : s4.1 1 2 = nI (a.1 1 2) := (hs4.get rfl).trans (hC.num 1 2 rfl)
          have hi6 : i < 6 := by omega
          have e44 : s4.1 44 i = nI (vse a p i) := hB4.2.2.2.2.2.2.2.2.2.2.2 i hi6
          have hse : vse a p i < 4096 := hW.2.2.2.1 _ (by omega)
          have hb := vlvp_le hbl hfl i
          obtain ⟨r, hr⟩ : ∃ r, r = vlvp f base i := ⟨_, rfl⟩
          have es : vlvp f base (i + 1) = if f i < r.2 then (i + 1, f i) else r := by rw [hr]; rfl
          rw [es] at ih
          rw [← hr] at hb ⊢
          refine VM.go [80] ⟨fun q => absurd q (by rw [en]; exact nI_ge hi (by omega)), fun _ => ⟨fun q => absurd q (nI_ge hi6 (by decide)), fun _ => ⟨i, rfl, hi6, nofun, i, rfl, hi6, ?_⟩⟩⟩
          show VM G (d + 4) iX6_leave 80 _ _ _ _
          rw [e44]
          have hB5 := hB4.seen (v := 0) hi6 (by decide)
          have hs5 : vag vBi σ (vput s4 44 i (nI 0)) := hs4.put rfl
          refine VM.go [115] ⟨_, VM.at (vb_sum hB5 (fun s6 hs6 => ?_)), fun _ _ hh => hh⟩
          rw [show vsumN (a.1 1 2) (vowes (vTof (vcomp (a.2.2 (a.1 1 1)))) (a.1 1 0) (a.1 1 2) (a.1 2) (a.1 3) (a.1 4) (vupd (vse a p) i 0)) = f i from by rw [hf]; rfl]
          have hB7 := (hB5.ag hs6).seen (l := i) (v := vse a p i) hi6 hse
          rw [vupd_id] at hB7
          have hs7 : vag vBi σ (vput s6 44 i (nI (vse a p i))) := (hs5.tr (hs6.up vSc_Bi)).put rfl
          have hft := hfl i
          have cont : ∀ (r' : Nat × Nat) (y6 y7 : Option Value), r' = (if f i < r.2 then (i + 1, f i) else r) → VM G (d + 4) iX6_leave 115 [some (.ref 0), some (.int (nI p)), some (.int (nI w)), some (.int (nI r'.1 - 1)), some (.int (nI r'.2)), some (.int (nI i)), y6, y7] [] (vput s6 44 i (nI (vse a p i))) post := by
            intro r' y6 y7 er
            refine VM.go [38] ?_
            show VM G (d + 4) iX6_leave 38 _ _ _ _
            rw [nI_1, er]
            exact ih _ y6 y7 hs7 hB7
          have ctA := fun q y6 y7 => cont (i + 1, f i) y6 y7 (if_pos q).symm
          have ctB := fun q y6 y7 => cont r y6 y7 (if_neg q).symm
          dsimp only at ctA
          rw [nI_pred] at ctA
          refine VM.at (VM.go [115] ⟨nofun, i, rfl, hi6, fun q => ?_, fun q => ?_⟩)
          · have q' : nI r.2 ≤ nI (f i) := q
            rw [nIle (by omega) (by omega)] at q'
            exact ctB (by omega) _ _
          · have q' : ¬ nI r.2 ≤ nI (f i) := q
            rw [nIle (by omega) (by omega)] at q'
            exact ctA (by omega) _ _
      refine VM.at (VM.go [38] ?_)
      exact key 0 (Nat.zero_le _) s3 none none hs3' hB3
    · refine ⟨fun c => absurd rfl c, fun _ => bad ?_⟩
      unfold sLeave
      rw [vix_btw (x := w0) (m := 1) (by decide) hno]
      cases vix p0 5 <;> rfl
  · refine ⟨fun _ => bad ?_, fun c => absurd rfl c⟩
    unfold sLeave
    rw [vix_no (x := p0) (by decide) hno]
theorem vc_farm {p0 k0 : Int32} (hC : vRC a σ) (hW : vWF a) (h : ∀ σ', vag vBi σ σ' → post (some (.int (sFarm a p0 k0))) σ') : VM G (d + 4) iX6_farm 0 [some (.ref 0), some (.int p0), some (.int k0), none] [] σ post := by
  have bad : sFarm a p0 k0 = -2 → post (some (.int (-2))) σ := fun e => by
    have := h σ vag.rf
    rw [e] at this
    exact this
  have hn6 := hW.1.2.2
  refine VM.go [] ⟨_, VM.at (vb_isLooker (fun p hp e1 => ?_) (fun hno => ?_)), fun _ _ hh => hh⟩
  · refine ⟨fun c => absurd c (by decide), fun _ => ⟨_, VM.at (vb_between (fun b1 b2 => ?_) (fun hno => ?_)), fun _ _ hh => hh⟩⟩
    · obtain ⟨K, hK, e3⟩ := vnat (m := 99999) (by decide) b1 b2
      subst e1; subst e3
      unfold sFarm at h
      rw [vix_nI hp (by decide), vix_nI (show K < 100000 by omega) (by decide)] at h
      dsimp only at h
      obtain ⟨f, hf⟩ : ∃ f, f = (fun t => vsm a (vkeep (vse a p) (2 ^ (t + 1) - 1) 6)) := ⟨_, rfl⟩
      rw [← hf] at h
      have hfl : ∀ t, f t ≤ 77922 := fun t => by rw [hf]; exact vsm_le hn6
      have key : ∀ t, t ≤ 12 → ∀ (s3 : vM), vag vBi σ s3 → (∀ σ', vag vBi σ σ' → post (some (.int (vff f K (12 - t) t))) σ') → VM G (d + 4) iX6_farm 22 [some (.ref 0), some (.int (nI p)), some (.int (nI K)), some (.int (nI t))] [] s3 post := by
        refine vloop _ ?_ ?_
        · intro s3 hs3 h'
          exact VM.go [22] ⟨fun _ => h' s3 hs3, fun q => absurd (by decide) q⟩
        · intro t ht ih s3 hs3 h'
          rw [show 12 - t = (12 - (t + 1)) + 1 by omega] at h'
          unfold vff at h'
          refine VM.go [22] ⟨fun q => absurd q (nI_ge ht (by decide)), fun _ => ⟨_, VM.at (vb_openBill hp (hC.bi hW hs3) hW (fun s4 hs4 hB => ?_)), fun _ _ hh => hh⟩⟩
          refine VM.at (VM.go [42] ?_)
          show VM G (d + 4) iX6_farm 42 _ _ _ _
          rw [nI_shl2 t ht]
          have hm : 2 ^ (t + 1) - 1 < 4096 := by
            have : 2 ^ (t + 1) ≤ 2 ^ 12 := Nat.pow_le_pow_right (by decide) (by omega)
            omega
          refine VM.go [22] ⟨_, VM.at (vb_keepNights hm hB (fun s5 hs5 hB5 => ?_)), fun _ _ hh => hh⟩
          refine ⟨_, VM.at (vb_sum hB5 (fun s6 hs6 => ?_)), fun _ _ hh => hh⟩
          have hs6' := ((hs3.tr hs4).tr hs5).tr (hs6.up vSc_Bi)
          rw [show vsumN (a.1 1 2) (vowes (vTof (vcomp (a.2.2 (a.1 1 1)))) (a.1 1 0) (a.1 1 2) (a.1 2) (a.1 3) (a.1 4) (vkeep (vse a p) (2 ^ (t + 1) - 1) 6)) = f t from by rw [hf]; rfl]
          have hft := hfl t
          refine ⟨fun q => ?_, fun q => ?_⟩
          · have q' : nI (f t) < nI K := q
            rw [nIlt (by omega) (by omega)] at q'
            rw [if_neg (by omega)] at h'
            have := ih s6 hs6' h'
            rw [← nI_1] at this
            exact this
          · have q' : ¬ nI (f t) < nI K := q
            rw [nIlt (by omega) (by omega)] at q'
            rw [if_pos (by omega)] at h'
            exact h' s6 hs6'
      refine ⟨fun _ => ?_, fun c => absurd c (by decide)⟩
      refine VM.at (VM.go [22] ?_)
      exact key 0 (Nat.zero_le _) σ vag.rf h
    · refine ⟨fun c => absurd rfl c, fun _ => bad ?_⟩
      unfold sFarm
      rw [vix_btw (x := k0) (m := 99999) (by decide) hno]
      cases vix p0 5 <;> rfl
  · refine ⟨fun _ => bad ?_, fun c => absurd rfl c⟩
    unfold sFarm
    rw [vix_no (x := p0) (by decide) hno]
end LE
end
section
/-! ===== walk ===== -/
/-- those of 0 .. n-1 for whom P, as bits -/
def vowb (P : Nat → Bool) : Nat → Nat
  | 0 => 0
  | n + 1 => if P n then vowb P n ||| 2 ^ n else vowb P n
def vown (P : Nat → Bool) : Nat → Nat
  | 0 => 0
  | n + 1 => if P n then vown P n + 1 else vown P n
def vlom (P : Nat → Bool) (m : Nat → Nat) : Nat → Nat
  | 0 => 99
  | n + 1 => if P n then min (vlom P m n) (m n) else vlom P m n
def vhim (P : Nat → Bool) (m : Nat → Nat) : Nat → Nat
  | 0 => 0
  | n + 1 => if P n then max (vhim P m n) (m n) else vhim P m n
/-- the first, from p on, at x -/
def vfat (P : Nat → Bool) (m : Nat → Nat) (x : Nat) : Nat → Nat → Int32
  | 0, _ => -1
  | n + 1, p => if P p = true ∧ m p = x then nI p else vfat P m x n (p + 1)
def vdis (x y : Nat) : Nat := (x - y) + (y - x)
def vowP (a : vα) (K p : Nat) : Bool := decide (K ≤ vallA a (a.1 1 0) p)
def vwalk (P : Nat → Bool) (m : Nat → Nat) (x w : Nat) : Int32 :=
  if w = 2 then nI (vown P 5) else if vown P 5 = 0 then (if w = 0 then 0 else -1)
  else if w = 0 then nI (min (vdis x (vlom P m 5)) (vdis x (vhim P m 5))) + nI (vhim P m 5) - nI (vlom P m 5)
  else vfat P m (if vdis x (vlom P m 5) ≤ vdis x (vhim P m 5) then vlom P m 5 else vhim P m 5) 5 0
def sWalk (a : vα) (mile k what : Int32) : Int32 := match vix mile 100, vix k 100000, vix what 3 with
  | some x, some K, some w => vwalk (vowP a K) (a.1 6) x w
  | _, _, _ => -2
/-- five of them -/
def v5b (b0 b1 b2 b3 b4 : Bool) (k : Nat) : Bool := match k with | 0 => b0 | 1 => b1 | 2 => b2 | 3 => b3 | _ => b4
theorem vowb_5 : ∀ b0 b1 b2 b3 b4 : Bool, vowb (v5b b0 b1 b2 b3 b4) 5 < 32 ∧ vpop (vowb (v5b b0 b1 b2 b3 b4) 5) = vown (v5b b0 b1 b2 b3 b4) 5 ∧ (∀ p, p < 5 → vowb (v5b b0 b1 b2 b3 b4) 5 / 2 ^ p % 2 = if v5b b0 b1 b2 b3 b4 p then 1 else 0) ∧ (vowb (v5b b0 b1 b2 b3 b4) 5 = 0 ↔ vown (v5b b0 b1 b2 b3 b4) 5 = 0) := by decide
theorem v5b_of (P : Nat → Bool) : ∀ p, p < 5 → P p = v5b (P 0) (P 1) (P 2) (P 3) (P 4) p := by
  intro p hp
  rcases (show p = 0 ∨ p = 1 ∨ p = 2 ∨ p = 3 ∨ p = 4 by omega) with rfl | rfl | rfl | rfl | rfl <;> rfl
theorem vowb_cg {P Q : Nat → Bool} {n : Nat} (h : ∀ p, p < n → P p = Q p) : vowb P n = vowb Q n ∧ vown P n = vown Q n := by
  induction n with
  | zero => exact ⟨rfl, rfl⟩
  | succ n ih =>
    obtain ⟨i1, i2⟩ := ih (fun p hp => h p (by omega))
    unfold vowb vown
    rw [h n (by omega), i1, i2]
    exact ⟨rfl, rfl⟩
theorem vowb_f (P : Nat → Bool) : vowb P 5 < 32 ∧ vpop (vowb P 5) = vown P 5 ∧ (∀ p, p < 5 → vowb P 5 / 2 ^ p % 2 = if P p then 1 else 0) ∧ (vowb P 5 = 0 ↔ vown P 5 = 0) := by
  obtain ⟨e1, e2⟩ := vowb_cg (v5b_of P)
  obtain ⟨f1, f2, f3, f4⟩ := vowb_5 (P 0) (P 1) (P 2) (P 3) (P 4)
  rw [e1, e2]
  exact ⟨f1, f2, fun p hp => by rw [f3 p hp, ← v5b_of P p hp], f4⟩
theorem vowb_lt {P : Nat → Bool} {n : Nat} : vowb P n < 2 ^ n := by
  induction n with
  | zero => exact Nat.one_pos
  | succ n ih =>
    unfold vowb
    have h2 : 2 ^ n < 2 ^ (n + 1) := Nat.pow_lt_pow_right (by decide) (Nat.lt_succ_self n)
    split
    · exact Nat.or_lt_two_pow (Nat.lt_trans ih h2) h2
    · exact Nat.lt_trans ih h2
theorem nI_max {p q : Nat} (hp : p < 2 ^ 31) (hq : q < 2 ^ 31) : (if nI p < nI q then nI q else nI p) = nI (max p q) := by
  by_cases h : p < q
  · rw [if_pos ((nIlt hp hq).mpr h), Nat.max_eq_right (Nat.le_of_lt h)]
  · rw [if_neg (fun e => h ((nIlt hp hq).mp e)), Nat.max_eq_left (Nat.le_of_not_lt h)]
theorem nI_abs {x y : Nat} (hx : x < 2 ^ 30) (hy : y < 2 ^ 30) : (if 0 ≤ nI x - nI y then nI x - nI y else 0 - (nI x - nI y)) = nI (vdis x y) := by
  unfold vdis
  by_cases h : x < y
  · rw [if_neg (Int32.not_le.mpr (pk_sneg hy h)), show x - y = 0 by omega, Nat.zero_add, ← pk_sub (Nat.le_of_lt h)]
    rw [Int32.zero_sub, Int32.neg_sub]
  · rw [pk_sub (by omega), if_pos (Int32.not_lt.mp (nI_pos (by omega))), show y - x = 0 by omega, Nat.add_zero]
section WA
variable {G : vG} {d : Nat} {σ : vM} {post : vQ} {a : vα}
theorem vb_whoOwe {K : Nat} (hK : K ≤ 99999) (hC : vRC a σ) (hW : vWF a) (h : ∀ σ', vag vBi σ σ' → post (some (.int (nI (vowb (vowP a K) 5)))) σ') : VM G (d + 5) iX6_whoOwe 0 [some (.ref 0), some (.int (nI K)), none, none] [] σ post := by
  have key : ∀ i, i ≤ 5 → ∀ s2, vag vBi σ s2 → VM G (d + 5) iX6_whoOwe 4 [some (.ref 0), some (.int (nI K)), some (.int (nI (vowb (vowP a K) i))), some (.int (nI i))] [] s2 post := by
    refine vloop _ ?_ ?_
    · intro s2 hs2
      exact VM.go [4] ⟨fun _ => h s2 hs2, fun q => absurd (by decide) q⟩
    · intro i hi ih s2 hs2
      refine VM.go [18] ⟨fun q => absurd q (nI_ge hi (by decide)), fun _ => ?_⟩
      show VM G (d + 5) iX6_whoOwe 18 _ _ _ _
      rw [(hs2.get rfl).trans (hC.num 1 0 rfl)]
      refine VM.go [4] ⟨_, VM.at (vb_allOf hi hW.1.1 (hC.bi hW hs2) hW (fun s3 hs3 => ?_)), fun _ _ hh => hh⟩
      have hb := vallA_le (c := a.1 1 0) (p := i) hW
      have hs3' := hs2.tr hs3
      have hlt := vowb_lt (P := vowP a K) (n := i)
      have hp : 2 ^ i < 2 ^ 32 := Nat.pow_lt_pow_right (by decide) (by omega)
      refine ⟨fun q => ?_, fun q => ?_⟩
      · have q' : nI (vallA a (a.1 1 0) i) < nI K := q
        rw [nIlt (by omega) (by omega)] at q'
        have := ih s3 hs3'
        rw [show vowb (vowP a K) (i + 1) = vowb (vowP a K) i from if_neg (by unfold vowP; rw [decide_eq_true_eq]; omega), ← nI_1 i] at this
        exact this
      · have q' : ¬ nI (vallA a (a.1 1 0) i) < nI K := q
        rw [nIlt (by omega) (by omega)] at q'
        have := ih s3 hs3'
        rw [show vowb (vowP a K) (i + 1) = vowb (vowP a K) i ||| 2 ^ i from if_pos (by unfold vowP; rw [decide_eq_true_eq]; omega), ← nI_or (by omega) hp, ← nI_shl1 i (by omega), ← nI_1 i] at this
        exact this
  exact VM.go [4] (key 0 (Nat.zero_le _) σ vag.rf)
theorem vb_firstAt {P : Nat → Bool} {x : Nat} (hx : x ≤ 99) (hC : vRC a σ) (hW : vWF a) (h : post (some (.int (vfat P (a.1 6) x 5 0))) σ) : VM G d iX6_firstAt 0 [some (.ref 0), some (.int (nI x)), some (.int (nI (vowb P 5))), none] [] σ post := by
  obtain ⟨f1, f2, f3, f4⟩ := vowb_f P
  have key : ∀ i, i ≤ 5 → post (some (.int (vfat P (a.1 6) x (5 - i) i))) σ → VM G d iX6_firstAt 2 [some (.ref 0), some (.int (nI x)), some (.int (nI (vowb P 5))), some (.int (nI i))] [] σ post := by
    refine vloop _ ?_ ?_
    · intro h'
      exact VM.go [2] ⟨fun _ => h', fun q => absurd (by decide) q⟩
    · intro i hi ih h'
      rw [show 5 - i = (5 - (i + 1)) + 1 by omega] at h'
      unfold vfat at h'
      have e6 : σ.1 6 i = nI (a.1 6 i) := hC.num 6 i rfl
      have hm : a.1 6 i ≤ 99 := (hW.2.2.2.2.1 i hi).1
      refine VM.go [12] ⟨fun q => absurd q (nI_ge hi (by decide)), fun _ => ?_⟩
      show VM G d iX6_firstAt 12 _ _ _ _
      rw [nI_night (by omega) (by omega), f3 i hi]
      have nxt : ¬ (P i = true ∧ a.1 6 i = x) → VM G d iX6_firstAt 2 [some (.ref 0), some (.int (nI x)), some (.int (nI (vowb P 5))), some (.int (nI i + 1))] [] σ post := fun q => by
        rw [if_neg q] at h'
        have := ih h'
        rw [← nI_1] at this
        exact this
      by_cases hP : P i = true
      · rw [if_pos hP]
        refine VM.go [2] ⟨fun q => absurd rfl q, fun _ => ⟨i, rfl, hi, fun q => ?_, fun q => ?_⟩⟩
        · refine nxt (fun z => q ?_)
          rw [e6, z.2]
        · have q' : σ.1 6 i = nI x := q
          rw [e6] at q'
          have q2 := congrArg Int32.toNatClampNeg q'
          rw [nI_clamp (by omega), nI_clamp (by omega)] at q2
          rw [if_pos ⟨hP, q2⟩] at h'
          exact h'
      · rw [if_neg hP]
        exact VM.go [2] ⟨fun _ => nxt (fun z => hP z.1), fun q => absurd q (by decide)⟩
  exact VM.go [2] (key 0 (Nat.zero_le _) h)
theorem vlom_le {P : Nat → Bool} {m : Nat → Nat} {n : Nat} : vlom P m n ≤ 99 := by
  induction n with
  | zero => exact Nat.le_refl _
  | succ n ih => unfold vlom; split <;> omega
theorem vhim_le {P : Nat → Bool} {m : Nat → Nat} {n : Nat} (h : ∀ k, k < n → m k ≤ 99) : vhim P m n ≤ 99 := by
  induction n with
  | zero => exact Nat.zero_le _
  | succ n ih =>
    have := ih (fun k hk => h k (by omega))
    have := h n (by omega)
    unfold vhim; split <;> omega
theorem vc_walk {x0 k0 w0 : Int32} (hC : vRC a σ) (hW : vWF a) (h : ∀ σ', vag vBi σ σ' → post (some (.int (sWalk a x0 k0 w0))) σ') : VM G (d + 6) iX6_walk 0 [some (.ref 0), some (.int x0), some (.int k0), some (.int w0), none, none, none, none, none] [] σ post := by
  have bad : sWalk a x0 k0 w0 = -2 → post (some (.int (-2))) σ := fun e => by
    have := h σ vag.rf
    rw [e] at this
    exact this
  refine VM.go [] ⟨_, VM.at (vb_between (fun b1 b2 => ?_) (fun hno => ?_)), fun _ _ hh => hh⟩
  · obtain ⟨x, hx, e1⟩ := vnat (m := 99) (by decide) b1 b2
    refine ⟨fun c => absurd c (by decide), fun _ => ⟨_, VM.at (vb_between (fun b1 b2 => ?_) (fun hno => ?_)), fun _ _ hh => hh⟩⟩
    · obtain ⟨K, hK, e2⟩ := vnat (m := 99999) (by decide) b1 b2
      refine ⟨fun c => absurd c (by decide), fun _ => ⟨_, VM.at (vb_between (fun b1 b2 => ?_) (fun hno => ?_)), fun _ _ hh => hh⟩⟩
      · obtain ⟨w, hw, e3⟩ := vnat (m := 2) (by decide) b1 b2
        subst e1; subst e2; subst e3
        unfold sWalk at h
        rw [vix_nI (show x < 100 by omega) (by decide), vix_nI (show K < 100000 by omega) (by decide), vix_nI (show w < 3 by omega) (by decide)] at h
        dsimp only at h
        obtain ⟨P, hP⟩ : ∃ P, P = vowP a K := ⟨_, rfl⟩
        rw [← hP] at h
        obtain ⟨f1, f2, f3, f4⟩ := vowb_f P
        refine ⟨fun _ => ⟨_, VM.at (vb_whoOwe hK hC hW (fun s2 hs2 => ?_)), fun _ _ hh => hh⟩, fun c => absurd c (by decide)⟩
        rw [← hP]
        have hC2 := hC.bi hW hs2
        have h2 := h s2 hs2
        have hm : ∀ k, k < 5 → a.1 6 k ≤ 99 := fun k hk => (hW.2.2.2.2.1 k hk).1
        refine VM.at (VM.go [50] ⟨fun c1 => ?_, fun c1 => ?_⟩)
        · have hw2 : ¬ w = 2 := fun e => c1 (by rw [e]; rfl)
          unfold vwalk at h2
          rw [if_neg hw2] at h2
          refine VM.go [65] ⟨fun c2 => ?_, fun c2 => ?_⟩
          · have hne : ¬ vown P 5 = 0 := fun e => c2 (by rw [f4.mpr e]; rfl)
            rw [if_neg hne] at h2
            have key : ∀ i, i ≤ 5 → ∀ (y8 : Option Value), VM G (d + 6) iX6_walk 75 [some (.ref 0), some (.int (nI x)), some (.int (nI K)), some (.int (nI w)), some (.int (nI (vowb P 5))), some (.int (nI (vlom P (a.1 6) i))), some (.int (nI (vhim P (a.1 6) i))), some (.int (nI i)), y8] [] s2 post := by
              have hlo := vlom_le (P := P) (m := a.1 6) (n := 5)
              have hhi := vhim_le (P := P) (m := a.1 6) (n := 5) hm
              refine vloop _ ?_ ?_
              · intro y8
                refine VM.go [150] ⟨fun _ => ?_, fun q => absurd (by decide) q⟩
                show VM G (d + 6) iX6_walk 150 _ _ _ _
                rw [nI_abs (by omega) (by omega), nI_abs (by omega) (by omega)]
                have d1 : vdis x (vlom P (a.1 6) 5) ≤ 99 := by unfold vdis; omega
                have d2 : vdis x (vhim P (a.1 6) 5) ≤ 99 := by unfold vdis; omega
                refine VM.go [168] ⟨fun c3 => ?_, fun c3 => ?_⟩
                · rw [if_neg (fun e => c3 (by rw [e]; rfl))] at h2
                  refine VM.go [183] ⟨fun c4 => ?_, fun c4 => ?_⟩
                  · have c4' : ¬ nI (vdis x (vlom P (a.1 6) 5)) ≤ nI (vdis x (vhim P (a.1 6) 5)) := Int32.not_le.mpr c4
                    rw [nIle (by omega) (by omega)] at c4'
                    rw [if_neg c4'] at h2
                    exact VM.go [] ⟨_, VM.at (vb_firstAt hhi hC2 hW (by exact h2)), fun _ _ hh => hh⟩
                  · have c4' : nI (vdis x (vlom P (a.1 6) 5)) ≤ nI (vdis x (vhim P (a.1 6) 5)) := Int32.not_lt.mp c4
                    rw [nIle (by omega) (by omega)] at c4'
                    rw [if_pos c4'] at h2
                    exact VM.go [] ⟨_, VM.at (vb_firstAt hlo hC2 hW (by exact h2)), fun _ _ hh => hh⟩
                · have e0 : w = 0 := by
                    have q := congrArg Int32.toNatClampNeg (show nI w = 0 from c3)
                    rw [nI_clamp (by omega)] at q
                    exact q.trans (by decide)
                  rw [if_pos e0, ← nI_min (by omega) (by omega)] at h2
                  exact h2
              · intro i hi ih y8
                have e6 : s2.1 6 i = nI (a.1 6 i) := hC2.num 6 i rfl
                have hmi := hm i hi
                have hlo := vlom_le (P := P) (m := a.1 6) (n := i)
                have hhi := vhim_le (P := P) (m := a.1 6) (n := i) (fun k hk => hm k (by omega))
                refine VM.go [88] ⟨fun q => absurd q (nI_ge hi (by decide)), fun _ => ?_⟩
                show VM G (d + 6) iX6_walk 88 _ _ _ _
                rw [nI_night (by omega) (by omega), f3 i hi]
                by_cases hPi : P i = true
                · rw [if_pos hPi]
                  have := ih y8
                  rw [show vlom P (a.1 6) (i + 1) = min (vlom P (a.1 6) i) (a.1 6 i) from if_pos hPi, show vhim P (a.1 6) (i + 1) = max (vhim P (a.1 6) i) (a.1 6 i) from if_pos hPi, ← nI_min (by omega) (by omega), ← nI_max (by omega) (by omega), ← e6, ← nI_1] at this
                  exact VM.go [75] ⟨fun q => absurd rfl q, fun _ => ⟨i, rfl, hi, i, rfl, hi, this⟩⟩
                · rw [if_neg hPi]
                  have := ih y8
                  rw [show vlom P (a.1 6) (i + 1) = vlom P (a.1 6) i from if_neg hPi, show vhim P (a.1 6) (i + 1) = vhim P (a.1 6) i from if_neg hPi, ← nI_1] at this
                  exact VM.go [75] ⟨fun _ => this, fun q => absurd q (by decide)⟩
            exact VM.go [75] (key 0 (Nat.zero_le _) none)
          · have e0 : vowb P 5 = 0 := by
              have q := congrArg Int32.toNatClampNeg (show nI (vowb P 5) = 0 from c2)
              rw [nI_clamp (by omega)] at q
              exact q.trans (by decide)
            rw [if_pos (f4.mp e0)] at h2
            refine ⟨fun c3 => ?_, fun c3 => ?_⟩
            · rw [if_neg (fun e => c3 (by rw [e]; rfl))] at h2
              exact h2
            · have e0 : w = 0 := by
                have q := congrArg Int32.toNatClampNeg (show nI w = 0 from c3)
                rw [nI_clamp (by omega)] at q
                exact q.trans (by decide)
              rw [if_pos e0] at h2
              exact h2
        · have e0 : w = 2 := by
            have q := congrArg Int32.toNatClampNeg (show nI w = 2 from c1)
            rw [nI_clamp (by omega)] at q
            exact q.trans (by decide)
          unfold vwalk at h2
          rw [if_pos e0, ← f2, ← vbc (by omega)] at h2
          exact ⟨_, VM.at (vb_bitCount (by exact h2)), fun _ _ hh => hh⟩
      · refine ⟨fun c => absurd rfl c, fun _ => bad ?_⟩
        unfold sWalk
        rw [vix_btw (x := w0) (m := 2) (by decide) hno]
        cases vix x0 100 <;> cases vix k0 100000 <;> rfl
    · refine ⟨fun _ => bad ?_, fun c => absurd rfl c⟩
      unfold sWalk
      rw [vix_btw (x := k0) (m := 99999) (by decide) hno]
      cases vix x0 100 <;> rfl
  · refine ⟨fun _ => bad ?_, fun c => absurd rfl c⟩
    unfold sWalk
    rw [vix_btw (x := x0) (m := 99) (by decide) hno]
end WA
end
section
/-! ===== tells ===== -/
def vfo (f : Nat → Nat) (it : Nat → Int32) (but : Nat) : Nat → Nat → Int32
  | 0, _ => -1
  | k + 1, l => if ¬ l = but ∧ ¬ nI (f l) = it l then nI l else vfo f it but k (l + 1)
theorem vfo_all {f : Nat → Nat} {it : Nat → Int32} {but : Nat} : ∀ k l, l + k < 2 ^ 31 → (vfo f it but k l = -1 ↔ ∀ j, l ≤ j → j < l + k → j = but ∨ nI (f j) = it j) := by
  intro k
  induction k with
  | zero => intro l _; exact ⟨fun _ j h1 h2 => absurd h2 (by omega), fun _ => rfl⟩
  | succ k ih =>
    intro l hl
    unfold vfo
    by_cases q : ¬ l = but ∧ ¬ nI (f l) = it l
    · rw [if_pos q]
      refine ⟨fun e => absurd (show nI l < 0 by rw [e]; decide) (nI_pos (by omega)), fun z => ?_⟩
      rcases z l (Nat.le_refl _) (by omega) with r | r
      · exact absurd r q.1
      · exact absurd r q.2
    · rw [if_neg q, ih (l + 1) (by omega)]
      constructor
      · intro z j h1 h2
        by_cases e : j = l
        · subst e
          exact Classical.byContradiction (fun r => q ⟨fun r1 => r (Or.inl r1), fun r1 => r (Or.inr r1)⟩)
        · exact z j (by omega) (by omega)
      · exact fun z j h1 h2 => z j (by omega) (by omega)
/-- all of the first n fit -/
def vfit (f : Nat → Nat) (it : Nat → Int32) (n : Nat) : Bool := decide (∀ j, j < n → nI (f j) = it j)
theorem vfo_fit {f : Nat → Nat} {it : Nat → Int32} {n : Nat} (hn : n ≤ 6) : vfo f it 7 n 0 = -1 ↔ vfit f it n = true := by
  rw [vfo_all n 0 (by omega)]
  unfold vfit
  rw [decide_eq_true_eq]
  constructor
  · intro z j hj
    rcases z j (Nat.zero_le _) (by omega) with r | r
    · omega
    · exact r
  · exact fun z j _ hj => Or.inr (z j (by omega))
abbrev vT3 : Type := (Nat → Nat) × (Nat → Nat) × (Nat → Nat)
/-- kinds, numbers, years, one of them changed for the light l -/
def vtrT (tc l v : Nat) (t : vT3) : vT3 := if tc = 41 then (vupd t.1 l v, t.2) else if tc = 42 then (t.1, vupd t.2.1 l v, t.2.2) else (t.1, t.2.1, vupd t.2.2 l v)
theorem vtrT_2 {tc l v w : Nat} {t : vT3} : vtrT tc l w (vtrT tc l v t) = vtrT tc l w t := by
  unfold vtrT
  by_cases h1 : tc = 41
  · simp only [if_pos h1, vupd_2]
  · by_cases h2 : tc = 42
    · simp only [if_neg h1, if_pos h2, vupd_2]
    · simp only [if_neg h1, if_neg h2, vupd_2]
/-- bits, how many, the first and one more -/
def vts (small : Bool) (F : Nat → Bool) (lo : Nat) : Nat → Nat × Nat × Nat
  | 0 => (0, 0, 0)
  | k + 1 => if F (lo + k) then (if small then (vts small F lo k).1 ||| 2 ^ (lo + k) else (vts small F lo k).1, (vts small F lo k).2.1 + 1, if (vts small F lo k).2.1 = 0 then lo + k + 1 else (vts small F lo k).2.2) else vts small F lo k
theorem vts_le {small : Bool} {F : Nat → Bool} {lo : Nat} {k : Nat} (hs : small = true → lo + k ≤ 10) : (vts small F lo k).1 < 1024 ∧ (vts small F lo k).2.1 ≤ k ∧ (vts small F lo k).2.2 ≤ lo + k := by
  induction k with
  | zero => exact ⟨show (0 : Nat) < 1024 by decide, Nat.le_refl _, Nat.zero_le _⟩
  | succ k ih =>
    obtain ⟨i1, i2, i3⟩ := ih (fun h => by have := hs h; omega)
    unfold vts
    by_cases h : F (lo + k) = true
    · rw [if_pos h]
      refine ⟨?_, by dsimp only; omega, by dsimp only; split <;> omega⟩
      dsimp only
      by_cases h2 : small = true
      · rw [if_pos h2]
        have := hs h2
        exact Nat.or_lt_two_pow (n := 10) i1 (Nat.pow_lt_pow_right (by decide) (by omega))
      · rw [if_neg h2]; exact i1
    · rw [if_neg h]
      exact ⟨i1, by omega, by omega⟩
/-- owed by looker p under rule t, clouds c and these traits -/
def vowT (a : vα) (t c p : Nat) (tr : vT3) : Nat → Nat := vowes (vTof (vcomp (a.2.2 t))) c (a.1 1 2) tr.1 tr.2.1 tr.2.2 (vse a p)
abbrev vtr0 (a : vα) : vT3 := (a.1 2, a.1 3, a.1 4)
def vtcO (s : Nat) : Nat := if s = 1 then 41 else if s = 2 then 42 else 43
def vtsO (a : vα) (s p l sort : Nat) : Nat × Nat × Nat := vts (decide (sort ≤ 2)) (fun v => vfit (vowT a (a.1 1 1) (a.1 1 0) p (vtrT (vtcO sort) l v (vtr0 a))) (a.2.1 s) (a.1 1 2)) (if sort ≤ 2 then 0 else 1) (if sort = 1 then 6 else if sort = 2 then 10 else 999)
def sTells (a : vα) (sheet looker what : Int32) : Int32 := match vix sheet 4, vix looker 5, vix what 50 with
  | some s, some p, some w => if 3 ≤ w ∧ w < 10 then -2 else if 10 ≤ w ∧ ¬ w % 10 < a.1 1 2 then -2 else if a.1 (50 + 2 * s) 0 = 0 then -11 else if ¬ a.1 (50 + 2 * s) 1 = a.1 1 2 then -2
    else if w = 0 then vfo (vowA a (a.1 1 0) (a.1 1 1) p) (a.2.1 s) 7 (a.1 1 2) 0
    else if w = 1 then nI (vowb (fun t => vfit (vowA a (a.1 1 0) t p) (a.2.1 s) (a.1 1 2)) (a.1 0 4))
    else if w = 2 then nI (vowb (fun t => vfit (vowA a (if t = 12 then 0 else 2 ^ t) (a.1 1 1) p) (a.2.1 s) (a.1 1 2)) 13)
    else if w / 10 ≤ 2 then nI (vtsO a s p (w % 10) (w / 10)).1 else if w / 10 = 3 then nI (vtsO a s p (w % 10) (w / 10)).2.1 else nI (vtsO a s p (w % 10) (w / 10)).2.2 - 1
  | _, _, _ => -2
section TE
variable {G : vG} {d : Nat} {σ : vM} {post : vQ} {a : vα} {cs : Nat → List Int32} {c n r : Nat} {kd nu ye se : Nat → Nat}
theorem vb_item {ro i sz : Nat} (hr : ro = 50 ∨ ro = 52 ∨ ro = 54 ∨ ro = 56) (hsz : σ.1 ro 1 = nI sz) (hi : i < sz) (hz : sz ≤ 40) (h : post (some (.int (σ.1 (ro + 1) i))) σ) : VM G d iX3_item 0 [some (.ref ro), some (.int (nI i))] [] σ post := by
  have h40 : i < 40 := by omega
  rcases hr with rfl | rfl | rfl | rfl
  all_goals exact VM.go [] ⟨fun q => absurd q (nI_pos (by omega)), fun _ => ⟨fun q => absurd q (by rw [hsz]; exact nI_ge hi (by omega)), fun _ => ⟨fun q => absurd q (nI_ge h40 (by decide)), fun _ => ⟨i, rfl, h40, h⟩⟩⟩⟩
theorem vSc_row {ro i k : Nat} (hr : ro = 50 ∨ ro = 52 ∨ ro = 54 ∨ ro = 56) (hi : i ≤ 1) : vSc (ro + i) k = false ∧ vBi (ro + i) k = false := by
  constructor
  · cases hb : vSc (ro + i) k with
    | false => rfl
    | true => exfalso; simp only [vSc, Bool.or_eq_true, vbq] at hb; omega
  · cases hb : vBi (ro + i) k with
    | false => rfl
    | true => exfalso; simp only [vBi, Bool.and_eq_true, Nat.ble_eq] at hb; omega
theorem vb_firstO {ro but : Nat} {but0 : Int32} {it : Nat → Int32} (hr : ro = 50 ∨ ro = 52 ∨ ro = 54 ∨ ro = 56) (hB : vBR cs c n r kd nu ye se σ) (hsz : σ.1 ro 1 = nI n) (hit : ∀ k, k < n → σ.1 (ro + 1) k = it k) (hbut : ∀ l, l < 6 → (nI l = but0 ↔ l = but)) (h : ∀ σ', vag vSc σ σ' → post (some (.int (vfo (vowes (vTof cs) c n kd nu ye se) it but n 0))) σ') : VM G (d + 3) iX0_firstOtherwise 0 [some (.ref 40), some (.ref ro), some (.int but0), none] [] σ post := by
  have hn6 := hB.2.2.2.2.1.2.1
  have hn := hB.2.2.2.2.2.2.1
  have key : ∀ i, i ≤ n → ∀ s2, vag vSc σ s2 → (∀ σ', vag vSc σ σ' → post (some (.int (vfo (vowes (vTof cs) c n kd nu ye se) it but (n - i) i))) σ') → VM G (d + 3) iX0_firstOtherwise 2 [some (.ref 40), some (.ref ro), some (.int but0), some (.int (nI i))] [] s2 post := by
    refine vloop _ ?_ ?_
    · intro s2 hs2 h'
      rw [Nat.sub_self] at h'
      refine VM.go [2] ⟨fun _ => h' s2 hs2, fun c1 => absurd ?_ c1⟩
      rw [hs2.get rfl, hn]; exact nI_le (Nat.le_refl _) (by omega)
    · intro i hi ih s2 hs2 h'
      rw [show n - i = (n - (i + 1)) + 1 by omega] at h'
      unfold vfo at h'
      have nxt : ∀ s3, vag vSc σ s3 → ¬ (¬ i = but ∧ ¬ nI (vowes (vTof cs) c n kd nu ye se i) = it i) → VM G (d + 3) iX0_firstOtherwise 30 [some (.ref 40), some (.ref ro), some (.int but0), some (.int (nI i))] [] s3 post := fun s3 hs3 q => by
        rw [if_neg q] at h'
        have := ih s3 hs3 h'
        rw [← nI_1] at this
        exact VM.go [2] this
      refine VM.go [30] ⟨fun c1 => absurd c1 (by rw [hs2.get rfl, hn]; exact nI_ge hi (by omega)), fun _ => ⟨fun c2 => ?_, fun c2 => ?_⟩⟩
      · exact nxt s2 hs2 (fun q => q.1 ((hbut i (by omega)).mp c2))
      · have hne : ¬ i = but := fun q => c2 ((hbut i (by omega)).mpr q)
        refine ⟨_, VM.at (vb_owedR (l := i) (by omega) (hB.ag hs2) (fun s3 hs3 => ?_)), fun _ _ hh => hh⟩
        have hs3' := hs2.tr hs3
        have e1 : s3.1 ro 1 = nI n := (hs3'.get (vSc_row (i := 0) hr (by decide)).1).trans hsz
        have e2 : s3.1 (ro + 1) i = it i := (hs3'.get (vSc_row hr (by decide)).1).trans (hit i hi)
        have fin : VM G (d + 3) iX0_firstOtherwise 25 [some (.ref 40), some (.ref ro), some (.int but0), some (.int (nI i))] [.int (it i), .int (nI (vowes (vTof cs) c n kd nu ye se i))] s3 post := by
          refine VM.go [30] ⟨fun c3 => nxt s3 hs3' (fun q => q.2 c3), fun c3 => ?_⟩
          rw [if_pos ⟨hne, c3⟩] at h'
          exact h' s3 hs3'
        rw [← e2] at fin
        rcases hr with rfl | rfl | rfl | rfl
        all_goals
          refine ⟨_, VM.at (vb_item (by decide) e1 hi (by omega) ?_), fun _ _ hh => hh⟩
          exact VM.at fin
  exact VM.go [2] (key 0 (Nat.zero_le _) σ vag.rf h)
theorem nI_shl13 : ∀ t, t < 13 → (1 : Int32) <<< (nI t &&& 31) = nI (2 ^ t) := by decide
theorem vowb_13 {P : Nat → Bool} {n : Nat} (hn : n ≤ 13) : vowb P n < 2 ^ 31 := Nat.lt_of_lt_of_le vowb_lt (Nat.pow_le_pow_right (by decide) (by omega))
theorem vb_textsFit {ro p : Nat} {it : Nat → Int32} (hr : ro = 50 ∨ ro = 52 ∨ ro = 54 ∨ ro = 56) (hp : p < 5) (hC : vRC a σ) (hW : vWF a) {s2 : vM} (hs2 : vag vBi σ s2) (hB : vBA a (a.1 1 1) p (a.1 1 0) s2) (hsz : σ.1 ro 1 = nI (a.1 1 2)) (hit : ∀ k, k < a.1 1 2 → σ.1 (ro + 1) k = it k) (h : ∀ σ', vag vBi σ σ' → post (some (.int (nI (vowb (fun t => vfit (vowA a (a.1 1 0) t p) it (a.1 1 2)) (a.1 0 4))))) σ') : VM G (d + 4) iX6_textsThatFit 0 [some (.ref 0), some (.ref ro), none, none] [] s2 post := by
  have hT := hW.2.1.2
  have hn6 := hW.1.2.2
  obtain ⟨P, hP⟩ : ∃ P, P = (fun t => vfit (vowA a (a.1 1 0) t p) it (a.1 1 2)) := ⟨_, rfl⟩
  rw [← hP] at h
  have key : ∀ i, i ≤ a.1 0 4 → ∀ s3, vag vBi σ s3 → (∃ t, t < a.1 0 4 ∧ vBA a t p (a.1 1 0) s3) → VM G (d + 4) iX6_textsThatFit 4 [some (.ref 0), some (.ref ro), some (.int (nI (vowb P i))), some (.int (nI i))] [] s3 post := by
    refine vloop _ ?_ ?_
    · intro s3 hs3 _
      have e4 : s3.1 0 4 = nI (a.1 0 4) := (hs3.get rfl).trans (hC.num 0 4 rfl)
      refine VM.go [4] ⟨fun _ => h s3 hs3, fun q => absurd ?_ q⟩
      rw [e4]; exact nI_le (Nat.le_refl _) (by omega)
    · intro i hi ih s3 hs3 hB3
      have e4 : s3.1 0 4 = nI (a.1 0 4) := (hs3.get rfl).trans (hC.num 0 4 rfl)
      have hi6 : i < 6 := by omega
      obtain ⟨t0, ht0, hB3⟩ := hB3
      obtain ⟨g1, g2, g3, g4, g5, g6, g7⟩ := hB3.2.2.2.2.2
      have hs4 : vag vBi σ (vput s3 40 1 (nI (20 + 3 * i))) := hs3.put rfl
      have hB4 : vBA a i p (a.1 1 0) (vput s3 40 1 (nI (20 + 3 * i))) := hC.bill hW hi hp hW.1.1 hs4 ⟨g1, g2, rfl, g4, g5, g6, g7⟩
      have hE4 : (vput s3 40 1 (nI (20 + 3 * i))).1 ro 1 = nI (a.1 1 2) := (hs4.get (vSc_row (i := 0) hr (by decide)).2).trans hsz
      have hI4 : ∀ k, k < a.1 1 2 → (vput s3 40 1 (nI (20 + 3 * i))).1 (ro + 1) k = it k := fun k hk => (hs4.get (vSc_row hr (by decide)).2).trans (hit k hk)
      have next : VM G (d + 4) iX6_textsThatFit 24 [some (.ref 0), some (.ref ro), some (.int (nI (vowb P i))), some (.int (nI i))] [] (vput s3 40 1 (nI (20 + 3 * i))) post := by
        have fin : ∀ s5, vag vSc (vput s3 40 1 (nI (20 + 3 * i))) s5 → VM G (d + 4) iX6_textsThatFit 33 [some (.ref 0), some (.ref ro), some (.int (nI (vowb P i))), some (.int (nI i))] [.int (vfo (vowA a (a.1 1 0) i p) it 7 (a.1 1 2) 0)] s5 post := by
          intro s5 hs5
          have hs5' := hs4.tr (hs5.up vSc_Bi)
          have hB5 := hB4.ag hs5
          have hf := vfo_fit (f := vowA a (a.1 1 0) i p) (it := it) hn6
          have hlt := vowb_lt (P := P) (n := i)
          have hpw : 2 ^ i < 2 ^ 32 := Nat.pow_lt_pow_right (by decide) (by omega)
          refine VM.go [4] ⟨fun q => ?_, fun q => ?_⟩
          · have := ih s5 hs5' ⟨i, hi, hB5⟩
            rw [show vowb P (i + 1) = vowb P i from if_neg (fun z => q (by rw [hP] at z; exact hf.mpr z)), ← nI_1 i] at this
            exact this
          · have := ih s5 hs5' ⟨i, hi, hB5⟩
            rw [show vowb P (i + 1) = vowb P i ||| 2 ^ i from if_pos (by rw [hP]; exact hf.mp q), ← nI_or (by omega) hpw, ← nI_shl13 i (by omega), ← nI_1 i] at this
            exact this
        have h7 : ∀ l, l < 6 → (nI l = (-1 : Int32) ↔ l = 7) := fun l hl => ⟨fun e => absurd (show nI l < 0 by rw [e]; decide) (nI_pos (by omega)), fun e => absurd e (by omega)⟩
        rcases hr with rfl | rfl | rfl | rfl
        all_goals exact VM.go [33] ⟨_, VM.at (vb_firstO (but := 7) (by decide) hB4 hE4 hI4 h7 (fun s5 hs5 => by exact VM.at (fin s5 hs5))), fun _ _ hh => hh⟩
      refine VM.go [18] ⟨fun q => absurd q (by rw [e4]; exact nI_ge hi (by omega)), fun _ => ?_⟩
      show VM G (d + 4) iX6_textsThatFit 18 _ _ _ _
      refine VM.go [24] ⟨_, VM.at (vb_ruleOf hi6 ?_), fun _ _ hh => hh⟩
      rcases (show i = 0 ∨ i = 1 ∨ i = 2 ∨ i = 3 ∨ i = 4 ∨ i = 5 by omega) with rfl | rfl | rfl | rfl | rfl | rfl
      all_goals exact VM.at (VM.go [24] next)
  exact VM.go [4] (key 0 (Nat.zero_le _) s2 hs2 ⟨a.1 1 1, hW.1.2.1, hB⟩)
theorem vb_cloudsFit {ro p : Nat} {it : Nat → Int32} (hr : ro = 50 ∨ ro = 52 ∨ ro = 54 ∨ ro = 56) (hp : p < 5) (hC : vRC a σ) (hW : vWF a) {s2 : vM} (hs2 : vag vBi σ s2) (hB : vBA a (a.1 1 1) p (a.1 1 0) s2) (hsz : σ.1 ro 1 = nI (a.1 1 2)) (hit : ∀ k, k < a.1 1 2 → σ.1 (ro + 1) k = it k) (h : ∀ σ', vag vBi σ σ' → post (some (.int (nI (vowb (fun t => vfit (vowA a (if t = 12 then 0 else 2 ^ t) (a.1 1 1) p) it (a.1 1 2)) 13)))) σ') : VM G (d + 4) iX6_cloudsThatFit 0 [some (.ref 0), some (.ref ro), none, none] [] s2 post := by
  have hT := hW.2.1.2
  have hn6 := hW.1.2.2
  obtain ⟨P, hP⟩ : ∃ P, P = (fun t => vfit (vowA a (if t = 12 then 0 else 2 ^ t) (a.1 1 1) p) it (a.1 1 2)) := ⟨_, rfl⟩
  rw [← hP] at h
  have key : ∀ i, i ≤ 13 → ∀ s3 c, vag vBi σ s3 → vBA a (a.1 1 1) p c s3 → VM G (d + 4) iX6_cloudsThatFit 4 [some (.ref 0), some (.ref ro), some (.int (nI (vowb P i))), some (.int (nI i))] [] s3 post := by
    refine vloop _ ?_ ?_
    · intro s3 c hs3 _
      exact VM.go [4] ⟨fun _ => h s3 hs3, fun q => absurd (by decide) q⟩
    · intro i hi ih s3 c hs3 hB3
      obtain ⟨c', hc'⟩ : ∃ c', c' = if i = 12 then 0 else 2 ^ i := ⟨_, rfl⟩
      have hc4 : c' < 4096 := by
        rw [hc']; split
        · decide
        · exact Nat.pow_lt_pow_right (n := 12) (by decide) (by omega)
      have hs4 : vag vBi σ (vput s3 40 0 (nI c')) := hs3.put rfl
      have hB4 := hB3.cl hc4
      have hE4 : (vput s3 40 0 (nI c')).1 ro 1 = nI (a.1 1 2) := (hs4.get (vSc_row (i := 0) hr (by decide)).2).trans hsz
      have hI4 : ∀ k, k < a.1 1 2 → (vput s3 40 0 (nI c')).1 (ro + 1) k = it k := fun k hk => (hs4.get (vSc_row hr (by decide)).2).trans (hit k hk)
      have next : VM G (d + 4) iX6_cloudsThatFit 30 [some (.ref 0), some (.ref ro), some (.int (nI (vowb P i))), some (.int (nI i))] [] (vput s3 40 0 (nI c')) post := by
        have fin : ∀ s5, vag vSc (vput s3 40 0 (nI c')) s5 → VM G (d + 4) iX6_cloudsThatFit 39 [some (.ref 0), some (.ref ro), some (.int (nI (vowb P i))), some (.int (nI i))] [.int (vfo (vowA a c' (a.1 1 1) p) it 7 (a.1 1 2) 0)] s5 post := by
          intro s5 hs5
          have hs5' := hs4.tr (hs5.up vSc_Bi)
          have hB5 := hB4.ag hs5
          have hf := vfo_fit (f := vowA a c' (a.1 1 1) p) (it := it) hn6
          have hlt := vowb_lt (P := P) (n := i)
          have hpw : 2 ^ i < 2 ^ 32 := Nat.pow_lt_pow_right (by decide) (by omega)
          have hPi : P i = vfit (vowA a c' (a.1 1 1) p) it (a.1 1 2) := by rw [hP, hc']
          refine VM.go [4] ⟨fun q => ?_, fun q => ?_⟩
          · have := ih s5 c' hs5' hB5
            rw [show vowb P (i + 1) = vowb P i from if_neg (fun z => q (by rw [hPi] at z; exact hf.mpr z)), ← nI_1 i] at this
            exact this
          · have := ih s5 c' hs5' hB5
            rw [show vowb P (i + 1) = vowb P i ||| 2 ^ i from if_pos (by rw [hPi]; exact hf.mp q), ← nI_or (by omega) hpw, ← nI_shl13 i (by omega), ← nI_1 i] at this
            exact this
        have h7 : ∀ l, l < 6 → (nI l = (-1 : Int32) ↔ l = 7) := fun l hl => ⟨fun e => absurd (show nI l < 0 by rw [e]; decide) (nI_pos (by omega)), fun e => absurd e (by omega)⟩
        rcases hr with rfl | rfl | rfl | rfl
        all_goals exact VM.go [39] ⟨_, VM.at (vb_firstO (but := 7) (by decide) hB4 hE4 hI4 h7 (fun s5 hs5 => by exact VM.at (fin s5 hs5))), fun _ _ hh => hh⟩
      refine VM.go [30] ⟨fun q => absurd q ?_, fun _ => ⟨fun q => ?_, fun q => ?_⟩⟩
      · exact Int32.not_lt.mpr (nI_le (show i ≤ 12 by omega) (by decide))
      · rw [if_neg (fun e => q (by rw [e]; rfl))] at hc'
        rw [hc', ← nI_shl13 i hi] at next
        exact next
      · have e0 : i = 12 := (nI_eq (by omega) (by decide)).mp (show nI i = nI 12 from q)
        rw [if_pos e0] at hc'
        rw [hc'] at next
        exact next
  exact VM.go [4] (key 0 (Nat.zero_le _) s2 _ hs2 hB)
end TE
end
section
/-! ===== what is owed depends on this alone ===== -/
theorem vsumN_cg {f g : Nat → Nat} {n : Nat} (h : ∀ i, i < n → f i = g i) : vsumN n f = vsumN n g := by
  induction n with
  | zero => rfl
  | succ n ih =>
    show vsumN n f + f n = vsumN n g + g n
    rw [ih (fun i hi => h i (by omega)), h n (by omega)]
theorem vlitS_cg {c n : Nat} {se se' : Nat → Nat} (h : ∀ k, k < n → se k = se' k) : vlitS c se n = vlitS c se' n := vsumN_cg (fun i hi => by rw [h i hi])
theorem vnames_cg {c n l t : Nat} {nu nu' ye ye' se se' : Nat → Nat} (h1 : nu l = nu' l) (h2 : ye l = ye' l) (h3 : se l = se' l) (h4 : ∀ k, k < n → se k = se' k) : vnames c nu ye se n l t = vnames c nu' ye' se' n l t := by
  funext i
  unfold vnames
  rw [h1, h2, h3, vlitS_cg h4]
theorem vowes_cg {T : Nat → (Nat → Int32) → Int32} {c n l : Nat} {kd kd' nu nu' ye ye' se se' : Nat → Nat} (h0 : kd l = kd' l) (h1 : nu l = nu' l) (h2 : ye l = ye' l) (h3 : se l = se' l) (h4 : ∀ k, k < n → se k = se' k) : vowes T c n kd nu ye se l = vowes T c n kd' nu' ye' se' l := by
  have e : ∀ t, vnames c nu ye se n l t = vnames c nu' ye' se' n l t := fun t => vnames_cg h1 h2 h3 h4
  unfold vowes
  simp only [e, h0, h1, h2, h3]
theorem vtrT_ne {tc l v j : Nat} {t : vT3} (h : ¬ j = l) : (vtrT tc l v t).1 j = t.1 j ∧ (vtrT tc l v t).2.1 j = t.2.1 j ∧ (vtrT tc l v t).2.2 j = t.2.2 j := by
  unfold vtrT
  split
  · exact ⟨if_neg h, rfl, rfl⟩
  · split
    · exact ⟨rfl, if_neg h, rfl⟩
    · exact ⟨rfl, rfl, if_neg h⟩
theorem vowT_ne {a : vα} {t c p tc l v j : Nat} {tr : vT3} (h : ¬ j = l) : vowT a t c p (vtrT tc l v tr) j = vowT a t c p tr j := by
  obtain ⟨h1, h2, h3⟩ := vtrT_ne (tc := tc) (v := v) (t := tr) h
  exact vowes_cg h1 h2 h3 rfl (fun _ _ => rfl)
theorem vfit_but {f g : Nat → Nat} {it : Nat → Int32} {n l : Nat} (hn : n ≤ 6) (hl : l < n) (h : ∀ j, j < n → ¬ j = l → f j = g j) : vfit f it n = true ↔ vfo g it l n 0 = -1 ∧ nI (f l) = it l := by
  rw [vfo_all n 0 (by omega)]
  unfold vfit
  rw [decide_eq_true_eq]
  constructor
  · refine fun z => ⟨fun j _ hj => ?_, z l hl⟩
    by_cases e : j = l
    · exact Or.inl e
    · exact Or.inr (by rw [← h j (by omega) e]; exact z j (by omega))
  · rintro ⟨z1, z2⟩ j hj
    by_cases e : j = l
    · rw [e]; exact z2
    · rcases z1 j (Nat.zero_le _) (by omega) with r | r
      · exact absurd r e
      · rw [h j hj e]; exact r
theorem vts_none {small : Bool} {F : Nat → Bool} {lo k : Nat} (h : ∀ j, j < k → ¬ F (lo + j) = true) : vts small F lo k = (0, 0, 0) := by
  induction k with
  | zero => rfl
  | succ k ih =>
    unfold vts
    rw [if_neg (h k (by omega))]
    exact ih (fun j hj => h j (by omega))
section TR
variable {G : vG} {d : Nat} {σ : vM} {post : vQ} {a : vα} {cs : Nat → List Int32} {c n r : Nat} {se : Nat → Nat}
theorem vBR.tr {tc l v : Nat} {t : vT3} (htc : tc = 41 ∨ tc = 42 ∨ tc = 43) (hB : vBR cs c n r t.1 t.2.1 t.2.2 se σ) (hl : l < 6) (hv1 : tc = 41 → v < 6) (hv2 : tc = 42 → v ≤ 9) (hv3 : v ≤ 999) : vBR cs c n r (vtrT tc l v t).1 (vtrT tc l v t).2.1 (vtrT tc l v t).2.2 se (vput σ tc l (nI v)) := by
  obtain ⟨w1, w2, w3, w4, w5, w6, w7⟩ := hB.2.2.2.2.1
  obtain ⟨g1, g2, g3, g4, g5, g6, g7⟩ := hB.2.2.2.2.2
  have up : ∀ (f : Nat → Nat) (tc : Nat), (∀ k, k < 6 → σ.1 tc k = nI (f k)) → ∀ k, k < 6 → (vput σ tc l (nI v)).1 tc k = nI (vupd f l v k) := by
    intro f tc hf k hk
    rw [vput_get]
    unfold vupd
    by_cases e : k = l
    · rw [if_pos ⟨rfl, e⟩, if_pos e]
    · rw [if_neg (fun q => e q.2), if_neg e]; exact hf k hk
  have rg : ∀ (f : Nat → Nat) (P : Nat → Prop), P v → (∀ k, k < 6 → P (f k)) → ∀ k, k < 6 → P (vupd f l v k) := by
    intro f P hP hf k hk
    unfold vupd
    split
    · exact hP
    · exact hf k hk
  rcases htc with rfl | rfl | rfl
  · exact hB.to (vag.rf.put rfl) ⟨w1, w2, w3, rg _ (· < 6) (hv1 rfl) w4, w5, w6, w7⟩ ⟨g1, g2, g3, up _ _ g4, g5, g6, g7⟩
  · exact hB.to (vag.rf.put rfl) ⟨w1, w2, w3, w4, rg _ (· ≤ 9) (hv2 rfl) w5, w6, w7⟩ ⟨g1, g2, g3, g4, up _ _ g5, g6, g7⟩
  · exact hB.to (vag.rf.put rfl) ⟨w1, w2, w3, w4, w5, rg _ (· ≤ 999) hv3 w6, w7⟩ ⟨g1, g2, g3, g4, g5, up _ _ g6, g7⟩
theorem vb_traits84 {ro p l sv tc lo K : Nat} {it : Nat → Int32} (hsv : 1 ≤ sv ∧ sv ≤ 4) (htc : tc = 41 ∨ tc = 42 ∨ tc = 43) (hK1 : tc = 41 → lo + K ≤ 6) (hK2 : tc = 42 → lo + K ≤ 10) (hK3 : lo + K ≤ 1000) (hK0 : 1 ≤ K) (hsm : sv ≤ 2 → lo + K ≤ 10) (hr : ro = 50 ∨ ro = 52 ∨ ro = 54 ∨ ro = 56) (hl : l < a.1 1 2) (hp : p < 5) (hC : vRC a σ) (hW : vWF a) {s2 : vM} (hs2 : vag vBi σ s2) (hB : vBA a (a.1 1 1) p (a.1 1 0) s2) (hsz : σ.1 ro 1 = nI (a.1 1 2)) (hit : ∀ k, k < a.1 1 2 → σ.1 (ro + 1) k = it k) {F : Nat → Bool} (hF : F = fun v => vfit (vowT a (a.1 1 1) (a.1 1 0) p (vtrT tc l v (vtr0 a))) it (a.1 1 2)) (h : ∀ σ', vag vBi σ σ' → post (some (.int (if sv ≤ 2 then nI (vts (decide (sv ≤ 2)) F lo K).1 else if sv = 3 then nI (vts (decide (sv ≤ 2)) F lo K).2.1 else nI (vts (decide (sv ≤ 2)) F lo K).2.2 - 1))) σ') : VM G (d + 4) iX6_traitsThatFit 84 [some (.ref 0), some (.ref ro), some (.int (nI l)), some (.int (nI sv)), some (.ref tc), some (.int (nI lo)), some (.int (nI (lo + K - 1))), some (.int 0), some (.int 0), some (.int (-1)), none, none] [] s2 post := by
  have hT := hW.2.1.2
  have hn6 := hW.1.2.2
  have hl6 : l < 6 := by omega
  have fin190 : ∀ (s3 : vM) (y10 y11 : Option Value) (w : Nat × Nat × Nat), vag vBi σ s3 → w = vts (decide (sv ≤ 2)) F lo K → VM G (d + 4) iX6_traitsThatFit 190 [some (.ref 0), some (.ref ro), some (.int (nI l)), some (.int (nI sv)), some (.ref tc), some (.int (nI lo)), some (.int (nI (lo + K - 1))), some (.int (nI w.1)), some (.int (nI w.2.1)), some (.int (nI w.2.2 - 1)), y10, y11] [] s3 post := by
    intro s3 y10 y11 w hs3 hw
    have h' := h s3 hs3
    rw [← hw] at h'
    refine VM.go [] ⟨fun q => ⟨fun q2 => ?_, fun q2 => ?_⟩, fun q => ?_⟩
    · have q' : ¬ nI sv ≤ nI 2 := Int32.not_le.mpr q
      rw [nIle (by omega) (by decide)] at q'
      rw [if_neg (by omega), if_neg (fun e => q2 (by rw [e]; rfl))] at h'
      exact h'
    · have q2' : sv = 3 := (nI_eq (by omega) (by decide)).mp (show nI sv = nI 3 from q2)
      rw [if_neg (by omega), if_pos q2'] at h'
      exact h'
    · have q' : nI sv ≤ nI 2 := Int32.not_lt.mp q
      rw [nIle (by omega) (by decide)] at q'
      rw [if_pos q'] at h'
      exact h'
  have fn : ∀ v j, j < a.1 1 2 → ¬ j = l → vowT a (a.1 1 1) (a.1 1 0) p (vtrT tc l v (vtr0 a)) j = vowA a (a.1 1 0) (a.1 1 1) p j := fun v j _ hj => vowT_ne hj
  have hFi : ∀ v, F v = true ↔ vfo (vowA a (a.1 1 0) (a.1 1 1) p) it l (a.1 1 2) 0 = -1 ∧ nI (vowT a (a.1 1 1) (a.1 1 0) p (vtrT tc l v (vtr0 a)) l) = it l := fun v => by
    rw [hF]; exact vfit_but hn6 hl (fn v)
  have key : vfo (vowA a (a.1 1 0) (a.1 1 1) p) it l (a.1 1 2) 0 = -1 → ∀ k, k ≤ K → ∀ (s3 : vM) (tr : vT3), vag vBi σ s3 → (∀ v, vtrT tc l v tr = vtrT tc l v (vtr0 a)) → vBR (vcomp (a.2.2 (a.1 1 1))) (a.1 1 0) (a.1 1 2) (20 + 3 * a.1 1 1) tr.1 tr.2.1 tr.2.2 (vse a p) s3 → VM G (d + 4) iX6_traitsThatFit 108 [some (.ref 0), some (.ref ro), some (.int (nI l)), some (.int (nI sv)), some (.ref tc), some (.int (nI lo)), some (.int (nI (lo + K - 1))), some (.int (nI (vts (decide (sv ≤ 2)) F lo k).1)), some (.int (nI (vts (decide (sv ≤ 2)) F lo k).2.1)), some (.int (nI (vts (decide (sv ≤ 2)) F lo k).2.2 - 1)), some (.int 1), some (.int (nI (lo + k)))] [] s3 post := by
    intro hoth
    refine vloop _ ?_ ?_
    · intro s3 tr hs3 _ _
      rcases htc with rfl | rfl | rfl
      all_goals refine VM.go [190] ⟨fun q => absurd q (by decide), fun _ => ⟨fun q => absurd q (nI_ge hl6 (by decide)), fun _ => ⟨fun _ => fin190 s3 _ _ _ hs3 rfl, fun q => absurd ?_ q⟩⟩⟩
      all_goals exact nI_lt (by omega) (by omega)
    · intro k hk ih s3 tr hs3 htr hB3
      obtain ⟨w, hw⟩ : ∃ w, w = vts (decide (sv ≤ 2)) F lo k := ⟨_, rfl⟩
      have hwl := vts_le (small := decide (sv ≤ 2)) (F := F) (lo := lo) (k := k) (fun q => by have := hsm (by simpa using q); omega)
      have es : vts (decide (sv ≤ 2)) F lo (k + 1) = if F (lo + k) then (if decide (sv ≤ 2) then w.1 ||| 2 ^ (lo + k) else w.1, w.2.1 + 1, if w.2.1 = 0 then lo + k + 1 else w.2.2) else w := by rw [hw]; rfl
      rw [← hw] at hwl ⊢
      rw [es] at ih
      obtain ⟨v, hv⟩ : ∃ v, v = lo + k := ⟨_, rfl⟩
      rw [← hv] at ih ⊢
      have hv1 : tc = 41 → v < 6 := fun e => by have := hK1 e; omega
      have hv2 : tc = 42 → v ≤ 9 := fun e => by have := hK2 e; omega
      have hB4 := hB3.tr (v := v) htc hl6 hv1 hv2 (by omega)
      rw [htr] at hB4
      have hs4 : vag vBi σ (vput s3 tc l (nI v)) := hs3.put (by rcases htc with rfl | rfl | rfl <;> rfl)
      have cont : ∀ (s5 : vM) (w' : Nat × Nat × Nat), vag vBi σ s5 → vBR (vcomp (a.2.2 (a.1 1 1))) (a.1 1 0) (a.1 1 2) (20 + 3 * a.1 1 1) (vtrT tc l v (vtr0 a)).1 (vtrT tc l v (vtr0 a)).2.1 (vtrT tc l v (vtr0 a)).2.2 (vse a p) s5 → w' = (if F v then (if decide (sv ≤ 2) then w.1 ||| 2 ^ v else w.1, w.2.1 + 1, if w.2.1 = 0 then v + 1 else w.2.2) else w) → VM G (d + 4) iX6_traitsThatFit 184 [some (.ref 0), some (.ref ro), some (.int (nI l)), some (.int (nI sv)), some (.ref tc), some (.int (nI lo)), some (.int (nI (lo + K - 1))), some (.int (nI w'.1)), some (.int (nI w'.2.1)), some (.int (nI w'.2.2 - 1)), some (.int 1), some (.int (nI v))] [] s5 post := by
        intro s5 w' hs5 hB5 hw'
        refine VM.go [108] ?_
        show VM G (d + 4) iX6_traitsThatFit 108 _ _ _ _
        have ih' := ih s5 (vtrT tc l v (vtr0 a)) hs5 (fun v => vtrT_2) hB5
        rw [show lo + (k + 1) = v + 1 by omega] at ih'
        rw [nI_1, hw']
        exact ih'
      have next : VM G (d + 4) iX6_traitsThatFit 133 [some (.ref 0), some (.ref ro), some (.int (nI l)), some (.int (nI sv)), some (.ref tc), some (.int (nI lo)), some (.int (nI (lo + K - 1))), some (.int (nI w.1)), some (.int (nI w.2.1)), some (.int (nI w.2.2 - 1)), some (.int 1), some (.int (nI v))] [] (vput s3 tc l (nI v)) post := by
        refine VM.go [141] ⟨_, VM.at (vb_owedR hl6 hB4 (fun s5 hs5 => ?_)), fun _ _ hh => hh⟩
        have hs5' := hs4.tr (hs5.up vSc_Bi)
        have hB5 := hB4.ag hs5
        have e1 : s5.1 ro 1 = nI (a.1 1 2) := (hs5'.get (vSc_row (i := 0) hr (by decide)).2).trans hsz
        have e2 : s5.1 (ro + 1) l = it l := (hs5'.get (vSc_row hr (by decide)).2).trans (hit l hl)
        have fin : VM G (d + 4) iX6_traitsThatFit 146 [some (.ref 0), some (.ref ro), some (.int (nI l)), some (.int (nI sv)), some (.ref tc), some (.int (nI lo)), some (.int (nI (lo + K - 1))), some (.int (nI w.1)), some (.int (nI w.2.1)), some (.int (nI w.2.2 - 1)), some (.int 1), some (.int (nI v))] [.int (it l), .int (nI (vowT a (a.1 1 1) (a.1 1 0) p (vtrT tc l v (vtr0 a)) l))] s5 post := by
          refine VM.go [184, 149] ⟨fun q => ?_, fun q => ?_⟩
          · exact cont s5 w hs5' hB5 (if_neg (fun z => q ((hFi v).mp z).2)).symm
          · have hFv : F v = true := (hFi v).mpr ⟨hoth, q⟩
            rw [if_pos hFv] at cont
            show VM G (d + 4) iX6_traitsThatFit 149 _ _ _ _
            have c3 : ∀ (y : Nat), y = (if decide (sv ≤ 2) then w.1 ||| 2 ^ v else w.1) → VM G (d + 4) iX6_traitsThatFit 167 [some (.ref 0), some (.ref ro), some (.int (nI l)), some (.int (nI sv)), some (.ref tc), some (.int (nI lo)), some (.int (nI (lo + K - 1))), some (.int (nI y)), some (.int (nI w.2.1)), some (.int (nI w.2.2 - 1)), some (.int 1), some (.int (nI v))] [] s5 post := by
              intro y hy
              have c4 := cont s5 _ hs5' hB5 rfl
              dsimp only at c4
              rw [← hy] at c4
              refine VM.go [184] ⟨fun q2 => ?_, fun q2 => ?_⟩
              · rw [if_neg (fun e => q2 (by rw [e]; rfl)), ← nI_1] at c4
                exact c4
              · have e0 : w.2.1 = 0 := (nI_eq (by omega) (by decide)).mp (show nI w.2.1 = nI 0 from q2)
                rw [if_pos e0, nI_pred, ← nI_1] at c4
                exact c4
            refine VM.go [163, 167] ⟨fun q2 => ?_, fun q2 => ?_⟩
            · have q' : ¬ nI sv ≤ nI 2 := Int32.not_le.mpr q2
              rw [nIle (by omega) (by decide)] at q'
              refine VM.go [167] ?_
              show VM G (d + 4) iX6_traitsThatFit 167 _ _ _ _
              rw [show nI w.1 ||| 0 = nI w.1 from by rw [show (0 : Int32) = nI 0 from rfl, nI_or (by omega) (by decide), Nat.or_zero]]
              exact c3 _ (by rw [decide_eq_false (by omega)]; rfl)
            · have q' : nI sv ≤ nI 2 := Int32.not_lt.mp q2
              rw [nIle (by omega) (by decide)] at q'
              have hv10 : v ≤ 9 := by have := hsm q'; omega
              show VM G (d + 4) iX6_traitsThatFit 167 _ _ _ _
              rw [nI_shl1 v (by omega), nI_or (by omega) (Nat.lt_of_lt_of_le (Nat.pow_lt_pow_right (m := v) (n := 10) (by decide) (by omega)) (by decide))]
              exact c3 _ (by rw [decide_eq_true q']; rfl)
        rw [← e2] at fin
        refine VM.at ?_
        rcases hr with rfl | rfl | rfl | rfl
        all_goals
          refine VM.go [146] ⟨_, VM.at (vb_item (by decide) e1 hl (by omega) ?_), fun _ _ hh => hh⟩
          exact VM.at fin
      rcases htc with rfl | rfl | rfl
      all_goals exact VM.go [133] ⟨fun q => absurd q (by decide), fun _ => ⟨fun q => absurd q (nI_ge hl6 (by decide)), fun _ => ⟨fun q => absurd q (Int32.not_lt.mpr (nI_le (show v ≤ lo + K - 1 by omega) (by omega))), fun _ => ⟨nofun, l, rfl, hl6, next⟩⟩⟩⟩
  have fin93 : ∀ s3, vag vSc s2 s3 → VM G (d + 4) iX6_traitsThatFit 93 [some (.ref 0), some (.ref ro), some (.int (nI l)), some (.int (nI sv)), some (.ref tc), some (.int (nI lo)), some (.int (nI (lo + K - 1))), some (.int 0), some (.int 0), some (.int (-1)), none, none] [.int (vfo (vowA a (a.1 1 0) (a.1 1 1) p) it l (a.1 1 2) 0)] s3 post := by
    intro s3 hs3
    have hs3' := hs2.tr (hs3.up vSc_Bi)
    have hB3 := hB.ag hs3
    refine VM.go [108, 190] ⟨fun q => ?_, fun q => ?_⟩
    · have e : vts (decide (sv ≤ 2)) F lo K = (0, 0, 0) := vts_none (fun j _ z => q ((hFi _).mp z).1)
      refine VM.go [190] ⟨fun _ => ?_, fun q => absurd rfl q⟩
      have := fin190 s3 (some (.int 0)) (some (.int (nI lo))) (0, 0, 0) hs3' e.symm
      exact this
    · have := key q 0 (Nat.zero_le _) s3 (vtr0 a) hs3' (fun _ => rfl) hB3
      exact this
  have hE : s2.1 ro 1 = nI (a.1 1 2) := (hs2.get (vSc_row (i := 0) hr (by decide)).2).trans hsz
  have hI : ∀ k, k < a.1 1 2 → s2.1 (ro + 1) k = it k := fun k hk => (hs2.get (vSc_row hr (by decide)).2).trans (hit k hk)
  have hbut : ∀ l', l' < 6 → (nI l' = nI l ↔ l' = l) := fun l' hl' => nI_eq (by omega) (by omega)
  rcases hr with rfl | rfl | rfl | rfl
  all_goals exact VM.go [93] ⟨_, VM.at (vb_firstO (but := l) (by decide) hB hE hI hbut (fun s5 hs5 => by exact VM.at (fin93 s5 hs5))), fun _ _ hh => hh⟩
theorem vb_traits {s p l sv : Nat} (hs : s < 4) (hsv : 1 ≤ sv ∧ sv ≤ 4) (hl : l < a.1 1 2) (hp : p < 5) (hC : vRC a σ) (hW : vWF a) {s2 : vM} (hs2 : vag vBi σ s2) (hB : vBA a (a.1 1 1) p (a.1 1 0) s2) (hsz : a.1 (50 + 2 * s) 1 = a.1 1 2) (h : ∀ σ', vag vBi σ σ' → post (some (.int (if sv ≤ 2 then nI (vtsO a s p l sv).1 else if sv = 3 then nI (vtsO a s p l sv).2.1 else nI (vtsO a s p l sv).2.2 - 1))) σ') : VM G (d + 4) iX6_traitsThatFit 0 [some (.ref 0), some (.ref (50 + 2 * s)), some (.int (nI l)), some (.int (nI sv)), none, none, none, none, none, none, none, none] [] s2 post := by
  have hr : 50 + 2 * s = 50 ∨ 50 + 2 * s = 52 ∨ 50 + 2 * s = 54 ∨ 50 + 2 * s = 56 := by omega
  have e1 : σ.1 (50 + 2 * s) 1 = nI (a.1 1 2) := by
    rw [← hsz]
    exact hC.num _ 1 (by rcases (show s = 0 ∨ s = 1 ∨ s = 2 ∨ s = 3 by omega) with rfl | rfl | rfl | rfl <;> rfl)
  have e2 : ∀ k, k < a.1 1 2 → σ.1 (50 + 2 * s + 1) k = a.2.1 s k := fun k hk => by
    rw [show 50 + 2 * s + 1 = 51 + 2 * s by omega]
    exact hC.2.2.1 s k hs (by rw [hsz]; exact hk)
  unfold vtsO at h
  rcases (show sv = 1 ∨ sv = 2 ∨ sv = 3 ∨ sv = 4 by omega) with rfl | rfl | rfl | rfl
  · refine VM.go [84] ⟨fun q => absurd rfl q, fun _ => ⟨fun q => absurd q (by decide), fun _ => ⟨fun q => absurd rfl q, fun _ => ?_⟩⟩⟩
    exact vb_traits84 (lo := 0) (K := 6) (tc := 41) (sv := 1) hsv (Or.inl rfl) (by decide) (by decide) (by decide) (by decide) (by decide) hr hl hp hC hW hs2 hB e1 e2 rfl h
  · refine VM.go [84] ⟨fun _ => ⟨fun q => absurd rfl q, fun _ => ⟨fun q => absurd q (by decide), fun _ => ⟨fun _ => ⟨fun q => absurd rfl q, fun _ => ?_⟩, fun q => absurd q (by decide)⟩⟩⟩, fun q => absurd q (by decide)⟩
    exact vb_traits84 (lo := 0) (K := 10) (tc := 42) (sv := 2) hsv (Or.inr (Or.inl rfl)) (by decide) (by decide) (by decide) (by decide) (by decide) hr hl hp hC hW hs2 hB e1 e2 rfl h
  · refine VM.go [84] ⟨fun _ => ⟨fun _ => ⟨fun _ => ⟨fun _ => ⟨fun _ => ?_, fun q => absurd q (by decide)⟩, fun q => absurd q (by decide)⟩, fun q => absurd (by decide) q⟩, fun q => absurd q (by decide)⟩, fun q => absurd q (by decide)⟩
    exact vb_traits84 (lo := 1) (K := 999) (tc := 43) (sv := 3) hsv (Or.inr (Or.inr rfl)) (by decide) (by decide) (by decide) (by decide) (by decide) hr hl hp hC hW hs2 hB e1 e2 rfl h
  · refine VM.go [84] ⟨fun _ => ⟨fun _ => ⟨fun _ => ⟨fun _ => ⟨fun _ => ?_, fun q => absurd q (by decide)⟩, fun q => absurd q (by decide)⟩, fun q => absurd (by decide) q⟩, fun q => absurd q (by decide)⟩, fun q => absurd q (by decide)⟩
    exact vb_traits84 (lo := 1) (K := 999) (tc := 43) (sv := 4) hsv (Or.inr (Or.inr rfl)) (by decide) (by decide) (by decide) (by decide) (by decide) hr hl hp hC hW hs2 hB e1 e2 rfl h
/-- tells, all being in range -/
theorem vb_tells98 {s p w : Nat} {y : Option Value} (hs : s < 4) (hp : p < 5) (hw : w < 3 ∨ (10 ≤ w ∧ w < 50 ∧ w % 10 < a.1 1 2)) (hC : vRC a σ) (hW : vWF a) (hsz : a.1 (50 + 2 * s) 1 = a.1 1 2) (h : ∀ σ', vag vBi σ σ' → post (some (.int (if w = 0 then vfo (vowA a (a.1 1 0) (a.1 1 1) p) (a.2.1 s) 7 (a.1 1 2) 0
    else if w = 1 then nI (vowb (fun t => vfit (vowA a (a.1 1 0) t p) (a.2.1 s) (a.1 1 2)) (a.1 0 4))
    else if w = 2 then nI (vowb (fun t => vfit (vowA a (if t = 12 then 0 else 2 ^ t) (a.1 1 1) p) (a.2.1 s) (a.1 1 2)) 13)
    else if w / 10 ≤ 2 then nI (vtsO a s p (w % 10) (w / 10)).1 else if w / 10 = 3 then nI (vtsO a s p (w % 10) (w / 10)).2.1 else nI (vtsO a s p (w % 10) (w / 10)).2.2 - 1))) σ') : VM G (d + 5) iX6_tells 98 [some (.ref 0), some (.int (nI s)), some (.int (nI p)), some (.int (nI w)), y, some (.ref (50 + 2 * s))] [] σ post := by
  have hr : 50 + 2 * s = 50 ∨ 50 + 2 * s = 52 ∨ 50 + 2 * s = 54 ∨ 50 + 2 * s = 56 := by omega
  have e1 : σ.1 (50 + 2 * s) 1 = nI (a.1 1 2) := by
    rw [← hsz]
    exact hC.num _ 1 (by rcases (show s = 0 ∨ s = 1 ∨ s = 2 ∨ s = 3 by omega) with rfl | rfl | rfl | rfl <;> rfl)
  have e2 : ∀ k, k < a.1 1 2 → σ.1 (50 + 2 * s + 1) k = a.2.1 s k := fun k hk => by
    rw [show 50 + 2 * s + 1 = 51 + 2 * s by omega]
    exact hC.2.2.1 s k hs (by rw [hsz]; exact hk)
  refine VM.go [168] ⟨_, VM.at (vb_openBill hp hC hW (fun s2 hs2 hB => ?_)), fun _ _ hh => hh⟩
  have h7 : ∀ l, l < 6 → (nI l = (-1 : Int32) ↔ l = 7) := fun l hl => ⟨fun e => absurd (show nI l < 0 by rw [e]; decide) (nI_pos (by omega)), fun e => absurd e (by omega)⟩
  have e1' : s2.1 (50 + 2 * s) 1 = nI (a.1 1 2) := (hs2.get (vSc_row (i := 0) hr (by decide)).2).trans e1
  have e2' : ∀ k, k < a.1 1 2 → s2.1 (50 + 2 * s + 1) k = a.2.1 s k := fun k hk => (hs2.get (vSc_row hr (by decide)).2).trans (e2 k hk)
  rcases hw with hw | ⟨hw1, hw2, hw3⟩
  · rcases (show w = 0 ∨ w = 1 ∨ w = 2 by omega) with rfl | rfl | rfl
    · rw [if_pos rfl] at h
      have g : ∀ σ', vag vSc s2 σ' → post (some (.int (vfo (vowA a (a.1 1 0) (a.1 1 1) p) (a.2.1 s) 7 (a.1 1 2) 0))) σ' := fun s3 hs3 => h s3 (hs2.tr (hs3.up vSc_Bi))
      refine vsw_go 132 (by decide) ?_
      rcases (show s = 0 ∨ s = 1 ∨ s = 2 ∨ s = 3 by omega) with rfl | rfl | rfl | rfl
      all_goals exact ⟨_, VM.at (vb_firstO (but := 7) (by decide) hB e1' e2' h7 (by exact g)), fun _ _ hh => hh⟩
    · rw [if_neg (by decide), if_pos rfl] at h
      refine vsw_go 143 (by decide) ?_
      exact ⟨_, VM.at (vb_textsFit hr hp hC hW hs2 hB e1 e2 (by exact h)), fun _ _ hh => hh⟩
    · rw [if_neg (by decide), if_neg (by decide), if_pos rfl] at h
      refine vsw_go 150 (by decide) ?_
      exact ⟨_, VM.at (vb_cloudsFit hr hp hC hW hs2 hB e1 e2 (by exact h)), fun _ _ hh => hh⟩
  · rw [if_neg (by omega), if_neg (by omega), if_neg (by omega)] at h
    refine vsw_go 157 (vsw_outN (m := 3) (by decide) (vix_no (by decide) (fun j hj e => by rw [nI_eq (by omega) (by omega)] at e; omega)) (by decide)) ⟨by decide, by decide, ?_⟩
    show VM G (d + 5) iX6_tells 168 _ _ _ _
    rw [show nI w - nI w / 10 * 10 = nI (w % 10) from pk_rem (d := 10) (by omega) (by decide) (by decide), show nI w / 10 = nI (w / 10) from pk_div (d := 10) (by omega) (by decide) (by decide)]
    exact VM.go [] ⟨_, VM.at (vb_traits hs (by omega) hw3 hp hC hW hs2 hB hsz (by exact h)), fun _ _ hh => hh⟩
theorem vc_tells {s0 p0 w0 : Int32} (hC : vRC a σ) (hW : vWF a) (h : ∀ σ', vag vBi σ σ' → post (some (.int (sTells a s0 p0 w0))) σ') : VM G (d + 5) iX6_tells 0 [some (.ref 0), some (.int s0), some (.int p0), some (.int w0), none, none] [] σ post := by
  have bad : sTells a s0 p0 w0 = -2 → post (some (.int (-2))) σ := fun e => by
    have := h σ vag.rf
    rw [e] at this
    exact this
  have hn6 := hW.1.2.2
  have badS : vix s0 4 = none → sTells a s0 p0 w0 = -2 := fun e => by unfold sTells; rw [e]
  have badP : vix p0 5 = none → sTells a s0 p0 w0 = -2 := fun e => by unfold sTells; rw [e]; cases vix s0 4 <;> rfl
  have badW : vix w0 50 = none → sTells a s0 p0 w0 = -2 := fun e => by unfold sTells; rw [e]; cases vix s0 4 <;> cases vix p0 5 <;> rfl
  have rest : ∀ (s p w : Nat) (q : Int32), s < 4 → p < 5 → s0 = nI s → p0 = nI p → w0 = nI w → (w < 3 ∨ (10 ≤ w ∧ w < 50 ∧ w % 10 < a.1 1 2)) → VM G (d + 5) iX6_tells 60 [some (.ref 0), some (.int s0), some (.int p0), some (.int w0), some (.int q), none] [] σ post := by
    rintro s p w q hs hp rfl rfl rfl hw
    unfold sTells at h
    rw [vix_nI hs (by decide), vix_nI hp (by decide), vix_nI (show w < 50 by omega) (by decide)] at h
    dsimp only at h
    rw [if_neg (by omega), if_neg (by omega)] at h
    have hso := hC.2.1 s hs
    have hsz : σ.1 (50 + 2 * s) 1 = nI (a.1 (50 + 2 * s) 1) := hC.num _ 1 (by rcases (show s = 0 ∨ s = 1 ∨ s = 2 ∨ s = 3 by omega) with rfl | rfl | rfl | rfl <;> rfl)
    obtain ⟨r1, r2, r3⟩ := hW.2.2.2.2.2.2.2.1 s hs
    have en := hC.num 1 2 rfl
    have g68 : VM G (d + 5) iX6_tells 98 [some (.ref 0), some (.int (nI s)), some (.int (nI p)), some (.int (nI w)), some (.int q), some (.ref (50 + 2 * s))] [] σ post ∨ (a.1 (50 + 2 * s) 0 = 0 ∨ ¬ a.1 (50 + 2 * s) 1 = a.1 1 2) := by
      by_cases z1 : a.1 (50 + 2 * s) 0 = 0
      · exact Or.inr (Or.inl z1)
      · by_cases z2 : a.1 (50 + 2 * s) 1 = a.1 1 2
        · rw [if_neg z1, if_neg (fun z => z z2)] at h
          exact Or.inl (vb_tells98 hs hp hw hC hW z2 h)
        · exact Or.inr (Or.inr z2)
    have nothing : a.1 (50 + 2 * s) 0 = 0 → post (some (.int (-11))) σ := fun z => by
      rw [if_pos z] at h
      exact h σ vag.rf
    have otherN : ¬ a.1 (50 + 2 * s) 0 = 0 → ¬ a.1 (50 + 2 * s) 1 = a.1 1 2 → post (some (.int (-2))) σ := fun z z2 => by
      rw [if_neg z, if_pos z2] at h
      exact h σ vag.rf
    have f1 : σ.1 (50 + 2 * s) 0 = -1 → a.1 (50 + 2 * s) 0 = 0 := fun e => by
      rw [hso, nI_m1e (by omega)] at e
      exact e
    have f2 : ¬ σ.1 (50 + 2 * s) 0 = -1 → ¬ a.1 (50 + 2 * s) 0 = 0 := fun e z => by
      rw [hso, nI_m1e (by omega)] at e
      exact e z
    have f3 : σ.1 (50 + 2 * s) 1 = σ.1 1 2 → a.1 (50 + 2 * s) 1 = a.1 1 2 := fun e => by
      rw [hsz, en, nI_eq (by omega) (by omega)] at e
      exact e
    have f4 : ¬ σ.1 (50 + 2 * s) 1 = σ.1 1 2 → ¬ a.1 (50 + 2 * s) 1 = a.1 1 2 := fun e z => by
      rw [hsz, en, nI_eq (by omega) (by omega)] at e
      exact e z
    rcases (show s = 0 ∨ s = 1 ∨ s = 2 ∨ s = 3 by omega) with rfl | rfl | rfl | rfl
    · exact VM.go [98] ⟨0, rfl, by decide, fun z => ⟨fun z2 => g68.elim id (fun g => absurd g (fun g => g.elim (f2 z) (fun g => g (f3 z2)))), fun z2 => otherN (f2 z) (f4 z2)⟩, fun z => nothing (f1 z)⟩
    · exact VM.go [98] ⟨1, rfl, by decide, fun z => ⟨fun z2 => g68.elim id (fun g => absurd g (fun g => g.elim (f2 z) (fun g => g (f3 z2)))), fun z2 => otherN (f2 z) (f4 z2)⟩, fun z => nothing (f1 z)⟩
    · exact VM.go [98] ⟨2, rfl, by decide, fun z => ⟨fun z2 => g68.elim id (fun g => absurd g (fun g => g.elim (f2 z) (fun g => g (f3 z2)))), fun z2 => otherN (f2 z) (f4 z2)⟩, fun z => nothing (f1 z)⟩
    · exact VM.go [98] ⟨3, rfl, by decide, fun z => ⟨fun z2 => g68.elim id (fun g => absurd g (fun g => g.elim (f2 z) (fun g => g (f3 z2)))), fun z2 => otherN (f2 z) (f4 z2)⟩, fun z => nothing (f1 z)⟩
  refine VM.go [] ⟨_, VM.at (vb_between (fun b1 b2 => ?_) (fun hno => ?_)), fun _ _ hh => hh⟩
  · obtain ⟨w, hw, e3⟩ := vnat (m := 49) (by decide) (by
      rw [Int32.le_iff_toInt_le] at b1 ⊢
      rw [show (10 : Int32).toInt = 10 from by decide] at b1
      rw [show (0 : Int32).toInt = 0 from by decide]
      omega) b2
    have hw1 : 10 ≤ w := by
      rw [e3, show (10 : Int32) = nI 10 from rfl, nIle (by decide) (by omega)] at b1
      exact b1
    refine VM.at (VM.go [60, 41] ⟨_, VM.at (vb_isSheet (fun s hs e1 => ?_) (fun hno => ?_)), fun _ _ hh => hh⟩)
    · refine ⟨fun c => absurd c (by decide), fun _ => ⟨_, VM.at (vb_isLooker (fun p hp e2 => ?_) (fun hno => ?_)), fun _ _ hh => hh⟩⟩
      · refine ⟨fun c => absurd c (by decide), fun _ => ⟨fun _ => ?_, fun c => absurd c (by decide)⟩⟩
        refine VM.go [60, 51] ⟨fun c => absurd c (by decide), fun _ => ⟨by decide, ?_⟩⟩
        show VM G (d + 5) iX6_tells 51 _ _ _ _
        rw [e3, show nI w - nI w / 10 * 10 = nI (w % 10) from pk_rem (d := 10) (by omega) (by decide) (by decide)]
        refine VM.go [60] ⟨_, VM.at (vb_isLight hC hW (fun l hl e4 => ?_) (fun hno => ?_)), fun _ _ hh => hh⟩
        · rw [nI_eq (by omega) (by omega)] at e4
          have g := rest s p w 1 hs hp e1 e2 e3 (Or.inr ⟨hw1, by omega, by omega⟩)
          rw [e3] at g
          exact ⟨fun _ => g, fun c => absurd c (by decide)⟩
        · refine ⟨fun c => absurd rfl c, fun _ => bad ?_⟩
          unfold sTells
          rw [e1, e2, e3, vix_nI hs (by decide), vix_nI hp (by decide), vix_nI (show w < 50 by omega) (by decide)]
          dsimp only
          rw [if_neg (by omega), if_pos ⟨hw1, fun z => hno _ z rfl⟩]
      · exact ⟨fun _ => bad (badP (vix_no (by decide) hno)), fun c => absurd rfl c⟩
    · exact ⟨fun _ => bad (badS (vix_no (by decide) hno)), fun c => absurd rfl c⟩
  · refine VM.at (VM.go [60, 41] ⟨_, VM.at (vb_isSheet (fun s hs e1 => ?_) (fun hno2 => ?_)), fun _ _ hh => hh⟩)
    · refine ⟨fun c => absurd c (by decide), fun _ => ⟨_, VM.at (vb_isLooker (fun p hp e2 => ?_) (fun hno2 => ?_)), fun _ _ hh => hh⟩⟩
      · refine ⟨fun c => absurd c (by decide), fun _ => ⟨fun c => absurd rfl c, fun _ => ⟨_, VM.at (vb_between (fun b1 b2 => ?_) (fun hno3 => ?_)), fun _ _ hh => hh⟩⟩⟩
        · obtain ⟨w, hw, e3⟩ := vnat (m := 2) (by decide) b1 b2
          refine ⟨fun _ => VM.go [60] ⟨fun _ => rest s p w 0 hs hp e1 e2 e3 (Or.inl (by omega)), fun c => absurd rfl c⟩, fun c => absurd c (by decide)⟩
        · refine ⟨fun c => absurd rfl c, fun _ => bad ?_⟩
          cases hv : vix w0 50 with
          | none => exact badW hv
          | some w =>
            obtain ⟨hw, e3⟩ := vix_some (by decide) hv
            unfold sTells
            rw [hv, e1, e2, vix_nI hs (by decide), vix_nI hp (by decide)]
            dsimp only
            refine if_pos ⟨?_, ?_⟩
            · refine Nat.le_of_not_lt (fun z => hno3 ⟨?_, ?_⟩)
              · rw [e3]; exact Int32.not_lt.mp (nI_pos (by omega))
              · rw [e3]; exact nI_le (show w ≤ 2 by omega) (by decide)
            · refine Nat.lt_of_not_le (fun z => hno ⟨?_, ?_⟩)
              · rw [e3]; exact nI_le (show 10 ≤ w from z) (by omega)
              · rw [e3]; exact nI_le (show w ≤ 49 by omega) (by decide)
      · exact ⟨fun _ => bad (badP (vix_no (by decide) hno2)), fun c => absurd rfl c⟩
    · exact ⟨fun _ => bad (badS (vix_no (by decide) hno2)), fun c => absurd rfl c⟩
end TR
end
section
/-! ===== sheets ===== -/
def vbec (a : vα) (s so n : Nat) : vα := (fun c k => if c = 50 + 2 * s ∧ k = 0 then so else if c = 50 + 2 * s ∧ k = 1 then n else a.1 c k, fun s' k => if s' = s then 0 else a.2.1 s' k, a.2.2)
def vitm (a : vα) (s i : Nat) (v : Int32) : vα := (a.1, fun s' k => if s' = s ∧ k = i then v else a.2.1 s' k, a.2.2)
def vcnv (so : Nat) (v : Int32) : Int32 := if so = 1 then v.toInt8.toInt32 else if so = 2 then v.toInt16.toInt32 else v
def sSheet (a : vα) (sheet sort n : Int32) : vR2 := match vix sheet 4 with
  | none => (-2, a)
  | some s => if sort = -1 then (1, vbec a s 0 0) else match vix sort 3 with
    | none => (-2, a)
    | some so => if 40 < n then (-2, a) else match vix n 41 with
      | none => (-14, a)
      | some n => (1, vbec a s (so + 1) n)
def sCell (a : vα) (sheet i v : Int32) : vR2 := match vix sheet 4 with
  | none => (-2, a)
  | some s => if a.1 (50 + 2 * s) 0 = 0 then (-11, a) else match vix i (a.1 (50 + 2 * s) 1) with
    | none => (-12, a)
    | some i => (1, vitm a s i (vcnv (a.1 (50 + 2 * s) 0) v))
def vflm (a : vα) (s p : Nat) : Nat → vα
  | 0 => vbec a s 3 (a.1 1 2)
  | i + 1 => vitm (vflm a s p i) s i (nI (vowA a (a.1 1 0) (a.1 1 1) p i))
def sFilm (a : vα) (sheet looker : Int32) : vR2 := match vix sheet 4, vix looker 5 with
  | some s, some p => (nI (a.1 1 2), vflm a s p (a.1 1 2))
  | _, _ => (-2, a)
def vhas (sz : Nat) (i n : Int32) : Option (Nat × Nat) := match vix i (sz + 1), vix n (sz + 1) with
  | some i, some n => if i + n ≤ sz then some (i, n) else none
  | _, _ => none
def vcpA (a : vα) (s i o j n : Nat) : vα := (a.1, fun s' k => if s' = o ∧ j ≤ k ∧ k < j + n then a.2.1 s (i + (k - j)) else a.2.1 s' k, a.2.2)
def sCopy (a : vα) (sheet i other j n : Int32) : vR2 := match vix sheet 4, vix other 4 with
  | some s, some o => if a.1 (50 + 2 * s) 0 = 0 ∨ a.1 (50 + 2 * o) 0 = 0 then (-11, a) else if ¬ a.1 (50 + 2 * s) 0 = a.1 (50 + 2 * o) 0 then (-13, a) else match vhas (a.1 (50 + 2 * s) 1) i n, vhas (a.1 (50 + 2 * o) 1) j n with
    | some (i, m), some (j, _) => (nI m, vcpA a s i o j m)
    | _, _ => (-12, a)
  | _, _ => (-2, a)
/-- a row's cells -/
def vRw (ro c _k : Nat) : Bool := Nat.beq c ro || Nat.beq c (ro + 1)
theorem vRw_no {ro c k : Nat} (h1 : ¬ c = ro) (h2 : ¬ c = ro + 1) : vRw ro c k = false := by
  cases hb : vRw ro c k with
  | false => rfl
  | true => exfalso; simp only [vRw, Bool.or_eq_true, vbq] at hb; omega
theorem vRw_Kl {ro : Nat} (hr : ro = 50 ∨ ro = 52 ∨ ro = 54 ∨ ro = 56) (c k : Nat) (h : vKl c k = false) : vRw ro c k = false := by
  refine vRw_no (fun e => ?_) (fun e => ?_)
  · have : vKl c k = true := by unfold vKl; rw [Nat.ble_eq]; omega
    rw [this] at h; cases h
  · have : vKl c k = true := by unfold vKl; rw [Nat.ble_eq]; omega
    rw [this] at h; cases h
theorem vRC.bec {a : vα} {σ σ' : vM} {s so n : Nat} (hs : s < 4) (hC : vRC a σ) (h : vag (vRw (50 + 2 * s)) σ σ') (h0 : σ'.1 (50 + 2 * s) 0 = nI so - 1) (h1 : σ'.1 (50 + 2 * s) 1 = nI n) (h2 : ∀ k, k < 40 → σ'.1 (51 + 2 * s) k = 0) (hn : n ≤ 40) (hT : a.1 0 4 ≤ 6) : vRC (vbec a s so n) σ' := by
  obtain ⟨c1, c2, c3, c4⟩ := hC
  have he : ∀ c k, ¬ c = 50 + 2 * s → (vbec a s so n).1 c k = a.1 c k := fun c k e => by
    unfold vbec
    dsimp only
    rw [if_neg (fun q => e q.1), if_neg (fun q => e q.1)]
  have e1 : (vbec a s so n).1 (50 + 2 * s) 1 = n := by
    unfold vbec
    dsimp only
    rw [if_neg (fun q => absurd q.2 (by decide)), if_pos ⟨rfl, rfl⟩]
  have e0 : (vbec a s so n).1 (50 + 2 * s) 0 = so := by
    unfold vbec
    exact if_pos ⟨rfl, rfl⟩
  refine ⟨fun c k hk => ?_, fun s' hs' => ?_, fun s' k hs' hk => ?_, fun t ht => ?_⟩
  · by_cases e : c = 50 + 2 * s
    · have hk1 : k = 1 := by
        subst e
        simp only [vps, Bool.or_eq_true, Bool.and_eq_true, Nat.ble_eq, vbq] at hk
        omega
      rw [e, hk1, h1, e1]
    · have hne : ¬ c = 50 + 2 * s + 1 := fun e2 => by
        subst e2
        simp only [vps, Bool.or_eq_true, Bool.and_eq_true, Nat.ble_eq, vbq] at hk
        omega
      rw [he c k e, h.get (vRw_no e hne)]
      exact c1 c k hk
  · by_cases e : s' = s
    · rw [e, h0, e0]
    · rw [he _ _ (by omega), h.get (vRw_no (by omega) (by omega))]
      exact c2 s' hs'
  · by_cases e : s' = s
    · rw [e] at hk ⊢
      rw [e1] at hk
      rw [h2 k (by omega)]
      show (0 : Int32) = if s = s then 0 else a.2.1 s k
      rw [if_pos rfl]
    · rw [he _ _ (by omega)] at hk
      rw [h.get (vRw_no (by omega) (by omega))]
      show _ = if s' = s then 0 else a.2.1 s' k
      rw [if_neg e]
      exact c3 s' k hs' hk
  · rw [he _ _ (by omega)] at ht
    obtain ⟨r1, r2⟩ := c4 t ht
    exact ⟨r1.ag (fun k => h.get (vRw_no (by omega) (by omega))) (fun k => h.get (vRw_no (by omega) (by omega))), by rw [h.get (vRw_no (by omega) (by omega))]; exact r2⟩
theorem vRC.itm {a : vα} {σ : vM} {s i : Nat} {v : Int32} (hs : s < 4) (hC : vRC a σ) (hT : a.1 0 4 ≤ 6) : vRC (vitm a s i v) (vput σ (51 + 2 * s) i v) := by
  obtain ⟨c1, c2, c3, c4⟩ := hC
  refine ⟨fun c k hk => ?_, fun s' hs' => ?_, fun s' k hs' hk => ?_, fun t ht => ?_⟩
  · rw [vput_ne (Or.inl (fun e => by
      subst e
      simp only [vps, Bool.or_eq_true, Bool.and_eq_true, Nat.ble_eq, vbq] at hk
      omega))]
    exact c1 c k hk
  · rw [vput_ne (Or.inl (by omega))]; exact c2 s' hs'
  · rw [vput_get]
    show _ = if s' = s ∧ k = i then v else a.2.1 s' k
    by_cases e : s' = s ∧ k = i
    · rw [if_pos ⟨by omega, e.2⟩, if_pos e]
    · rw [if_neg (fun q => e ⟨by omega, q.2⟩), if_neg e]; exact c3 s' k hs' hk
  · obtain ⟨r1, r2⟩ := c4 t ht
    have ht' : t < a.1 0 4 := ht
    exact ⟨r1.ag (fun k => vput_ne (Or.inl (by omega))) (fun k => vput_ne (Or.inl (by omega))), by rw [vput_ne (Or.inl (by omega))]; exact r2⟩
section SH
variable {G : vG} {d : Nat} {σ : vM} {post : vQ} {a : vα}
theorem vb_become {ro n : Nat} {so0 n0 : Int32} (hr : ro = 50 ∨ ro = 52 ∨ ro = 54 ∨ ro = 56) (hn : n ≤ 40) (hn0 : n0 = nI n) (h : ∀ σ', vag (vRw ro) σ σ' → σ'.1 ro 0 = so0 → σ'.1 ro 1 = nI n → (∀ k, k < 40 → σ'.1 (ro + 1) k = 0) → post none σ') : VM G (d + 1) iX3_become 0 [some (.ref ro), some (.int so0), some (.int n0), none] [] σ post := by
  subst hn0
  have key : ∀ i, i ≤ 40 → ∀ s2, vag (vRw ro) σ s2 → s2.1 ro 0 = so0 → s2.1 ro 1 = nI n → (∀ k, k < i → s2.1 (ro + 1) k = 0) → VM G (d + 1) iX3_become 21 [some (.ref ro), some (.int so0), some (.int (nI n)), some (.int (nI i))] [] s2 post := by
    refine vloop _ ?_ ?_
    · intro s2 hs2 h0 h1 h2
      exact VM.go [21] ⟨fun _ => h s2 hs2 h0 h1 h2, fun q => absurd (by decide) q⟩
    · intro i hi ih s2 hs2 h0 h1 h2
      have hs3 : vag (vRw ro) σ (vput s2 (ro + 1) i (nI 0)) := hs2.put (by unfold vRw; simp)
      have := ih (vput s2 (ro + 1) i (nI 0)) hs3 (by rw [vput_ne (Or.inl (by omega))]; exact h0) (by rw [vput_ne (Or.inl (by omega))]; exact h1) (fun k hk => by
        rw [vput_get]
        by_cases e : k = i
        · rw [if_pos ⟨rfl, e⟩]; decide
        · rw [if_neg (fun q => e q.2)]; exact h2 k (by omega))
      rw [← nI_1] at this
      rcases hr with rfl | rfl | rfl | rfl
      all_goals exact VM.go [21] ⟨fun q => absurd q (nI_ge hi (by decide)), fun _ => ⟨nofun, i, rfl, hi, this⟩⟩
  have hm : (if (if (40 : Int32) < nI n then (40 : Int32) else nI n) < 0 then (0 : Int32) else (if (40 : Int32) < nI n then (40 : Int32) else nI n)) = nI n := by
    rw [show (if (40 : Int32) < nI n then (40 : Int32) else nI n) = nI n from if_neg (by rw [show (40 : Int32) = nI 40 from rfl, nIlt (by decide) (by omega)]; omega), if_neg (nI_pos (by omega))]
  have g := key 0 (Nat.zero_le _) (vput (vput σ ro 0 so0) ro 1 (nI n)) ((vag.rf.put (by unfold vRw; simp)).put (by unfold vRw; simp)) (by rw [vput_ne (Or.inr (by decide)), vput_eq]) (by rw [vput_eq]) (fun k hk => absurd hk (Nat.not_lt_zero _))
  rw [← hm] at g
  rcases hr with rfl | rfl | rfl | rfl
  all_goals
    refine VM.go [19] ?_
    show VM G (d + 1) iX3_become 19 _ _ _ _
    rw [hm] at g ⊢
    exact VM.go [21] g
theorem vb_put {s i so sz : Nat} {v : Int32} (hs : s < 4) (h0 : σ.1 (50 + 2 * s) 0 = nI so - 1) (h1 : σ.1 (50 + 2 * s) 1 = nI sz) (hso : 1 ≤ so ∧ so ≤ 3) (hi : i < sz) (hz : sz ≤ 40) (h : post none (vput σ (51 + 2 * s) i (vcnv so v))) : VM G d iX3_put 0 [some (.ref (50 + 2 * s)), some (.int (nI i)), some (.int v)] [] σ post := by
  have h40 : i < 40 := by omega
  have e0 : nI so - 1 = 0 ↔ so = 1 := by
    rw [show so = (so - 1) + 1 by omega, nI_pred, show (0 : Int32) = nI 0 from rfl, nI_eq (by omega) (by decide)]; omega
  have e1 : nI so - 1 = 1 ↔ so = 2 := by
    rw [show so = (so - 1) + 1 by omega, nI_pred, show (1 : Int32) = nI 1 from rfl, nI_eq (by omega) (by decide)]; omega
  rw [← h0] at e0 e1
  unfold vcnv at h
  have p1 : σ.1 (50 + 2 * s) 0 = 0 → post none (vput σ (51 + 2 * s) i v.toInt8.toInt32) := fun q => by
    rw [if_pos (e0.mp q)] at h; exact h
  have p2 : ¬ σ.1 (50 + 2 * s) 0 = 0 → σ.1 (50 + 2 * s) 0 = 1 → post none (vput σ (51 + 2 * s) i v.toInt16.toInt32) := fun q q2 => by
    rw [if_neg (fun z => q (e0.mpr z)), if_pos (e1.mp q2)] at h; exact h
  have p3 : ¬ σ.1 (50 + 2 * s) 0 = 0 → ¬ σ.1 (50 + 2 * s) 0 = 1 → post none (vput σ (51 + 2 * s) i v) := fun q q2 => by
    rw [if_neg (fun z => q (e0.mpr z)), if_neg (fun z => q2 (e1.mpr z))] at h; exact h
  rcases (show s = 0 ∨ s = 1 ∨ s = 2 ∨ s = 3 by omega) with rfl | rfl | rfl | rfl
  all_goals exact VM.go [] ⟨fun q => absurd q (nI_pos (by omega)), fun _ => ⟨fun q => absurd q (by rw [h1]; exact nI_ge hi (by omega)), fun _ => ⟨fun _ => ⟨fun q => ⟨fun q2 => ⟨nofun, i, rfl, h40, p3 q q2⟩, fun q2 => ⟨nofun, i, rfl, h40, p2 q q2⟩⟩, fun q => ⟨nofun, i, rfl, h40, p1 q⟩⟩, fun q => absurd (nI_lt h40 (by decide)) q⟩⟩⟩
theorem vrow_of {s : Nat} (hs : s < 4) : 50 + 2 * s = 50 ∨ 50 + 2 * s = 52 ∨ 50 + 2 * s = 54 ∨ 50 + 2 * s = 56 := by omega
theorem vRC.sz {s : Nat} (hs : s < 4) (hC : vRC a σ) : σ.1 (50 + 2 * s) 1 = nI (a.1 (50 + 2 * s) 1) := hC.num _ 1 (by rcases (show s = 0 ∨ s = 1 ∨ s = 2 ∨ s = 3 by omega) with rfl | rfl | rfl | rfl <;> rfl)
theorem vc_sheet {s0 o0 n0 : Int32} (hC : vRC a σ) (hW : vWF a) (h : ∀ σ', vag vKl σ σ' → vRC (sSheet a s0 o0 n0).2 σ' → post (some (.int (sSheet a s0 o0 n0).1)) σ') : VM G (d + 2) iX6_sheet 0 [some (.ref 0), some (.int s0), some (.int o0), some (.int n0)] [] σ post := by
  have hT := hW.2.1.2
  have bad : ∀ v, sSheet a s0 o0 n0 = (v, a) → post (some (.int v)) σ := fun v e => by
    have := h σ vag.rf (by rw [e]; exact hC)
    rw [e] at this
    exact this
  refine VM.go [19] ⟨_, VM.at (vb_isSheet (fun s hs e1 => ?_) (fun hno => ?_)), fun _ _ hh => hh⟩
  · refine ⟨fun c => absurd c (by decide), fun _ => ⟨_, VM.at (vb_between (fun b1 b2 => ?_) (fun hno => ?_)), fun _ _ hh => hh⟩⟩
    · refine ⟨fun _ => ?_, fun c => absurd c (by decide)⟩
      subst e1
      have es : sSheet a (nI s) o0 n0 = if o0 = -1 then ((1 : Int32), vbec a s 0 0) else match vix o0 3 with
        | none => (-2, a)
        | some so => if 40 < n0 then (-2, a) else match vix n0 41 with
          | none => (-14, a)
          | some n => (1, vbec a s (so + 1) n) := by
        unfold sSheet; rw [vix_nI hs (by decide)]
      have hr := vrow_of hs
      refine VM.go [] ⟨fun c1 => ?_, fun c1 => ?_⟩
      · rw [if_neg c1] at es
        obtain ⟨so, hso, e2⟩ : ∃ so, so < 3 ∧ o0 = nI so := by
          have b1' : 0 ≤ o0 := by
            rw [Int32.le_iff_toInt_le] at b1 ⊢
            have : o0.toInt ≠ (-1 : Int32).toInt := fun e => c1 (i32 e)
            rw [show (-1 : Int32).toInt = -1 from by decide] at b1 this
            rw [show (0 : Int32).toInt = 0 from by decide]
            omega
          obtain ⟨so, h1, h2⟩ := vnat (m := 2) (by decide) b1' b2
          exact ⟨so, by omega, h2⟩
        rw [e2, vix_nI hso (by decide)] at es
        dsimp only at es
        rw [← e2] at es
        refine ⟨fun c2 => ⟨fun c3 => ?_, fun c3 => ?_⟩, fun c2 => ?_⟩
        · obtain ⟨n, hn, e3⟩ := vnat (m := 40) (by decide) c3 c2
          have c2' : ¬ (40 : Int32) < n0 := Int32.not_lt.mpr c2
          have ev : vix n0 41 = some n := by rw [e3]; exact vix_nI (by omega) (by decide)
          rw [if_neg c2', ev] at es
          dsimp only at es
          rw [es] at h
          have g : ∀ σ', vag (vRw (50 + 2 * s)) σ σ' → σ'.1 (50 + 2 * s) 0 = o0 → σ'.1 (50 + 2 * s) 1 = nI n → (∀ k, k < 40 → σ'.1 (50 + 2 * s + 1) k = 0) → post (some (.int 1)) σ' := fun s2 g1 g2 g3 g4 => by
            refine h s2 (g1.up (vRw_Kl hr)) (hC.bec hs g1 ?_ g3 (fun k hk => ?_) hn hT)
            · rw [g2, e2, nI_pred]
            · have := g4 k hk
              rw [show 50 + 2 * s + 1 = 51 + 2 * s by omega] at this
              exact this
          rcases (show s = 0 ∨ s = 1 ∨ s = 2 ∨ s = 3 by omega) with rfl | rfl | rfl | rfl
          · exact ⟨0, rfl, by decide, _, VM.at (vb_become (by decide) hn e3 (by exact g)), fun _ _ hh => hh⟩
          · exact ⟨1, rfl, by decide, _, VM.at (vb_become (by decide) hn e3 (by exact g)), fun _ _ hh => hh⟩
          · exact ⟨2, rfl, by decide, _, VM.at (vb_become (by decide) hn e3 (by exact g)), fun _ _ hh => hh⟩
          · exact ⟨3, rfl, by decide, _, VM.at (vb_become (by decide) hn e3 (by exact g)), fun _ _ hh => hh⟩
        · refine bad (-14) ?_
          have c2' : ¬ (40 : Int32) < n0 := Int32.not_lt.mpr c2
          have ev : vix n0 41 = none := vix_btw (m := 40) (by decide) (fun q => c3 q.1)
          rw [if_neg c2', ev] at es
          exact es
        · refine bad (-2) ?_
          rw [if_pos (Int32.not_le.mp c2)] at es
          exact es
      · have c1' : o0 = -1 := c1
        rw [if_pos c1'] at es
        rw [es] at h
        have g : ∀ σ', vag (vRw (50 + 2 * s)) σ σ' → σ'.1 (50 + 2 * s) 0 = -1 → σ'.1 (50 + 2 * s) 1 = nI 0 → (∀ k, k < 40 → σ'.1 (50 + 2 * s + 1) k = 0) → post (some (.int 1)) σ' := fun s2 g1 g2 g3 g4 => by
          refine h s2 (g1.up (vRw_Kl hr)) (hC.bec hs g1 (by rw [g2]; decide) g3 (fun k hk => ?_) (by decide) hT)
          have := g4 k hk
          rw [show 50 + 2 * s + 1 = 51 + 2 * s by omega] at this
          exact this
        rcases (show s = 0 ∨ s = 1 ∨ s = 2 ∨ s = 3 by omega) with rfl | rfl | rfl | rfl
        · exact ⟨0, rfl, by decide, _, VM.at (vb_become (n := 0) (by decide) (by decide) rfl (by exact g)), fun _ _ hh => hh⟩
        · exact ⟨1, rfl, by decide, _, VM.at (vb_become (n := 0) (by decide) (by decide) rfl (by exact g)), fun _ _ hh => hh⟩
        · exact ⟨2, rfl, by decide, _, VM.at (vb_become (n := 0) (by decide) (by decide) rfl (by exact g)), fun _ _ hh => hh⟩
        · exact ⟨3, rfl, by decide, _, VM.at (vb_become (n := 0) (by decide) (by decide) rfl (by exact g)), fun _ _ hh => hh⟩
    · refine ⟨fun c => absurd rfl c, fun _ => bad (-2) ?_⟩
      unfold sSheet
      rw [e1, vix_nI hs (by decide)]
      dsimp only
      rw [if_neg (fun e => hno ⟨by rw [e]; decide, by rw [e]; decide⟩)]
      rw [vix_btw (x := o0) (m := 2) (by decide) (fun q => hno ⟨Int32.le_trans (by decide) q.1, q.2⟩)]
  · refine ⟨fun _ => bad (-2) ?_, fun c => absurd rfl c⟩
    unfold sSheet
    rw [vix_no (x := s0) (by decide) hno]
theorem vbec_lo {a : vα} {s so n c : Nat} (hc : c < 50) : (vbec a s so n).1 c = a.1 c := by
  funext k
  show (if c = 50 + 2 * s ∧ k = 0 then so else if c = 50 + 2 * s ∧ k = 1 then n else a.1 c k) = a.1 c k
  rw [if_neg (by omega), if_neg (by omega)]
theorem vWF.bec {a : vα} {s so n : Nat} (hW : vWF a) (hs : s < 4) (hso : so ≤ 3) (hn : n ≤ 40) (hz : so = 0 → n = 0) : vWF (vbec a s so n) := by
  obtain ⟨w1, w2, w3, w4, w5, w6, w7, w8, w9, w10⟩ := hW
  unfold vWF
  rw [vbec_lo (c := 0) (by decide), vbec_lo (c := 1) (by decide), vbec_lo (c := 2) (by decide), vbec_lo (c := 3) (by decide), vbec_lo (c := 4) (by decide), vbec_lo (c := 5) (by decide), vbec_lo (c := 6) (by decide), vbec_lo (c := 7) (by decide), vbec_lo (c := 8) (by decide), vbec_lo (c := 9) (by decide), vbec_lo (c := 10) (by decide), vbec_lo (c := 11) (by decide), vbec_lo (c := 12) (by decide), vbec_lo (c := 13) (by decide), vbec_lo (c := 14) (by decide), vbec_lo (c := 15) (by decide), vbec_lo (c := 16) (by decide), vbec_lo (c := 17) (by decide), vbec_lo (c := 18) (by decide), vbec_lo (c := 38) (by decide), vbec_lo (c := 39) (by decide)]
  refine ⟨w1, w2, w3, w4, w5, w6, w7, fun s' hs' => ?_, w9, w10⟩
  by_cases e : s' = s
  · subst e
    show (if 50 + 2 * s' = 50 + 2 * s' ∧ 0 = 0 then so else _) ≤ 3 ∧ (if 50 + 2 * s' = 50 + 2 * s' ∧ 1 = 0 then so else if 50 + 2 * s' = 50 + 2 * s' ∧ 1 = 1 then n else _) ≤ 40 ∧ ((if 50 + 2 * s' = 50 + 2 * s' ∧ 0 = 0 then so else _) = 0 → (if 50 + 2 * s' = 50 + 2 * s' ∧ 1 = 0 then so else if 50 + 2 * s' = 50 + 2 * s' ∧ 1 = 1 then n else _) = 0)
    rw [if_pos ⟨rfl, rfl⟩, if_neg (fun q => absurd q.2 (by decide)), if_pos ⟨rfl, rfl⟩]
    exact ⟨hso, hn, hz⟩
  · have e0 : ∀ k, (vbec a s so n).1 (50 + 2 * s') k = a.1 (50 + 2 * s') k := fun k => by
      show (if 50 + 2 * s' = 50 + 2 * s ∧ k = 0 then so else if 50 + 2 * s' = 50 + 2 * s ∧ k = 1 then n else a.1 (50 + 2 * s') k) = _
      rw [if_neg (by omega), if_neg (by omega)]
    rw [e0, e0]
    exact w8 s' hs'
theorem vWF.itm {a : vα} {s i : Nat} {v : Int32} (hW : vWF a) : vWF (vitm a s i v) := hW
theorem vKl_row {s i : Nat} (hs : s < 4) : vKl (51 + 2 * s) i = true := by unfold vKl; rw [Nat.ble_eq]; omega
theorem vc_cell {s0 i0 v0 : Int32} (hC : vRC a σ) (hW : vWF a) (h : ∀ σ', vag vKl σ σ' → vRC (sCell a s0 i0 v0).2 σ' → post (some (.int (sCell a s0 i0 v0).1)) σ') : VM G (d + 1) iX6_cell 0 [some (.ref 0), some (.int s0), some (.int i0), some (.int v0), none] [] σ post := by
  have hT := hW.2.1.2
  have bad : ∀ v, sCell a s0 i0 v0 = (v, a) → post (some (.int v)) σ := fun v e => by
    have := h σ vag.rf (by rw [e]; exact hC)
    rw [e] at this
    exact this
  refine VM.go [] ⟨_, VM.at (vb_isSheet (fun s hs e1 => ?_) (fun hno => ?_)), fun _ _ hh => hh⟩
  · refine ⟨fun _ => ?_, fun c => absurd c (by decide)⟩
    subst e1
    have es : sCell a (nI s) i0 v0 = if a.1 (50 + 2 * s) 0 = 0 then ((-11 : Int32), a) else match vix i0 (a.1 (50 + 2 * s) 1) with
      | none => (-12, a)
      | some i => (1, vitm a s i (vcnv (a.1 (50 + 2 * s) 0) v0)) := by
      unfold sCell; rw [vix_nI hs (by decide)]
    have hso := hC.2.1 s hs
    have hsz := hC.sz hs
    obtain ⟨r1, r2, r3⟩ := hW.2.2.2.2.2.2.2.1 s hs
    have k1 : σ.1 (50 + 2 * s) 0 = -1 → post (some (.int (-11))) σ := fun e => by
      rw [hso, nI_m1e (by omega)] at e
      rw [if_pos e] at es
      exact bad _ es
    have k2 : ¬ σ.1 (50 + 2 * s) 0 = -1 → i0 < 0 → post (some (.int (-12))) σ := fun e q => by
      rw [hso, nI_m1e (by omega)] at e
      rw [if_neg e, vix_no (x := i0) (by omega) (fun j hj z => nI_pos (show j < 2 ^ 31 by omega) (by rw [← z]; exact q))] at es
      exact bad _ es
    have k3 : ¬ σ.1 (50 + 2 * s) 0 = -1 → ¬ i0 < σ.1 (50 + 2 * s) 1 → post (some (.int (-12))) σ := fun e q => by
      rw [hso, nI_m1e (by omega)] at e
      rw [hsz] at q
      rw [if_neg e, vix_no (x := i0) (by omega) (fun j hj z => q (by rw [z]; exact nI_lt hj (by omega)))] at es
      exact bad _ es
    have k4 : ¬ σ.1 (50 + 2 * s) 0 = -1 → ¬ i0 < 0 → i0 < σ.1 (50 + 2 * s) 1 → VM G d iX3_put 0 [some (.ref (50 + 2 * s)), some (.int i0), some (.int v0)] [] σ (fun v σ' => v = none ∧ post (some (.int 1)) σ') := fun e q1 q2 => by
      rw [hso, nI_m1e (by omega)] at e
      obtain ⟨i, hi, rfl⟩ := nI_of q1
      rw [hsz, nIlt (by omega) (by omega)] at q2
      rw [if_neg e, vix_nI q2 (by omega)] at es
      dsimp only at es
      rw [es] at h
      refine vb_put hs hso hsz (by omega) q2 r2 ?_
      exact ⟨rfl, h _ (vag.rf.put (vKl_row hs)) (hC.itm hs hT)⟩
    rcases (show s = 0 ∨ s = 1 ∨ s = 2 ∨ s = 3 by omega) with rfl | rfl | rfl | rfl
    · exact ⟨0, rfl, by decide, fun e => ⟨fun q => k2 e q, fun q => ⟨fun q2 => ⟨_, VM.at (k4 e q q2), fun _ _ hh => by rcases hh with ⟨rfl, hh⟩; exact hh⟩, fun q2 => k3 e q2⟩⟩, fun e => k1 e⟩
    · exact ⟨1, rfl, by decide, fun e => ⟨fun q => k2 e q, fun q => ⟨fun q2 => ⟨_, VM.at (k4 e q q2), fun _ _ hh => by rcases hh with ⟨rfl, hh⟩; exact hh⟩, fun q2 => k3 e q2⟩⟩, fun e => k1 e⟩
    · exact ⟨2, rfl, by decide, fun e => ⟨fun q => k2 e q, fun q => ⟨fun q2 => ⟨_, VM.at (k4 e q q2), fun _ _ hh => by rcases hh with ⟨rfl, hh⟩; exact hh⟩, fun q2 => k3 e q2⟩⟩, fun e => k1 e⟩
    · exact ⟨3, rfl, by decide, fun e => ⟨fun q => k2 e q, fun q => ⟨fun q2 => ⟨_, VM.at (k4 e q q2), fun _ _ hh => by rcases hh with ⟨rfl, hh⟩; exact hh⟩, fun q2 => k3 e q2⟩⟩, fun e => k1 e⟩
  · refine ⟨fun c => absurd rfl c, fun _ => bad (-2) ?_⟩
    unfold sCell
    rw [vix_no (x := s0) (by decide) hno]
theorem vflm_ne {s p i : Nat} : (vflm a s p i).1 = (vbec a s 3 (a.1 1 2)).1 := by
  induction i with
  | zero => rfl
  | succ i ih => exact ih
theorem vBR.lo {cs : Nat → List Int32} {c n r : Nat} {kd nu ye se : Nat → Nat} {σ' : vM} (h : vBR cs c n r kd nu ye se σ) (hs : ∀ c k, c < 47 → σ'.1 c k = σ.1 c k) : vBR cs c n r kd nu ye se σ' := by
  obtain ⟨h1, h2, h3, ⟨nn, h4, h5, h6⟩, h7, ⟨g1, g2, g3, g4, g5, g6, g7⟩⟩ := h
  have hr : r ≤ 35 := by unfold vRc at h1; omega
  exact ⟨h1, h2.ag (fun k => hs _ _ (by omega)) (fun k => hs _ _ (by omega)), h3, ⟨nn, h4, h5, (hs _ _ (by omega)).trans h6⟩, h7, ⟨(hs _ _ (by decide)).trans g1, (hs _ _ (by decide)).trans g2, (hs _ _ (by decide)).trans g3, fun k hk => (hs _ _ (by decide)).trans (g4 k hk), fun k hk => (hs _ _ (by decide)).trans (g5 k hk), fun k hk => (hs _ _ (by decide)).trans (g6 k hk), fun k hk => (hs _ _ (by decide)).trans (g7 k hk)⟩⟩
theorem vBi_Kl (c k : Nat) (h : vKl c k = false) : vBi c k = false := vBi_Cs c k (vKl_Cs c k h)
theorem vc_film {s0 p0 : Int32} (hC : vRC a σ) (hW : vWF a) (h : ∀ σ', vag vKl σ σ' → vRC (sFilm a s0 p0).2 σ' → post (some (.int (sFilm a s0 p0).1)) σ') : VM G (d + 3) iX6_film 0 [some (.ref 0), some (.int s0), some (.int p0), none, none] [] σ post := by
  have hT := hW.2.1.2
  have hn6 := hW.1.2.2
  have bad : ∀ v, sFilm a s0 p0 = (v, a) → post (some (.int v)) σ := fun v e => by
    have := h σ vag.rf (by rw [e]; exact hC)
    rw [e] at this
    exact this
  refine VM.go [17] ⟨_, VM.at (vb_isSheet (fun s hs e1 => ?_) (fun hno => ?_)), fun _ _ hh => hh⟩
  · refine ⟨fun c => absurd c (by decide), fun _ => ⟨_, VM.at (vb_isLooker (fun p hp e2 => ?_) (fun hno => ?_)), fun _ _ hh => hh⟩⟩
    · refine ⟨fun _ => ?_, fun c => absurd c (by decide)⟩
      subst e1; subst e2
      have es : sFilm a (nI s) (nI p) = (nI (a.1 1 2), vflm a s p (a.1 1 2)) := by
        unfold sFilm; rw [vix_nI hs (by decide), vix_nI hp (by decide)]
      rw [es] at h
      have hr := vrow_of hs
      have en := hC.num 1 2 rfl
      have hT2 : ∀ i, (vflm a s p i).1 0 4 ≤ 6 := fun i => by
        rw [vflm_ne]
        show (if 0 = 50 + 2 * s ∧ 4 = 0 then _ else if 0 = 50 + 2 * s ∧ 4 = 1 then _ else a.1 0 4) ≤ 6
        rw [if_neg (by omega), if_neg (by omega)]
        exact hT
      have z0 : ∀ i, (vflm a s p i).1 (50 + 2 * s) 0 = 3 := fun i => by
        rw [vflm_ne]
        show (if 50 + 2 * s = 50 + 2 * s ∧ 0 = 0 then 3 else _) = 3
        rw [if_pos ⟨rfl, rfl⟩]
      have z1 : ∀ i, (vflm a s p i).1 (50 + 2 * s) 1 = a.1 1 2 := fun i => by
        rw [vflm_ne]
        show (if 50 + 2 * s = 50 + 2 * s ∧ 1 = 0 then 3 else if 50 + 2 * s = 50 + 2 * s ∧ 1 = 1 then _ else _) = a.1 1 2
        rw [if_neg (fun q => absurd q.2 (by decide)), if_pos ⟨rfl, rfl⟩]
      have key : ∀ i, i ≤ a.1 1 2 → ∀ s2, vag vKl σ s2 → s2.1 1 2 = σ.1 1 2 → vRC (vflm a s p i) s2 → vBA a (a.1 1 1) p (a.1 1 0) s2 → VM G (d + 3) iX6_film 44 [some (.ref 0), some (.int (nI s)), some (.int (nI p)), some (.ref (50 + 2 * s)), some (.int (nI i))] [] s2 post := by
        refine vloop _ ?_ ?_
        · intro s2 hs2 hn2 hC2 hB2
          refine VM.go [44] ⟨fun _ => ?_, fun q => absurd ?_ q⟩
          · have := h s2 hs2 hC2
            rw [← en, ← hn2] at this
            exact this
          · rw [hn2, en]; exact nI_le (Nat.le_refl _) (by omega)
        · intro i hi ih s2 hs2 hn2 hC2 hB2
          have hi6 : i < 6 := by omega
          have nx2 : ∀ s3, vag vSc s2 s3 → VM G (d + 2) iX3_put 0 [some (.ref (50 + 2 * s)), some (.int (nI i)), some (.int (nI (vowA a (a.1 1 0) (a.1 1 1) p i)))] [] s3 (fun v σ' => v = none ∧ VM G (d + 3) iX6_film 71 [some (.ref 0), some (.int (nI s)), some (.int (nI p)), some (.ref (50 + 2 * s)), some (.int (nI i))] [] σ' post) := by
            intro s3 hs3
            have hC3 : vRC (vflm a s p i) s3 := hC2.ag ((hs3.up vSc_Bi).up vBi_Cs) (hT2 i)
            have g0 := hC3.2.1 s hs
            have g1 := hC3.sz hs
            rw [z0] at g0
            rw [z1] at g1
            refine vb_put (so := 3) (sz := a.1 1 2) hs g0 g1 (by decide) hi (by omega) ?_
            refine ⟨rfl, VM.go [44] ?_⟩
            show VM G (d + 3) iX6_film 44 _ _ _ _
            rw [nI_1]
            refine ih _ ((hs2.tr ((hs3.up vSc_Bi).up vBi_Kl)).put (vKl_row hs)) ?_ (hC3.itm hs (hT2 i)) ?_
            · rw [vput_ne (Or.inl (by omega)), hs3.get rfl]; exact hn2
            · exact (hB2.ag hs3).lo (fun c k hc => vput_ne (Or.inl (by omega)))
          have lt : ¬ (s2.1 1 2 ≤ nI i) := by rw [hn2, en]; exact nI_ge hi (by omega)
          rcases (show s = 0 ∨ s = 1 ∨ s = 2 ∨ s = 3 by omega) with rfl | rfl | rfl | rfl
          all_goals exact VM.go [71] ⟨fun q => absurd q lt, fun _ => ⟨_, VM.at (vb_owedR hi6 hB2 (fun s3 hs3 => by exact ⟨_, VM.at (nx2 s3 hs3), fun _ _ hh => by rcases hh with ⟨rfl, hh⟩; exact VM.at hh⟩)), fun _ _ hh => hh⟩⟩
      have g : ∀ σ', vag (vRw (50 + 2 * s)) σ σ' → σ'.1 (50 + 2 * s) 0 = 2 → σ'.1 (50 + 2 * s) 1 = nI (a.1 1 2) → (∀ k, k < 40 → σ'.1 (50 + 2 * s + 1) k = 0) → VM G (d + 2) iX6_openBill 0 [some (.ref 0), some (.int (nI p))] [] σ' (fun v s2 => v = none ∧ VM G (d + 3) iX6_film 44 [some (.ref 0), some (.int (nI s)), some (.int (nI p)), some (.ref (50 + 2 * s)), some (.int (nI 0))] [] s2 post) := by
        intro s2 g1 g2 g3 g4
        have hC2 : vRC (vflm a s p 0) s2 := hC.bec hs g1 (by rw [g2]; decide) g3 (fun k hk => by rw [show 51 + 2 * s = 50 + 2 * s + 1 by omega]; exact g4 k hk) (by omega) hT
        have lo : ∀ c k, c < 50 → s2.1 c k = σ.1 c k := fun c k hc => g1.get (vRw_no (by omega) (by omega))
        have hW2 : vWF (vbec a s 3 (a.1 1 2)) := hW.bec hs (by decide) (by omega) (fun q => absurd q (by decide))
        refine vb_openBill hp hC2 hW2 (fun s3 hs3 hB3 => ⟨rfl, ?_⟩)
        have hB4 : vBA a (a.1 1 1) p (a.1 1 0) s3 := by
          have := hB3
          unfold vBA at this
          rw [show vflm a s p 0 = vbec a s 3 (a.1 1 2) from rfl, vbec_lo (by decide), vbec_lo (by decide), vbec_lo (by decide), vbec_lo (by decide), vbec_lo (by decide)] at this
          exact this
        refine key 0 (Nat.zero_le _) s3 ((g1.up (vRw_Kl hr)).tr (hs3.up vBi_Kl)) ?_ (hC2.ag (hs3.up vBi_Cs) (hT2 0)) hB4
        rw [hs3.get rfl]
        exact lo 1 2 (by decide)
      rcases (show s = 0 ∨ s = 1 ∨ s = 2 ∨ s = 3 by omega) with rfl | rfl | rfl | rfl
      · exact VM.at (VM.go [44] ⟨0, rfl, by decide, _, VM.at (vb_become (n := a.1 1 2) (by decide) (by omega) en (fun s2 g1 g2 g3 g4 => by exact ⟨_, VM.at (g s2 g1 g2 g3 g4), fun _ _ hh => by rcases hh with ⟨rfl, hh⟩; exact VM.at (VM.go [44] hh)⟩)), fun _ _ hh => hh⟩)
      · exact VM.at (VM.go [44] ⟨1, rfl, by decide, _, VM.at (vb_become (n := a.1 1 2) (by decide) (by omega) en (fun s2 g1 g2 g3 g4 => by exact ⟨_, VM.at (g s2 g1 g2 g3 g4), fun _ _ hh => by rcases hh with ⟨rfl, hh⟩; exact VM.at (VM.go [44] hh)⟩)), fun _ _ hh => hh⟩)
      · exact VM.at (VM.go [44] ⟨2, rfl, by decide, _, VM.at (vb_become (n := a.1 1 2) (by decide) (by omega) en (fun s2 g1 g2 g3 g4 => by exact ⟨_, VM.at (g s2 g1 g2 g3 g4), fun _ _ hh => by rcases hh with ⟨rfl, hh⟩; exact VM.at (VM.go [44] hh)⟩)), fun _ _ hh => hh⟩)
      · exact VM.at (VM.go [44] ⟨3, rfl, by decide, _, VM.at (vb_become (n := a.1 1 2) (by decide) (by omega) en (fun s2 g1 g2 g3 g4 => by exact ⟨_, VM.at (g s2 g1 g2 g3 g4), fun _ _ hh => by rcases hh with ⟨rfl, hh⟩; exact VM.at (VM.go [44] hh)⟩)), fun _ _ hh => hh⟩)
    · refine ⟨fun c => absurd rfl c, fun _ => bad (-2) ?_⟩
      unfold sFilm
      rw [e1, vix_nI hs (by decide), vix_no (x := p0) (by decide) hno]
  · refine ⟨fun _ => bad (-2) ?_, fun c => absurd rfl c⟩
    unfold sFilm
    rw [vix_no (x := s0) (by decide) hno]
end SH
end
section
/-! ===== copy ===== -/
theorem vhas_some {sz i n : Nat} {i0 n0 : Int32} (hz : sz ≤ 40) (h : vhas sz i0 n0 = some (i, n)) : i0 = nI i ∧ n0 = nI n ∧ i + n ≤ sz := by
  unfold vhas at h
  cases h1 : vix i0 (sz + 1) with
  | none => rw [h1] at h; cases h
  | some i' =>
    cases h2 : vix n0 (sz + 1) with
    | none => rw [h1, h2] at h; cases h
    | some n' =>
      rw [h1, h2] at h
      dsimp only at h
      split at h
      · next q =>
        cases h
        exact ⟨(vix_some (by omega) h1).2, (vix_some (by omega) h2).2, q⟩
      · cases h
theorem vhas_nI {sz i n : Nat} (hz : sz ≤ 40) (h : i + n ≤ sz) : vhas sz (nI i) (nI n) = some (i, n) := by
  unfold vhas
  rw [vix_nI (show i < sz + 1 by omega) (by omega), vix_nI (show n < sz + 1 by omega) (by omega)]
  exact if_pos h
theorem vhas_no {sz : Nat} {i0 n0 : Int32} (hz : sz ≤ 40) (h : ∀ i n, i0 = nI i → n0 = nI n → ¬ i + n ≤ sz) : vhas sz i0 n0 = none := by
  cases hv : vhas sz i0 n0 with
  | none => rfl
  | some q =>
    obtain ⟨i, n⟩ := q
    obtain ⟨h1, h2, h3⟩ := vhas_some hz hv
    exact absurd h3 (h i n h1 h2)
theorem vRC.cpy {a : vα} {σ : vM} {s i o j m : Nat} (hs : s < 4) (ho : o < 4) (hC : vRC a σ) (h1 : i + m ≤ a.1 (50 + 2 * s) 1) (hT : a.1 0 4 ≤ 6) : vRC (vcpA a s i o j m) (vcopy σ (51 + 2 * s) i (51 + 2 * o) j m) := by
  obtain ⟨c1, c2, c3, c4⟩ := hC
  have ne : ∀ c k, ¬ c = 51 + 2 * o → (vcopy σ (51 + 2 * s) i (51 + 2 * o) j m).1 c k = σ.1 c k := fun c k e => by
    rw [vcopy_get, if_neg (fun q => e q.1)]
  refine ⟨fun c k hk => ?_, fun s' hs' => ?_, fun s' k hs' hk => ?_, fun t ht => ?_⟩
  · rw [ne c k (fun e => by
      subst e
      simp only [vps, Bool.or_eq_true, Bool.and_eq_true, Nat.ble_eq, vbq] at hk
      omega)]
    exact c1 c k hk
  · rw [ne _ _ (by omega)]; exact c2 s' hs'
  · rw [vcopy_get]
    show _ = if s' = o ∧ j ≤ k ∧ k < j + m then a.2.1 s (i + (k - j)) else a.2.1 s' k
    by_cases e : s' = o ∧ j ≤ k ∧ k < j + m
    · rw [if_pos ⟨by omega, e.2⟩, if_pos e]
      exact c3 s _ hs (by omega)
    · rw [if_neg (fun q => e ⟨by omega, q.2⟩), if_neg e]; exact c3 s' k hs' hk
  · obtain ⟨r1, r2⟩ := c4 t ht
    have ht' : t < a.1 0 4 := ht
    exact ⟨r1.ag (fun k => ne _ _ (by omega)) (fun k => ne _ _ (by omega)), by rw [ne _ _ (by omega)]; exact r2⟩
theorem vWF.cpy {a : vα} {s i o j m : Nat} (hW : vWF a) : vWF (vcpA a s i o j m) := hW
theorem vag_copy {S : Nat → Nat → Bool} {σ σ' : vM} {a sp b dp n : Nat} (h : vag S σ σ') (hb : ∀ k, S b k = true) : vag S σ (vcopy σ' a sp b dp n) := by
  refine ⟨fun c k hk => ?_, h.2⟩
  rw [vcopy_get, if_neg (fun q => by rw [q.1, hb k] at hk; cases hk)]
  exact h.1 c k hk
section CP
variable {G : vG} {d : Nat} {σ : vM} {post : vQ} {a : vα}
theorem vb_has {s sz : Nat} {i0 n0 : Int32} (hs : s < 4) (h1 : σ.1 (50 + 2 * s) 1 = nI sz) (hz : sz ≤ 40) (hy : ∀ i n, vhas sz i0 n0 = some (i, n) → post (some (.int 1)) σ) (hn : vhas sz i0 n0 = none → post (some (.int 0)) σ) : VM G d iX3_has 0 [some (.ref (50 + 2 * s)), some (.int i0), some (.int n0)] [] σ post := by
  have k1 : i0 < 0 → post (some (.int 0)) σ := fun q => hn (vhas_no hz (fun i n e _ r => nI_pos (show i < 2 ^ 31 by omega) (by rw [← e]; exact q)))
  have k2 : n0 < 0 → post (some (.int 0)) σ := fun q => hn (vhas_no hz (fun i n _ e r => nI_pos (show n < 2 ^ 31 by omega) (by rw [← e]; exact q)))
  have k3 : σ.1 (50 + 2 * s) 1 < i0 → post (some (.int 0)) σ := fun q => hn (vhas_no hz (fun i n e _ r => by
    rw [h1, e, nIlt (by omega) (by omega)] at q
    omega))
  have k4 : ¬ i0 < 0 → ¬ n0 < 0 → ¬ σ.1 (50 + 2 * s) 1 < i0 → σ.1 (50 + 2 * s) 1 - i0 < n0 → post (some (.int 0)) σ := fun q1 q2 q3 q4 => by
    obtain ⟨i, hi, rfl⟩ := nI_of q1
    obtain ⟨n, hnn, rfl⟩ := nI_of q2
    rw [h1, nIlt (by omega) (by omega)] at q3
    rw [h1, pk_sub (by omega), nIlt (by omega) (by omega)] at q4
    refine hn (vhas_no hz (fun i' n' e e' r => ?_))
    rw [nI_eq (by omega) (by omega)] at e e'
    omega
  have k5 : ¬ i0 < 0 → ¬ n0 < 0 → ¬ σ.1 (50 + 2 * s) 1 < i0 → ¬ σ.1 (50 + 2 * s) 1 - i0 < n0 → post (some (.int 1)) σ := fun q1 q2 q3 q4 => by
    obtain ⟨i, hi, rfl⟩ := nI_of q1
    obtain ⟨n, hnn, rfl⟩ := nI_of q2
    rw [h1, nIlt (by omega) (by omega)] at q3
    rw [h1, pk_sub (by omega), nIlt (by omega) (by omega)] at q4
    exact hy i n (vhas_nI hz (by omega))
  rcases (show s = 0 ∨ s = 1 ∨ s = 2 ∨ s = 3 by omega) with rfl | rfl | rfl | rfl
  all_goals exact VM.go [] ⟨fun q => ⟨Or.inl rfl, k1 q⟩, fun q => ⟨fun q2 => ⟨Or.inl rfl, k2 q2⟩, fun q2 => ⟨fun q3 => ⟨Or.inl rfl, k3 q3⟩, fun q3 => ⟨fun q4 => ⟨Or.inl rfl, k4 q q2 q3 q4⟩, fun q4 => ⟨Or.inr rfl, k5 q q2 q3 q4⟩⟩⟩⟩⟩
theorem vc_copy {s0 i0 o0 j0 n0 : Int32} (hC : vRC a σ) (hW : vWF a) (h : ∀ σ', vag vKl σ σ' → vRC (sCopy a s0 i0 o0 j0 n0).2 σ' → post (some (.int (sCopy a s0 i0 o0 j0 n0).1)) σ') : VM G (d + 1) iX6_copy 0 [some (.ref 0), some (.int s0), some (.int i0), some (.int o0), some (.int j0), some (.int n0), none, none] [] σ post := by
  have hT := hW.2.1.2
  have bad : ∀ v, sCopy a s0 i0 o0 j0 n0 = (v, a) → post (some (.int v)) σ := fun v e => by
    have := h σ vag.rf (by rw [e]; exact hC)
    rw [e] at this
    exact this
  refine VM.go [17] ⟨_, VM.at (vb_isSheet (fun s hs e1 => ?_) (fun hno => ?_)), fun _ _ hh => hh⟩
  · refine ⟨fun c => absurd c (by decide), fun _ => ⟨_, VM.at (vb_isSheet (fun o ho e2 => ?_) (fun hno => ?_)), fun _ _ hh => hh⟩⟩
    · refine ⟨fun _ => ?_, fun c => absurd c (by decide)⟩
      subst e1; subst e2
      have es : sCopy a (nI s) i0 (nI o) j0 n0 = if a.1 (50 + 2 * s) 0 = 0 ∨ a.1 (50 + 2 * o) 0 = 0 then ((-11 : Int32), a) else if ¬ a.1 (50 + 2 * s) 0 = a.1 (50 + 2 * o) 0 then (-13, a) else match vhas (a.1 (50 + 2 * s) 1) i0 n0, vhas (a.1 (50 + 2 * o) 1) j0 n0 with
        | some (i, m), some (j, _) => (nI m, vcpA a s i o j m)
        | _, _ => (-12, a) := by
        unfold sCopy; rw [vix_nI hs (by decide), vix_nI ho (by decide)]; rfl
      have s1 := hC.2.1 s hs
      have s2 := hC.2.1 o ho
      have z1 := hC.sz hs
      have z2 := hC.sz ho
      obtain ⟨r1, r2, r3⟩ := hW.2.2.2.2.2.2.2.1 s hs
      obtain ⟨t1, t2, t3⟩ := hW.2.2.2.2.2.2.2.1 o ho
      have f1 : σ.1 (50 + 2 * s) 0 = -1 ↔ a.1 (50 + 2 * s) 0 = 0 := by rw [s1, nI_m1e (by omega)]
      have f2 : σ.1 (50 + 2 * o) 0 = -1 ↔ a.1 (50 + 2 * o) 0 = 0 := by rw [s2, nI_m1e (by omega)]
      have f3 : ¬ a.1 (50 + 2 * s) 0 = 0 → ¬ a.1 (50 + 2 * o) 0 = 0 → (σ.1 (50 + 2 * s) 0 = σ.1 (50 + 2 * o) 0 ↔ a.1 (50 + 2 * s) 0 = a.1 (50 + 2 * o) 0) := fun q q2 => by
        rw [s1, s2, show a.1 (50 + 2 * s) 0 = (a.1 (50 + 2 * s) 0 - 1) + 1 by omega, show a.1 (50 + 2 * o) 0 = (a.1 (50 + 2 * o) 0 - 1) + 1 by omega, nI_pred, nI_pred, nI_eq (by omega) (by omega)]
        omega
      have k1 : σ.1 (50 + 2 * s) 0 = -1 → post (some (.int (-11))) σ := fun q => by
        rw [if_pos (Or.inl (f1.mp q))] at es
        exact bad _ es
      have k2 : σ.1 (50 + 2 * o) 0 = -1 → post (some (.int (-11))) σ := fun q => by
        rw [if_pos (Or.inr (f2.mp q))] at es
        exact bad _ es
      have k3 : ¬ σ.1 (50 + 2 * s) 0 = -1 → ¬ σ.1 (50 + 2 * o) 0 = -1 → ¬ σ.1 (50 + 2 * s) 0 = σ.1 (50 + 2 * o) 0 → post (some (.int (-13))) σ := fun q q2 q3 => by
        rw [f1] at q
        rw [f2] at q2
        rw [f3 q q2] at q3
        rw [if_neg (fun z => z.elim q q2), if_pos q3] at es
        exact bad _ es
      have k4 : ¬ σ.1 (50 + 2 * s) 0 = -1 → ¬ σ.1 (50 + 2 * o) 0 = -1 → σ.1 (50 + 2 * s) 0 = σ.1 (50 + 2 * o) 0 → (vhas (a.1 (50 + 2 * s) 1) i0 n0 = none ∨ vhas (a.1 (50 + 2 * o) 1) j0 n0 = none) → post (some (.int (-12))) σ := fun q q2 q3 q4 => by
        rw [f1] at q
        rw [f2] at q2
        rw [f3 q q2] at q3
        rw [if_neg (fun z => z.elim q q2), if_neg (fun z => z q3)] at es
        refine bad _ (es.trans ?_)
        rcases q4 with q4 | q4
        · rw [q4]
        · rw [q4]
          cases vhas (a.1 (50 + 2 * s) 1) i0 n0 <;> rfl
      have k5 : ¬ σ.1 (50 + 2 * s) 0 = -1 → ¬ σ.1 (50 + 2 * o) 0 = -1 → σ.1 (50 + 2 * s) 0 = σ.1 (50 + 2 * o) 0 → ∀ i m j m', vhas (a.1 (50 + 2 * s) 1) i0 n0 = some (i, m) → vhas (a.1 (50 + 2 * o) 1) j0 n0 = some (j, m') → ∃ sp dp mm : Nat, i0 = nI sp ∧ j0 = nI dp ∧ n0 = nI mm ∧ sp + mm ≤ 40 ∧ dp + mm ≤ 40 ∧ post (some (.int n0)) (vcopy σ (51 + 2 * s) sp (51 + 2 * o) dp mm) := fun q q2 q3 i m j m' q4 q5 => by
        rw [f1] at q
        rw [f2] at q2
        rw [f3 q q2] at q3
        rw [if_neg (fun z => z.elim q q2), if_neg (fun z => z q3), q4, q5] at es
        dsimp only at es
        obtain ⟨g1, g2, g3⟩ := vhas_some r2 q4
        obtain ⟨u1, u2, u3⟩ := vhas_some t2 q5
        have em : m' = m := (nI_eq (by omega) (by omega)).mp (u2.symm.trans g2)
        subst em
        rw [es] at h
        refine ⟨i, j, m', g1, u1, g2, by omega, by omega, ?_⟩
        have := h _ (vag_copy vag.rf (fun k => vKl_row ho)) (hC.cpy hs ho g3 hT)
        rw [← g2] at this
        exact this
      rcases (show s = 0 ∨ s = 1 ∨ s = 2 ∨ s = 3 by omega) with rfl | rfl | rfl | rfl
      · rcases (show o = 0 ∨ o = 1 ∨ o = 2 ∨ o = 3 by omega) with rfl | rfl | rfl | rfl
        · exact VM.go [] ⟨0, rfl, by decide, 0, rfl, by decide, fun q => k1 q, fun q => ⟨fun q2 => ⟨fun q3 => ⟨_, VM.at (vb_has hs z1 r2 (fun i m q4 => ⟨fun c => absurd c (by decide), fun _ => ⟨_, VM.at (vb_has ho z2 t2 (fun j m' q5 => ⟨fun _ => k5 q q2 q3 i m j m' q4 q5, fun c => absurd c (by decide)⟩) (fun q5 => ⟨fun c => absurd rfl c, fun _ => k4 q q2 q3 (Or.inr q5)⟩)), fun _ _ hh => hh⟩⟩) (fun q4 => ⟨fun _ => k4 q q2 q3 (Or.inl q4), fun c => absurd rfl c⟩)), fun _ _ hh => hh⟩, fun q3 => k3 q q2 q3⟩, fun q2 => k2 q2⟩⟩
        · exact VM.go [] ⟨0, rfl, by decide, 1, rfl, by decide, fun q => k1 q, fun q => ⟨fun q2 => ⟨fun q3 => ⟨_, VM.at (vb_has hs z1 r2 (fun i m q4 => ⟨fun c => absurd c (by decide), fun _ => ⟨_, VM.at (vb_has ho z2 t2 (fun j m' q5 => ⟨fun _ => k5 q q2 q3 i m j m' q4 q5, fun c => absurd c (by decide)⟩) (fun q5 => ⟨fun c => absurd rfl c, fun _ => k4 q q2 q3 (Or.inr q5)⟩)), fun _ _ hh => hh⟩⟩) (fun q4 => ⟨fun _ => k4 q q2 q3 (Or.inl q4), fun c => absurd rfl c⟩)), fun _ _ hh => hh⟩, fun q3 => k3 q q2 q3⟩, fun q2 => k2 q2⟩⟩
        · exact VM.go [] ⟨0, rfl, by decide, 2, rfl, by decide, fun q => k1 q, fun q => ⟨fun q2 => ⟨fun q3 => ⟨_, VM.at (vb_has hs z1 r2 (fun i m q4 => ⟨fun c => absurd c (by decide), fun _ => ⟨_, VM.at (vb_has ho z2 t2 (fun j m' q5 => ⟨fun _ => k5 q q2 q3 i m j m' q4 q5, fun c => absurd c (by decide)⟩) (fun q5 => ⟨fun c => absurd rfl c, fun _ => k4 q q2 q3 (Or.inr q5)⟩)), fun _ _ hh => hh⟩⟩) (fun q4 => ⟨fun _ => k4 q q2 q3 (Or.inl q4), fun c => absurd rfl c⟩)), fun _ _ hh => hh⟩, fun q3 => k3 q q2 q3⟩, fun q2 => k2 q2⟩⟩
        · exact VM.go [] ⟨0, rfl, by decide, 3, rfl, by decide, fun q => k1 q, fun q => ⟨fun q2 => ⟨fun q3 => ⟨_, VM.at (vb_has hs z1 r2 (fun i m q4 => ⟨fun c => absurd c (by decide), fun _ => ⟨_, VM.at (vb_has ho z2 t2 (fun j m' q5 => ⟨fun _ => k5 q q2 q3 i m j m' q4 q5, fun c => absurd c (by decide)⟩) (fun q5 => ⟨fun c => absurd rfl c, fun _ => k4 q q2 q3 (Or.inr q5)⟩)), fun _ _ hh => hh⟩⟩) (fun q4 => ⟨fun _ => k4 q q2 q3 (Or.inl q4), fun c => absurd rfl c⟩)), fun _ _ hh => hh⟩, fun q3 => k3 q q2 q3⟩, fun q2 => k2 q2⟩⟩
      · rcases (show o = 0 ∨ o = 1 ∨ o = 2 ∨ o = 3 by omega) with rfl | rfl | rfl | rfl
        · exact VM.go [] ⟨1, rfl, by decide, 0, rfl, by decide, fun q => k1 q, fun q => ⟨fun q2 => ⟨fun q3 => ⟨_, VM.at (vb_has hs z1 r2 (fun i m q4 => ⟨fun c => absurd c (by decide), fun _ => ⟨_, VM.at (vb_has ho z2 t2 (fun j m' q5 => ⟨fun _ => k5 q q2 q3 i m j m' q4 q5, fun c => absurd c (by decide)⟩) (fun q5 => ⟨fun c => absurd rfl c, fun _ => k4 q q2 q3 (Or.inr q5)⟩)), fun _ _ hh => hh⟩⟩) (fun q4 => ⟨fun _ => k4 q q2 q3 (Or.inl q4), fun c => absurd rfl c⟩)), fun _ _ hh => hh⟩, fun q3 => k3 q q2 q3⟩, fun q2 => k2 q2⟩⟩
        · exact VM.go [] ⟨1, rfl, by decide, 1, rfl, by decide, fun q => k1 q, fun q => ⟨fun q2 => ⟨fun q3 => ⟨_, VM.at (vb_has hs z1 r2 (fun i m q4 => ⟨fun c => absurd c (by decide), fun _ => ⟨_, VM.at (vb_has ho z2 t2 (fun j m' q5 => ⟨fun _ => k5 q q2 q3 i m j m' q4 q5, fun c => absurd c (by decide)⟩) (fun q5 => ⟨fun c => absurd rfl c, fun _ => k4 q q2 q3 (Or.inr q5)⟩)), fun _ _ hh => hh⟩⟩) (fun q4 => ⟨fun _ => k4 q q2 q3 (Or.inl q4), fun c => absurd rfl c⟩)), fun _ _ hh => hh⟩, fun q3 => k3 q q2 q3⟩, fun q2 => k2 q2⟩⟩
        · exact VM.go [] ⟨1, rfl, by decide, 2, rfl, by decide, fun q => k1 q, fun q => ⟨fun q2 => ⟨fun q3 => ⟨_, VM.at (vb_has hs z1 r2 (fun i m q4 => ⟨fun c => absurd c (by decide), fun _ => ⟨_, VM.at (vb_has ho z2 t2 (fun j m' q5 => ⟨fun _ => k5 q q2 q3 i m j m' q4 q5, fun c => absurd c (by decide)⟩) (fun q5 => ⟨fun c => absurd rfl c, fun _ => k4 q q2 q3 (Or.inr q5)⟩)), fun _ _ hh => hh⟩⟩) (fun q4 => ⟨fun _ => k4 q q2 q3 (Or.inl q4), fun c => absurd rfl c⟩)), fun _ _ hh => hh⟩, fun q3 => k3 q q2 q3⟩, fun q2 => k2 q2⟩⟩
        · exact VM.go [] ⟨1, rfl, by decide, 3, rfl, by decide, fun q => k1 q, fun q => ⟨fun q2 => ⟨fun q3 => ⟨_, VM.at (vb_has hs z1 r2 (fun i m q4 => ⟨fun c => absurd c (by decide), fun _ => ⟨_, VM.at (vb_has ho z2 t2 (fun j m' q5 => ⟨fun _ => k5 q q2 q3 i m j m' q4 q5, fun c => absurd c (by decide)⟩) (fun q5 => ⟨fun c => absurd rfl c, fun _ => k4 q q2 q3 (Or.inr q5)⟩)), fun _ _ hh => hh⟩⟩) (fun q4 => ⟨fun _ => k4 q q2 q3 (Or.inl q4), fun c => absurd rfl c⟩)), fun _ _ hh => hh⟩, fun q3 => k3 q q2 q3⟩, fun q2 => k2 q2⟩⟩
      · rcases (show o = 0 ∨ o = 1 ∨ o = 2 ∨ o = 3 by omega) with rfl | rfl | rfl | rfl
        · exact VM.go [] ⟨2, rfl, by decide, 0, rfl, by decide, fun q => k1 q, fun q => ⟨fun q2 => ⟨fun q3 => ⟨_, VM.at (vb_has hs z1 r2 (fun i m q4 => ⟨fun c => absurd c (by decide), fun _ => ⟨_, VM.at (vb_has ho z2 t2 (fun j m' q5 => ⟨fun _ => k5 q q2 q3 i m j m' q4 q5, fun c => absurd c (by decide)⟩) (fun q5 => ⟨fun c => absurd rfl c, fun _ => k4 q q2 q3 (Or.inr q5)⟩)), fun _ _ hh => hh⟩⟩) (fun q4 => ⟨fun _ => k4 q q2 q3 (Or.inl q4), fun c => absurd rfl c⟩)), fun _ _ hh => hh⟩, fun q3 => k3 q q2 q3⟩, fun q2 => k2 q2⟩⟩
        · exact VM.go [] ⟨2, rfl, by decide, 1, rfl, by decide, fun q => k1 q, fun q => ⟨fun q2 => ⟨fun q3 => ⟨_, VM.at (vb_has hs z1 r2 (fun i m q4 => ⟨fun c => absurd c (by decide), fun _ => ⟨_, VM.at (vb_has ho z2 t2 (fun j m' q5 => ⟨fun _ => k5 q q2 q3 i m j m' q4 q5, fun c => absurd c (by decide)⟩) (fun q5 => ⟨fun c => absurd rfl c, fun _ => k4 q q2 q3 (Or.inr q5)⟩)), fun _ _ hh => hh⟩⟩) (fun q4 => ⟨fun _ => k4 q q2 q3 (Or.inl q4), fun c => absurd rfl c⟩)), fun _ _ hh => hh⟩, fun q3 => k3 q q2 q3⟩, fun q2 => k2 q2⟩⟩
        · exact VM.go [] ⟨2, rfl, by decide, 2, rfl, by decide, fun q => k1 q, fun q => ⟨fun q2 => ⟨fun q3 => ⟨_, VM.at (vb_has hs z1 r2 (fun i m q4 => ⟨fun c => absurd c (by decide), fun _ => ⟨_, VM.at (vb_has ho z2 t2 (fun j m' q5 => ⟨fun _ => k5 q q2 q3 i m j m' q4 q5, fun c => absurd c (by decide)⟩) (fun q5 => ⟨fun c => absurd rfl c, fun _ => k4 q q2 q3 (Or.inr q5)⟩)), fun _ _ hh => hh⟩⟩) (fun q4 => ⟨fun _ => k4 q q2 q3 (Or.inl q4), fun c => absurd rfl c⟩)), fun _ _ hh => hh⟩, fun q3 => k3 q q2 q3⟩, fun q2 => k2 q2⟩⟩
        · exact VM.go [] ⟨2, rfl, by decide, 3, rfl, by decide, fun q => k1 q, fun q => ⟨fun q2 => ⟨fun q3 => ⟨_, VM.at (vb_has hs z1 r2 (fun i m q4 => ⟨fun c => absurd c (by decide), fun _ => ⟨_, VM.at (vb_has ho z2 t2 (fun j m' q5 => ⟨fun _ => k5 q q2 q3 i m j m' q4 q5, fun c => absurd c (by decide)⟩) (fun q5 => ⟨fun c => absurd rfl c, fun _ => k4 q q2 q3 (Or.inr q5)⟩)), fun _ _ hh => hh⟩⟩) (fun q4 => ⟨fun _ => k4 q q2 q3 (Or.inl q4), fun c => absurd rfl c⟩)), fun _ _ hh => hh⟩, fun q3 => k3 q q2 q3⟩, fun q2 => k2 q2⟩⟩
      · rcases (show o = 0 ∨ o = 1 ∨ o = 2 ∨ o = 3 by omega) with rfl | rfl | rfl | rfl
        · exact VM.go [] ⟨3, rfl, by decide, 0, rfl, by decide, fun q => k1 q, fun q => ⟨fun q2 => ⟨fun q3 => ⟨_, VM.at (vb_has hs z1 r2 (fun i m q4 => ⟨fun c => absurd c (by decide), fun _ => ⟨_, VM.at (vb_has ho z2 t2 (fun j m' q5 => ⟨fun _ => k5 q q2 q3 i m j m' q4 q5, fun c => absurd c (by decide)⟩) (fun q5 => ⟨fun c => absurd rfl c, fun _ => k4 q q2 q3 (Or.inr q5)⟩)), fun _ _ hh => hh⟩⟩) (fun q4 => ⟨fun _ => k4 q q2 q3 (Or.inl q4), fun c => absurd rfl c⟩)), fun _ _ hh => hh⟩, fun q3 => k3 q q2 q3⟩, fun q2 => k2 q2⟩⟩
        · exact VM.go [] ⟨3, rfl, by decide, 1, rfl, by decide, fun q => k1 q, fun q => ⟨fun q2 => ⟨fun q3 => ⟨_, VM.at (vb_has hs z1 r2 (fun i m q4 => ⟨fun c => absurd c (by decide), fun _ => ⟨_, VM.at (vb_has ho z2 t2 (fun j m' q5 => ⟨fun _ => k5 q q2 q3 i m j m' q4 q5, fun c => absurd c (by decide)⟩) (fun q5 => ⟨fun c => absurd rfl c, fun _ => k4 q q2 q3 (Or.inr q5)⟩)), fun _ _ hh => hh⟩⟩) (fun q4 => ⟨fun _ => k4 q q2 q3 (Or.inl q4), fun c => absurd rfl c⟩)), fun _ _ hh => hh⟩, fun q3 => k3 q q2 q3⟩, fun q2 => k2 q2⟩⟩
        · exact VM.go [] ⟨3, rfl, by decide, 2, rfl, by decide, fun q => k1 q, fun q => ⟨fun q2 => ⟨fun q3 => ⟨_, VM.at (vb_has hs z1 r2 (fun i m q4 => ⟨fun c => absurd c (by decide), fun _ => ⟨_, VM.at (vb_has ho z2 t2 (fun j m' q5 => ⟨fun _ => k5 q q2 q3 i m j m' q4 q5, fun c => absurd c (by decide)⟩) (fun q5 => ⟨fun c => absurd rfl c, fun _ => k4 q q2 q3 (Or.inr q5)⟩)), fun _ _ hh => hh⟩⟩) (fun q4 => ⟨fun _ => k4 q q2 q3 (Or.inl q4), fun c => absurd rfl c⟩)), fun _ _ hh => hh⟩, fun q3 => k3 q q2 q3⟩, fun q2 => k2 q2⟩⟩
        · exact VM.go [] ⟨3, rfl, by decide, 3, rfl, by decide, fun q => k1 q, fun q => ⟨fun q2 => ⟨fun q3 => ⟨_, VM.at (vb_has hs z1 r2 (fun i m q4 => ⟨fun c => absurd c (by decide), fun _ => ⟨_, VM.at (vb_has ho z2 t2 (fun j m' q5 => ⟨fun _ => k5 q q2 q3 i m j m' q4 q5, fun c => absurd c (by decide)⟩) (fun q5 => ⟨fun c => absurd rfl c, fun _ => k4 q q2 q3 (Or.inr q5)⟩)), fun _ _ hh => hh⟩⟩) (fun q4 => ⟨fun _ => k4 q q2 q3 (Or.inl q4), fun c => absurd rfl c⟩)), fun _ _ hh => hh⟩, fun q3 => k3 q q2 q3⟩, fun q2 => k2 q2⟩⟩
    · refine ⟨fun c => absurd rfl c, fun _ => bad (-2) ?_⟩
      unfold sCopy
      rw [vix_no (x := o0) (by decide) hno]
      cases vix s0 4 <;> rfl
  · refine ⟨fun _ => bad (-2) ?_, fun c => absurd rfl c⟩
    unfold sCopy
    rw [vix_no (x := s0) (by decide) hno]
end CP
end
