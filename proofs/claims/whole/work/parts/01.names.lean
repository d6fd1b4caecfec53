-- ===== PART A: goes FIRST, ahead of the names: the tables' words, and 'selects' of the private methods out of them =====
/-- a private method of a class that the tables say can be made, by its rows of tables_1 -/
def lw_okq (q : MethodName × Nat) : Prop := (q.1.cls ≠ "java/lang/invoke/MethodHandle" ∧ q.1.cls ≠ "java/lang/invoke/VarHandle") ∧ Cond.instantiable q.1.cls q.2 ∈ tables_1 ∧ Cond.privateMethod q.1 ∈ tables_1 ∧ Cond.instanceMethod q.1 ∈ tables_1
theorem lw_p0 : lw_okq (⟨"SummerWall", "changeStones", "(I)I"⟩, 6) := ⟨⟨by decide +kernel, by decide +kernel⟩, List.mem_of_getElem? (i := 16) (by decide +kernel), List.mem_of_getElem? (i := 416) (by decide +kernel), List.mem_of_getElem? (i := 417) (by decide +kernel)⟩
theorem lw_p1 : lw_okq (⟨"SummerWall", "changeDays", "(I)I"⟩, 6) := ⟨⟨by decide +kernel, by decide +kernel⟩, List.mem_of_getElem? (i := 16) (by decide +kernel), List.mem_of_getElem? (i := 420) (by decide +kernel), List.mem_of_getElem? (i := 421) (by decide +kernel)⟩
theorem lw_p2 : lw_okq (⟨"SummerWall", "changeFrost", "(I)I"⟩, 6) := ⟨⟨by decide +kernel, by decide +kernel⟩, List.mem_of_getElem? (i := 16) (by decide +kernel), List.mem_of_getElem? (i := 424) (by decide +kernel), List.mem_of_getElem? (i := 425) (by decide +kernel)⟩
theorem lw_p3 : lw_okq (⟨"SummerWall", "changeThaw", "(I)I"⟩, 6) := ⟨⟨by decide +kernel, by decide +kernel⟩, List.mem_of_getElem? (i := 16) (by decide +kernel), List.mem_of_getElem? (i := 428) (by decide +kernel), List.mem_of_getElem? (i := 429) (by decide +kernel)⟩
theorem lw_p4 : lw_okq (⟨"SummerWall$Tape", "readNumber", "(I)I"⟩, 13) := ⟨⟨by decide +kernel, by decide +kernel⟩, List.mem_of_getElem? (i := 110) (by decide +kernel), List.mem_of_getElem? (i := 460) (by decide +kernel), List.mem_of_getElem? (i := 461) (by decide +kernel)⟩
theorem lw_p5 : lw_okq (⟨"SummerWall$Tape", "next", "()C"⟩, 13) := ⟨⟨by decide +kernel, by decide +kernel⟩, List.mem_of_getElem? (i := 110) (by decide +kernel), List.mem_of_getElem? (i := 464) (by decide +kernel), List.mem_of_getElem? (i := 465) (by decide +kernel)⟩
theorem lw_p6 : lw_okq (⟨"SummerWall$Tape", "failAt", "(I)Z"⟩, 13) := ⟨⟨by decide +kernel, by decide +kernel⟩, List.mem_of_getElem? (i := 110) (by decide +kernel), List.mem_of_getElem? (i := 472) (by decide +kernel), List.mem_of_getElem? (i := 473) (by decide +kernel)⟩
theorem lw_p7 : lw_okq (⟨"SummerWall$Tape", "readSign", "(C)Z"⟩, 13) := ⟨⟨by decide +kernel, by decide +kernel⟩, List.mem_of_getElem? (i := 110) (by decide +kernel), List.mem_of_getElem? (i := 476) (by decide +kernel), List.mem_of_getElem? (i := 477) (by decide +kernel)⟩
theorem lw_p8 : lw_okq (⟨"SummerWall$Tape", "readBuilders", "()Z"⟩, 13) := ⟨⟨by decide +kernel, by decide +kernel⟩, List.mem_of_getElem? (i := 110) (by decide +kernel), List.mem_of_getElem? (i := 480) (by decide +kernel), List.mem_of_getElem? (i := 481) (by decide +kernel)⟩
theorem lw_p9 : lw_okq (⟨"SummerWall$Tape", "readBuilder", "()Z"⟩, 13) := ⟨⟨by decide +kernel, by decide +kernel⟩, List.mem_of_getElem? (i := 110) (by decide +kernel), List.mem_of_getElem? (i := 484) (by decide +kernel), List.mem_of_getElem? (i := 485) (by decide +kernel)⟩
theorem lw_p10 : lw_okq (⟨"SummerWall$Tape", "readDigit", "(I)I"⟩, 13) := ⟨⟨by decide +kernel, by decide +kernel⟩, List.mem_of_getElem? (i := 110) (by decide +kernel), List.mem_of_getElem? (i := 491) (by decide +kernel), List.mem_of_getElem? (i := 492) (by decide +kernel)⟩
theorem lw_p11 : lw_okq (⟨"SummerWall$Tape", "readHindrances", "()Z"⟩, 13) := ⟨⟨by decide +kernel, by decide +kernel⟩, List.mem_of_getElem? (i := 110) (by decide +kernel), List.mem_of_getElem? (i := 495) (by decide +kernel), List.mem_of_getElem? (i := 496) (by decide +kernel)⟩
theorem lw_p12 : lw_okq (⟨"SummerWall$Tape", "readHindrance", "()Z"⟩, 13) := ⟨⟨by decide +kernel, by decide +kernel⟩, List.mem_of_getElem? (i := 110) (by decide +kernel), List.mem_of_getElem? (i := 499) (by decide +kernel), List.mem_of_getElem? (i := 500) (by decide +kernel)⟩
theorem lw_p13 : lw_okq (⟨"SummerWall$Foretold", "look", "(LSummerWall$Site;III)V"⟩, 16) := ⟨⟨by decide +kernel, by decide +kernel⟩, List.mem_of_getElem? (i := 168) (by decide +kernel), List.mem_of_getElem? (i := 602) (by decide +kernel), List.mem_of_getElem? (i := 603) (by decide +kernel)⟩
theorem lw_p14 : lw_okq (⟨"SummerWall$Foretold", "reckonLays", "(LSummerWall$Site;II)V"⟩, 16) := ⟨⟨by decide +kernel, by decide +kernel⟩, List.mem_of_getElem? (i := 168) (by decide +kernel), List.mem_of_getElem? (i := 606) (by decide +kernel), List.mem_of_getElem? (i := 607) (by decide +kernel)⟩
theorem lw_p15 : lw_okq (⟨"SummerWall$Foretold", "fillBehind", "([II)V"⟩, 16) := ⟨⟨by decide +kernel, by decide +kernel⟩, List.mem_of_getElem? (i := 168) (by decide +kernel), List.mem_of_getElem? (i := 611) (by decide +kernel), List.mem_of_getElem? (i := 612) (by decide +kernel)⟩
def lw_privs_1 : List (MethodName × Nat) := [(⟨"SummerWall", "changeStones", "(I)I"⟩, 6), (⟨"SummerWall", "changeDays", "(I)I"⟩, 6), (⟨"SummerWall", "changeFrost", "(I)I"⟩, 6), (⟨"SummerWall", "changeThaw", "(I)I"⟩, 6), (⟨"SummerWall$Tape", "readNumber", "(I)I"⟩, 13), (⟨"SummerWall$Tape", "next", "()C"⟩, 13), (⟨"SummerWall$Tape", "failAt", "(I)Z"⟩, 13), (⟨"SummerWall$Tape", "readSign", "(C)Z"⟩, 13), (⟨"SummerWall$Tape", "readBuilders", "()Z"⟩, 13), (⟨"SummerWall$Tape", "readBuilder", "()Z"⟩, 13), (⟨"SummerWall$Tape", "readDigit", "(I)I"⟩, 13), (⟨"SummerWall$Tape", "readHindrances", "()Z"⟩, 13), (⟨"SummerWall$Tape", "readHindrance", "()Z"⟩, 13), (⟨"SummerWall$Foretold", "look", "(LSummerWall$Site;III)V"⟩, 16), (⟨"SummerWall$Foretold", "reckonLays", "(LSummerWall$Site;II)V"⟩, 16), (⟨"SummerWall$Foretold", "fillBehind", "([II)V"⟩, 16)]
theorem lw_r1 : ∀ q ∈ lw_privs_1, lw_okq q := List.forall_mem_cons.mpr ⟨lw_p0, List.forall_mem_cons.mpr ⟨lw_p1, List.forall_mem_cons.mpr ⟨lw_p2, List.forall_mem_cons.mpr ⟨lw_p3, List.forall_mem_cons.mpr ⟨lw_p4, List.forall_mem_cons.mpr ⟨lw_p5, List.forall_mem_cons.mpr ⟨lw_p6, List.forall_mem_cons.mpr ⟨lw_p7, List.forall_mem_cons.mpr ⟨lw_p8, List.forall_mem_cons.mpr ⟨lw_p9, List.forall_mem_cons.mpr ⟨lw_p10, List.forall_mem_cons.mpr ⟨lw_p11, List.forall_mem_cons.mpr ⟨lw_p12, List.forall_mem_cons.mpr ⟨lw_p13, List.forall_mem_cons.mpr ⟨lw_p14, List.forall_mem_cons.mpr ⟨lw_p15, fun _ h => absurd h List.not_mem_nil⟩⟩⟩⟩⟩⟩⟩⟩⟩⟩⟩⟩⟩⟩⟩⟩
theorem lw_p16 : lw_okq (⟨"SummerWall$Foretold", "laidBehind", "(III)I"⟩, 16) := ⟨⟨by decide +kernel, by decide +kernel⟩, List.mem_of_getElem? (i := 168) (by decide +kernel), List.mem_of_getElem? (i := 615) (by decide +kernel), List.mem_of_getElem? (i := 616) (by decide +kernel)⟩
theorem lw_p17 : lw_okq (⟨"SummerWall$Foretold", "goBackToTomorrow", "()V"⟩, 16) := ⟨⟨by decide +kernel, by decide +kernel⟩, List.mem_of_getElem? (i := 168) (by decide +kernel), List.mem_of_getElem? (i := 620) (by decide +kernel), List.mem_of_getElem? (i := 621) (by decide +kernel)⟩
theorem lw_p18 : lw_okq (⟨"SummerWall$Foretold", "startAtSummer", "()V"⟩, 16) := ⟨⟨by decide +kernel, by decide +kernel⟩, List.mem_of_getElem? (i := 168) (by decide +kernel), List.mem_of_getElem? (i := 624) (by decide +kernel), List.mem_of_getElem? (i := 625) (by decide +kernel)⟩
theorem lw_p19 : lw_okq (⟨"SummerWall$Foretold", "stepBack", "([I[II)V"⟩, 16) := ⟨⟨by decide +kernel, by decide +kernel⟩, List.mem_of_getElem? (i := 168) (by decide +kernel), List.mem_of_getElem? (i := 629) (by decide +kernel), List.mem_of_getElem? (i := 630) (by decide +kernel)⟩
theorem lw_p20 : lw_okq (⟨"SummerWall$Foretold", "oddsToday", "([II)I"⟩, 16) := ⟨⟨by decide +kernel, by decide +kernel⟩, List.mem_of_getElem? (i := 168) (by decide +kernel), List.mem_of_getElem? (i := 633) (by decide +kernel), List.mem_of_getElem? (i := 634) (by decide +kernel)⟩
theorem lw_p21 : lw_okq (⟨"SummerWall$Foretold", "oddsIfHindered", "(I)I"⟩, 16) := ⟨⟨by decide +kernel, by decide +kernel⟩, List.mem_of_getElem? (i := 168) (by decide +kernel), List.mem_of_getElem? (i := 687) (by decide +kernel), List.mem_of_getElem? (i := 688) (by decide +kernel)⟩
theorem lw_p22 : lw_okq (⟨"SummerWall$Foretold", "spread", "(I)V"⟩, 16) := ⟨⟨by decide +kernel, by decide +kernel⟩, List.mem_of_getElem? (i := 168) (by decide +kernel), List.mem_of_getElem? (i := 705) (by decide +kernel), List.mem_of_getElem? (i := 706) (by decide +kernel)⟩
theorem lw_p23 : lw_okq (⟨"SummerWall", "weatherOf", "([JIII)I"⟩, 6) := ⟨⟨by decide +kernel, by decide +kernel⟩, List.mem_of_getElem? (i := 16) (by decide +kernel), List.mem_of_getElem? (i := 742) (by decide +kernel), List.mem_of_getElem? (i := 743) (by decide +kernel)⟩
theorem lw_p24 : lw_okq (⟨"SummerWall", "fittingWeathers", "(IJI)I"⟩, 6) := ⟨⟨by decide +kernel, by decide +kernel⟩, List.mem_of_getElem? (i := 16) (by decide +kernel), List.mem_of_getElem? (i := 746) (by decide +kernel), List.mem_of_getElem? (i := 747) (by decide +kernel)⟩
theorem lw_p25 : lw_okq (⟨"SummerWall$Sheet", "cut", "(J)J"⟩, 4) := ⟨⟨by decide +kernel, by decide +kernel⟩, List.mem_of_getElem? (i := 226) (by decide +kernel), List.mem_of_getElem? (i := 759) (by decide +kernel), List.mem_of_getElem? (i := 760) (by decide +kernel)⟩
theorem lw_p26 : lw_okq (⟨"SummerWallModel", "isBuilder", "(I)Z"⟩, 20) := ⟨⟨by decide +kernel, by decide +kernel⟩, List.mem_of_getElem? (i := 785) (by decide +kernel), List.mem_of_getElem? (i := 865) (by decide +kernel), List.mem_of_getElem? (i := 866) (by decide +kernel)⟩
theorem lw_p27 : lw_okq (⟨"SummerWallModel", "haulsOf", "(II)I"⟩, 20) := ⟨⟨by decide +kernel, by decide +kernel⟩, List.mem_of_getElem? (i := 785) (by decide +kernel), List.mem_of_getElem? (i := 870) (by decide +kernel), List.mem_of_getElem? (i := 871) (by decide +kernel)⟩
theorem lw_p28 : lw_okq (⟨"SummerWallModel", "laysOf", "(III)I"⟩, 20) := ⟨⟨by decide +kernel, by decide +kernel⟩, List.mem_of_getElem? (i := 785) (by decide +kernel), List.mem_of_getElem? (i := 874) (by decide +kernel), List.mem_of_getElem? (i := 875) (by decide +kernel)⟩
theorem lw_p29 : lw_okq (⟨"SummerWallModel", "number", "(II)I"⟩, 20) := ⟨⟨by decide +kernel, by decide +kernel⟩, List.mem_of_getElem? (i := 785) (by decide +kernel), List.mem_of_getElem? (i := 909) (by decide +kernel), List.mem_of_getElem? (i := 910) (by decide +kernel)⟩
theorem lw_p30 : lw_okq (⟨"SummerWallModel", "here", "()I"⟩, 20) := ⟨⟨by decide +kernel, by decide +kernel⟩, List.mem_of_getElem? (i := 785) (by decide +kernel), List.mem_of_getElem? (i := 913) (by decide +kernel), List.mem_of_getElem? (i := 914) (by decide +kernel)⟩
theorem lw_p31 : lw_okq (⟨"SummerWallModel", "must", "(Z)V"⟩, 20) := ⟨⟨by decide +kernel, by decide +kernel⟩, List.mem_of_getElem? (i := 785) (by decide +kernel), List.mem_of_getElem? (i := 919) (by decide +kernel), List.mem_of_getElem? (i := 920) (by decide +kernel)⟩
def lw_privs_2 : List (MethodName × Nat) := [(⟨"SummerWall$Foretold", "laidBehind", "(III)I"⟩, 16), (⟨"SummerWall$Foretold", "goBackToTomorrow", "()V"⟩, 16), (⟨"SummerWall$Foretold", "startAtSummer", "()V"⟩, 16), (⟨"SummerWall$Foretold", "stepBack", "([I[II)V"⟩, 16), (⟨"SummerWall$Foretold", "oddsToday", "([II)I"⟩, 16), (⟨"SummerWall$Foretold", "oddsIfHindered", "(I)I"⟩, 16), (⟨"SummerWall$Foretold", "spread", "(I)V"⟩, 16), (⟨"SummerWall", "weatherOf", "([JIII)I"⟩, 6), (⟨"SummerWall", "fittingWeathers", "(IJI)I"⟩, 6), (⟨"SummerWall$Sheet", "cut", "(J)J"⟩, 4), (⟨"SummerWallModel", "isBuilder", "(I)Z"⟩, 20), (⟨"SummerWallModel", "haulsOf", "(II)I"⟩, 20), (⟨"SummerWallModel", "laysOf", "(III)I"⟩, 20), (⟨"SummerWallModel", "number", "(II)I"⟩, 20), (⟨"SummerWallModel", "here", "()I"⟩, 20), (⟨"SummerWallModel", "must", "(Z)V"⟩, 20)]
theorem lw_r2 : ∀ q ∈ lw_privs_2, lw_okq q := List.forall_mem_cons.mpr ⟨lw_p16, List.forall_mem_cons.mpr ⟨lw_p17, List.forall_mem_cons.mpr ⟨lw_p18, List.forall_mem_cons.mpr ⟨lw_p19, List.forall_mem_cons.mpr ⟨lw_p20, List.forall_mem_cons.mpr ⟨lw_p21, List.forall_mem_cons.mpr ⟨lw_p22, List.forall_mem_cons.mpr ⟨lw_p23, List.forall_mem_cons.mpr ⟨lw_p24, List.forall_mem_cons.mpr ⟨lw_p25, List.forall_mem_cons.mpr ⟨lw_p26, List.forall_mem_cons.mpr ⟨lw_p27, List.forall_mem_cons.mpr ⟨lw_p28, List.forall_mem_cons.mpr ⟨lw_p29, List.forall_mem_cons.mpr ⟨lw_p30, List.forall_mem_cons.mpr ⟨lw_p31, fun _ h => absurd h List.not_mem_nil⟩⟩⟩⟩⟩⟩⟩⟩⟩⟩⟩⟩⟩⟩⟩⟩
theorem lw_p32 : lw_okq (⟨"SummerWallModel", "takes", "(I)V"⟩, 20) := ⟨⟨by decide +kernel, by decide +kernel⟩, List.mem_of_getElem? (i := 785) (by decide +kernel), List.mem_of_getElem? (i := 923) (by decide +kernel), List.mem_of_getElem? (i := 924) (by decide +kernel)⟩
theorem lw_p33 : lw_okq (⟨"SummerWallModel", "readBuilders", "()I"⟩, 20) := ⟨⟨by decide +kernel, by decide +kernel⟩, List.mem_of_getElem? (i := 785) (by decide +kernel), List.mem_of_getElem? (i := 927) (by decide +kernel), List.mem_of_getElem? (i := 928) (by decide +kernel)⟩
theorem lw_p34 : lw_okq (⟨"SummerWallModel", "digit", "(II)I"⟩, 20) := ⟨⟨by decide +kernel, by decide +kernel⟩, List.mem_of_getElem? (i := 785) (by decide +kernel), List.mem_of_getElem? (i := 931) (by decide +kernel), List.mem_of_getElem? (i := 932) (by decide +kernel)⟩
theorem lw_p35 : lw_okq (⟨"SummerWallModel", "readHindrances", "()I"⟩, 20) := ⟨⟨by decide +kernel, by decide +kernel⟩, List.mem_of_getElem? (i := 785) (by decide +kernel), List.mem_of_getElem? (i := 935) (by decide +kernel), List.mem_of_getElem? (i := 936) (by decide +kernel)⟩
theorem lw_p36 : lw_okq (⟨"SummerWallModel", "isSummer", "()Z"⟩, 20) := ⟨⟨by decide +kernel, by decide +kernel⟩, List.mem_of_getElem? (i := 785) (by decide +kernel), List.mem_of_getElem? (i := 949) (by decide +kernel), List.mem_of_getElem? (i := 950) (by decide +kernel)⟩
theorem lw_p37 : lw_okq (⟨"SummerWallModel", "notes", "()V"⟩, 20) := ⟨⟨by decide +kernel, by decide +kernel⟩, List.mem_of_getElem? (i := 785) (by decide +kernel), List.mem_of_getElem? (i := 953) (by decide +kernel), List.mem_of_getElem? (i := 954) (by decide +kernel)⟩
theorem lw_p38 : lw_okq (⟨"SummerWallModel", "goesBy", "(I)I"⟩, 20) := ⟨⟨by decide +kernel, by decide +kernel⟩, List.mem_of_getElem? (i := 785) (by decide +kernel), List.mem_of_getElem? (i := 957) (by decide +kernel), List.mem_of_getElem? (i := 958) (by decide +kernel)⟩
theorem lw_p39 : lw_okq (⟨"SummerWallModel", "behind", "(III)I"⟩, 20) := ⟨⟨by decide +kernel, by decide +kernel⟩, List.mem_of_getElem? (i := 785) (by decide +kernel), List.mem_of_getElem? (i := 961) (by decide +kernel), List.mem_of_getElem? (i := 962) (by decide +kernel)⟩
theorem lw_p40 : lw_okq (⟨"SummerWallModel", "isHindrance", "(I)Z"⟩, 20) := ⟨⟨by decide +kernel, by decide +kernel⟩, List.mem_of_getElem? (i := 785) (by decide +kernel), List.mem_of_getElem? (i := 969) (by decide +kernel), List.mem_of_getElem? (i := 970) (by decide +kernel)⟩
theorem lw_p41 : lw_okq (⟨"SummerWallModel", "isUsed", "(I)Z"⟩, 20) := ⟨⟨by decide +kernel, by decide +kernel⟩, List.mem_of_getElem? (i := 785) (by decide +kernel), List.mem_of_getElem? (i := 973) (by decide +kernel), List.mem_of_getElem? (i := 974) (by decide +kernel)⟩
theorem lw_p42 : lw_okq (⟨"SummerWallModel", "costOf", "(I)I"⟩, 20) := ⟨⟨by decide +kernel, by decide +kernel⟩, List.mem_of_getElem? (i := 785) (by decide +kernel), List.mem_of_getElem? (i := 977) (by decide +kernel), List.mem_of_getElem? (i := 978) (by decide +kernel)⟩
theorem lw_p43 : lw_okq (⟨"SummerWallModel", "breaks", "(I)Z"⟩, 20) := ⟨⟨by decide +kernel, by decide +kernel⟩, List.mem_of_getElem? (i := 785) (by decide +kernel), List.mem_of_getElem? (i := 981) (by decide +kernel), List.mem_of_getElem? (i := 982) (by decide +kernel)⟩
theorem lw_p44 : lw_okq (⟨"SummerWallModel", "oathOf", "(I)I"⟩, 20) := ⟨⟨by decide +kernel, by decide +kernel⟩, List.mem_of_getElem? (i := 785) (by decide +kernel), List.mem_of_getElem? (i := 985) (by decide +kernel), List.mem_of_getElem? (i := 986) (by decide +kernel)⟩
theorem lw_p45 : lw_okq (⟨"SummerWallModel", "oddsBy", "(II)I"⟩, 20) := ⟨⟨by decide +kernel, by decide +kernel⟩, List.mem_of_getElem? (i := 785) (by decide +kernel), List.mem_of_getElem? (i := 1009) (by decide +kernel), List.mem_of_getElem? (i := 1010) (by decide +kernel)⟩
theorem lw_p46 : lw_okq (⟨"SummerWallModel", "fills", "(IIIII)V"⟩, 20) := ⟨⟨by decide +kernel, by decide +kernel⟩, List.mem_of_getElem? (i := 785) (by decide +kernel), List.mem_of_getElem? (i := 1013) (by decide +kernel), List.mem_of_getElem? (i := 1014) (by decide +kernel)⟩
theorem lw_p47 : lw_okq (⟨"SummerWallModel", "mixed", "(III)I"⟩, 20) := ⟨⟨by decide +kernel, by decide +kernel⟩, List.mem_of_getElem? (i := 785) (by decide +kernel), List.mem_of_getElem? (i := 1018) (by decide +kernel), List.mem_of_getElem? (i := 1019) (by decide +kernel)⟩
def lw_privs_3 : List (MethodName × Nat) := [(⟨"SummerWallModel", "takes", "(I)V"⟩, 20), (⟨"SummerWallModel", "readBuilders", "()I"⟩, 20), (⟨"SummerWallModel", "digit", "(II)I"⟩, 20), (⟨"SummerWallModel", "readHindrances", "()I"⟩, 20), (⟨"SummerWallModel", "isSummer", "()Z"⟩, 20), (⟨"SummerWallModel", "notes", "()V"⟩, 20), (⟨"SummerWallModel", "goesBy", "(I)I"⟩, 20), (⟨"SummerWallModel", "behind", "(III)I"⟩, 20), (⟨"SummerWallModel", "isHindrance", "(I)Z"⟩, 20), (⟨"SummerWallModel", "isUsed", "(I)Z"⟩, 20), (⟨"SummerWallModel", "costOf", "(I)I"⟩, 20), (⟨"SummerWallModel", "breaks", "(I)Z"⟩, 20), (⟨"SummerWallModel", "oathOf", "(I)I"⟩, 20), (⟨"SummerWallModel", "oddsBy", "(II)I"⟩, 20), (⟨"SummerWallModel", "fills", "(IIIII)V"⟩, 20), (⟨"SummerWallModel", "mixed", "(III)I"⟩, 20)]
theorem lw_r3 : ∀ q ∈ lw_privs_3, lw_okq q := List.forall_mem_cons.mpr ⟨lw_p32, List.forall_mem_cons.mpr ⟨lw_p33, List.forall_mem_cons.mpr ⟨lw_p34, List.forall_mem_cons.mpr ⟨lw_p35, List.forall_mem_cons.mpr ⟨lw_p36, List.forall_mem_cons.mpr ⟨lw_p37, List.forall_mem_cons.mpr ⟨lw_p38, List.forall_mem_cons.mpr ⟨lw_p39, List.forall_mem_cons.mpr ⟨lw_p40, List.forall_mem_cons.mpr ⟨lw_p41, List.forall_mem_cons.mpr ⟨lw_p42, List.forall_mem_cons.mpr ⟨lw_p43, List.forall_mem_cons.mpr ⟨lw_p44, List.forall_mem_cons.mpr ⟨lw_p45, List.forall_mem_cons.mpr ⟨lw_p46, List.forall_mem_cons.mpr ⟨lw_p47, fun _ h => absurd h List.not_mem_nil⟩⟩⟩⟩⟩⟩⟩⟩⟩⟩⟩⟩⟩⟩⟩⟩
theorem lw_p48 : lw_okq (⟨"SummerWallModel", "shares", "(I)V"⟩, 20) := ⟨⟨by decide +kernel, by decide +kernel⟩, List.mem_of_getElem? (i := 785) (by decide +kernel), List.mem_of_getElem? (i := 1058) (by decide +kernel), List.mem_of_getElem? (i := 1059) (by decide +kernel)⟩
theorem lw_p49 : lw_okq (⟨"SummerWallModel", "why", "(IIII)I"⟩, 20) := ⟨⟨by decide +kernel, by decide +kernel⟩, List.mem_of_getElem? (i := 785) (by decide +kernel), List.mem_of_getElem? (i := 1082) (by decide +kernel), List.mem_of_getElem? (i := 1083) (by decide +kernel)⟩
def lw_privs_4 : List (MethodName × Nat) := [(⟨"SummerWallModel", "shares", "(I)V"⟩, 20), (⟨"SummerWallModel", "why", "(IIII)I"⟩, 20)]
theorem lw_r4 : ∀ q ∈ lw_privs_4, lw_okq q := List.forall_mem_cons.mpr ⟨lw_p48, List.forall_mem_cons.mpr ⟨lw_p49, fun _ h => absurd h List.not_mem_nil⟩⟩
def lw_privs : List (MethodName × Nat) := lw_privs_1 ++ (lw_privs_2 ++ (lw_privs_3 ++ (lw_privs_4)))
def lw_tbl : List Cond := k2_sels lw_privs ++ tables_1
theorem lw_privs_ok : ∀ q ∈ lw_privs, lw_okq q := by
  show ∀ q ∈ lw_privs_1 ++ (lw_privs_2 ++ (lw_privs_3 ++ (lw_privs_4))), lw_okq q
  exact List.forall_mem_append.mpr ⟨lw_r1, List.forall_mem_append.mpr ⟨lw_r2, List.forall_mem_append.mpr ⟨lw_r3, lw_r4⟩⟩⟩
def RX0 : String := "SummerWall$Blind"
def TX0 : u_T := fun k => match k with
  | 0 => ("SummerWall$Plain", "pace", "I", true)
  | _ => ("SummerWall$Plain", "horse", "I", true)
def tyX0 : Nat → FieldType := fun k => match k with
  | 0 => .int
  | _ => .int
abbrev wsX00 : List Cond := u_ws RX0 TX0 2
theorem nmX0 : ∀ a, a < 2 → ∀ b, b < 2 → a ≠ b → (TX0 a).2.1 ≠ (TX0 b).2.1 := by decide +kernel
theorem tyX0_ok : ∀ k, k < 2 → parseFieldDescriptor (TX0 k).2.2.1 = some (tyX0 k) := by decide +kernel
abbrev cX0_init : ByteArray := prog_2_method_1_code
def yX0_init : MethodName := ⟨RX0, "<init>", "(II)V"⟩
abbrev cX0_kind : ByteArray := prog_2_method_2_code
def yX0_kind : MethodName := ⟨RX0, "kind", "()I"⟩
abbrev cX0_laysInFrost : ByteArray := prog_2_method_3_code
def yX0_laysInFrost : MethodName := ⟨RX0, "laysInFrost", "(I)I"⟩
def RX1 : String := "SummerWall$Foretold"
def TX1 : u_T := fun k => match k with
  | 0 => ("SummerWall$Foretold", "lays", "[I", true)
  | 1 => ("SummerWall$Foretold", "behind", "[I", true)
  | 2 => ("SummerWall$Foretold", "behindHindered", "[I", true)
  | 3 => ("SummerWall$Foretold", "odds", "[I", true)
  | 4 => ("SummerWall$Foretold", "oddsHindered", "[I", true)
  | 5 => ("SummerWall$Foretold", "fairPath", "[I", true)
  | 6 => ("SummerWall$Foretold", "parts", "[I", true)
  | 7 => ("SummerWall$Foretold", "stones", "I", false)
  | 8 => ("SummerWall$Foretold", "days", "I", false)
  | 9 => ("SummerWall$Foretold", "frost", "I", false)
  | 10 => ("SummerWall$Foretold", "thaw", "I", false)
  | 11 => ("SummerWall$Foretold", "day", "I", false)
  | 12 => ("SummerWall$Foretold", "laid", "I", false)
  | 13 => ("SummerWall$Foretold", "cost", "I", false)
  | 14 => ("SummerWall$Foretold", "bestDay", "I", false)
  | _ => ("SummerWall$Foretold", "bestOdds", "I", false)
def tyX1 : Nat → FieldType := fun k => match k with
  | 0 => .array .int
  | 1 => .array .int
  | 2 => .array .int
  | 3 => .array .int
  | 4 => .array .int
  | 5 => .array .int
  | 6 => .array .int
  | 7 => .int
  | 8 => .int
  | 9 => .int
  | 10 => .int
  | 11 => .int
  | 12 => .int
  | 13 => .int
  | 14 => .int
  | _ => .int
abbrev wsX10 : List Cond := u_ws RX1 TX1 16
theorem nmX1 : ∀ a, a < 16 → ∀ b, b < 16 → a ≠ b → (TX1 a).2.1 ≠ (TX1 b).2.1 := by decide +kernel
theorem tyX1_ok : ∀ k, k < 16 → parseFieldDescriptor (TX1 k).2.2.1 = some (tyX1 k) := by decide +kernel
abbrev cX1_init : ByteArray := prog_3_method_1_code
def yX1_init : MethodName := ⟨RX1, "<init>", "()V"⟩
abbrev cX1_oddsNow : ByteArray := prog_3_method_2_code
def yX1_oddsNow : MethodName := ⟨RX1, "oddsNow", "(LSummerWall$Site;II)I"⟩
abbrev cX1_oddsFrom : ByteArray := prog_3_method_3_code
def yX1_oddsFrom : MethodName := ⟨RX1, "oddsFrom", "(LSummerWall$Site;II)I"⟩
abbrev cX1_firstSureDay : ByteArray := prog_3_method_4_code
def yX1_firstSureDay : MethodName := ⟨RX1, "firstSureDay", "(LSummerWall$Site;I)I"⟩
abbrev cX1_fewestHindrances : ByteArray := prog_3_method_5_code
def yX1_fewestHindrances : MethodName := ⟨RX1, "fewestHindrances", "(LSummerWall$Site;I)I"⟩
abbrev cX1_findBestDay : ByteArray := prog_3_method_6_code
def yX1_findBestDay : MethodName := ⟨RX1, "findBestDay", "(LSummerWall$Site;I)V"⟩
abbrev cX1_oddsIfHindered : ByteArray := prog_3_method_7_code
def yX1_oddsIfHindered : MethodName := ⟨RX1, "oddsIfHindered", "(I)I"⟩
abbrev cX1_sumOfLaid : ByteArray := prog_3_method_8_code
def yX1_sumOfLaid : MethodName := ⟨RX1, "sumOfLaid", "(LSummerWall$Site;I)I"⟩
abbrev cX1_spread : ByteArray := prog_3_method_9_code
def yX1_spread : MethodName := ⟨RX1, "spread", "(I)V"⟩
abbrev cX1_look : ByteArray := prog_3_method_10_code
def yX1_look : MethodName := ⟨RX1, "look", "(LSummerWall$Site;III)V"⟩
abbrev cX1_reckonLays : ByteArray := prog_3_method_11_code
def yX1_reckonLays : MethodName := ⟨RX1, "reckonLays", "(LSummerWall$Site;II)V"⟩
abbrev cX1_fillBehind : ByteArray := prog_3_method_12_code
def yX1_fillBehind : MethodName := ⟨RX1, "fillBehind", "([II)V"⟩
abbrev cX1_laidBehind : ByteArray := prog_3_method_13_code
def yX1_laidBehind : MethodName := ⟨RX1, "laidBehind", "(III)I"⟩
abbrev cX1_startAtSummer : ByteArray := prog_3_method_14_code
def yX1_startAtSummer : MethodName := ⟨RX1, "startAtSummer", "()V"⟩
abbrev cX1_goBackToTomorrow : ByteArray := prog_3_method_15_code
def yX1_goBackToTomorrow : MethodName := ⟨RX1, "goBackToTomorrow", "()V"⟩
abbrev cX1_stepBack : ByteArray := prog_3_method_16_code
def yX1_stepBack : MethodName := ⟨RX1, "stepBack", "([I[II)V"⟩
abbrev cX1_oddsToday : ByteArray := prog_3_method_17_code
def yX1_oddsToday : MethodName := ⟨RX1, "oddsToday", "([II)I"⟩
def RX2 : String := "SummerWall$Giant"
def TX2 : u_T := fun k => match k with
  | 0 => ("SummerWall$Plain", "pace", "I", true)
  | _ => ("SummerWall$Plain", "horse", "I", true)
def tyX2 : Nat → FieldType := fun k => match k with
  | 0 => .int
  | _ => .int
abbrev wsX20 : List Cond := u_ws RX2 TX2 2
theorem nmX2 : ∀ a, a < 2 → ∀ b, b < 2 → a ≠ b → (TX2 a).2.1 ≠ (TX2 b).2.1 := by decide +kernel
theorem tyX2_ok : ∀ k, k < 2 → parseFieldDescriptor (TX2 k).2.2.1 = some (tyX2 k) := by decide +kernel
abbrev cX2_init : ByteArray := prog_4_method_1_code
def yX2_init : MethodName := ⟨RX2, "<init>", "(II)V"⟩
abbrev cX2_kind : ByteArray := prog_4_method_2_code
def yX2_kind : MethodName := ⟨RX2, "kind", "()I"⟩
abbrev cX2_hauls : ByteArray := prog_4_method_3_code
def yX2_hauls : MethodName := ⟨RX2, "hauls", "(II)I"⟩
abbrev cX2_laysInThaw : ByteArray := prog_4_method_4_code
def yX2_laysInThaw : MethodName := ⟨RX2, "laysInThaw", "(I)I"⟩
def RX3 : String := "SummerWall$Horsed"
def TX3 : u_T := fun k => match k with
  | 0 => ("SummerWall$Plain", "pace", "I", true)
  | _ => ("SummerWall$Plain", "horse", "I", true)
def tyX3 : Nat → FieldType := fun k => match k with
  | 0 => .int
  | _ => .int
abbrev wsX30 : List Cond := u_ws RX3 TX3 2
theorem nmX3 : ∀ a, a < 2 → ∀ b, b < 2 → a ≠ b → (TX3 a).2.1 ≠ (TX3 b).2.1 := by decide +kernel
theorem tyX3_ok : ∀ k, k < 2 → parseFieldDescriptor (TX3 k).2.2.1 = some (tyX3 k) := by decide +kernel
abbrev cX3_init : ByteArray := prog_5_method_1_code
def yX3_init : MethodName := ⟨RX3, "<init>", "(II)V"⟩
abbrev cX3_kind : ByteArray := prog_5_method_2_code
def yX3_kind : MethodName := ⟨RX3, "kind", "()I"⟩
abbrev cX3_hauls : ByteArray := prog_5_method_3_code
def yX3_hauls : MethodName := ⟨RX3, "hauls", "(II)I"⟩
def RX4 : String := "SummerWall$Paid"
def TX4 : u_T := fun k => match k with
  | 0 => ("SummerWall$Plain", "pace", "I", true)
  | _ => ("SummerWall$Plain", "horse", "I", true)
def tyX4 : Nat → FieldType := fun k => match k with
  | 0 => .int
  | _ => .int
abbrev wsX40 : List Cond := u_ws RX4 TX4 2
theorem nmX4 : ∀ a, a < 2 → ∀ b, b < 2 → a ≠ b → (TX4 a).2.1 ≠ (TX4 b).2.1 := by decide +kernel
theorem tyX4_ok : ∀ k, k < 2 → parseFieldDescriptor (TX4 k).2.2.1 = some (tyX4 k) := by decide +kernel
abbrev cX4_init : ByteArray := prog_6_method_1_code
def yX4_init : MethodName := ⟨RX4, "<init>", "(II)V"⟩
abbrev cX4_kind : ByteArray := prog_6_method_2_code
def yX4_kind : MethodName := ⟨RX4, "kind", "()I"⟩
abbrev cX4_hauls : ByteArray := prog_6_method_3_code
def yX4_hauls : MethodName := ⟨RX4, "hauls", "(II)I"⟩
def RX5 : String := "SummerWall$Plain"
def TX5 : u_T := fun k => match k with
  | 0 => ("SummerWall$Plain", "pace", "I", true)
  | _ => ("SummerWall$Plain", "horse", "I", true)
def tyX5 : Nat → FieldType := fun k => match k with
  | 0 => .int
  | _ => .int
abbrev wsX50 : List Cond := u_ws RX5 TX5 2
theorem nmX5 : ∀ a, a < 2 → ∀ b, b < 2 → a ≠ b → (TX5 a).2.1 ≠ (TX5 b).2.1 := by decide +kernel
theorem tyX5_ok : ∀ k, k < 2 → parseFieldDescriptor (TX5 k).2.2.1 = some (tyX5 k) := by decide +kernel
abbrev cX5_init : ByteArray := prog_7_method_1_code
def yX5_init : MethodName := ⟨RX5, "<init>", "(II)V"⟩
abbrev cX5_ofKind : ByteArray := prog_7_method_2_code
def yX5_ofKind : MethodName := ⟨RX5, "ofKind", "(III)LSummerWall$Plain;"⟩
abbrev cX5_kind : ByteArray := prog_7_method_3_code
def yX5_kind : MethodName := ⟨RX5, "kind", "()I"⟩
abbrev cX5_hauls : ByteArray := prog_7_method_4_code
def yX5_hauls : MethodName := ⟨RX5, "hauls", "(II)I"⟩
abbrev cX5_laysInFrost : ByteArray := prog_7_method_5_code
def yX5_laysInFrost : MethodName := ⟨RX5, "laysInFrost", "(I)I"⟩
abbrev cX5_laysInThaw : ByteArray := prog_7_method_6_code
def yX5_laysInThaw : MethodName := ⟨RX5, "laysInThaw", "(I)I"⟩
abbrev cX5_lays : ByteArray := prog_7_method_7_code
def yX5_lays : MethodName := ⟨RX5, "lays", "(III)I"⟩
def RX6 : String := "SummerWall$Sheet"
def TX6 : u_T := fun k => match k with
  | 0 => ("SummerWall$Sheet", "held", "Z", false)
  | 1 => ("SummerWall$Sheet", "lane", "I", false)
  | 2 => ("SummerWall$Sheet", "size", "I", false)
  | _ => ("SummerWall$Sheet", "items", "[J", true)
def tyX6 : Nat → FieldType := fun k => match k with
  | 0 => .boolean
  | 1 => .int
  | 2 => .int
  | _ => .array .long
abbrev wsX60 : List Cond := u_ws RX6 TX6 4
theorem nmX6 : ∀ a, a < 4 → ∀ b, b < 4 → a ≠ b → (TX6 a).2.1 ≠ (TX6 b).2.1 := by decide +kernel
theorem tyX6_ok : ∀ k, k < 4 → parseFieldDescriptor (TX6 k).2.2.1 = some (tyX6 k) := by decide +kernel
abbrev cX6_init : ByteArray := prog_8_method_1_code
def yX6_init : MethodName := ⟨RX6, "<init>", "()V"⟩
abbrev cX6_renew : ByteArray := prog_8_method_2_code
def yX6_renew : MethodName := ⟨RX6, "renew", "(II)V"⟩
abbrev cX6_find : ByteArray := prog_8_method_3_code
def yX6_find : MethodName := ⟨RX6, "find", "(III)I"⟩
abbrev cX6_has : ByteArray := prog_8_method_4_code
def yX6_has : MethodName := ⟨RX6, "has", "(II)Z"⟩
abbrev cX6_put : ByteArray := prog_8_method_5_code
def yX6_put : MethodName := ⟨RX6, "put", "(IJ)V"⟩
abbrev cX6_cut : ByteArray := prog_8_method_6_code
def yX6_cut : MethodName := ⟨RX6, "cut", "(J)J"⟩
def RX7 : String := "SummerWall$Site"
def TX7 : u_T := fun k => match k with
  | 0 => ("SummerWall$Site", "stones", "I", false)
  | 1 => ("SummerWall$Site", "days", "I", false)
  | 2 => ("SummerWall$Site", "frost", "I", false)
  | 3 => ("SummerWall$Site", "thaw", "I", false)
  | 4 => ("SummerWall$Site", "day", "I", false)
  | 5 => ("SummerWall$Site", "laid", "I", false)
  | 6 => ("SummerWall$Site", "used", "I", false)
  | 7 => ("SummerWall$Site", "usedToday", "I", false)
  | 8 => ("SummerWall$Site", "broken", "I", false)
  | 9 => ("SummerWall$Site", "sworn", "I", false)
  | 10 => ("SummerWall$Site", "draw", "I", false)
  | 11 => ("SummerWall$Site", "builderCount", "I", false)
  | 12 => ("SummerWall$Site", "hindranceCount", "I", false)
  | 13 => ("SummerWall$Site", "pastCount", "I", false)
  | 14 => ("SummerWall$Site", "builders", "[LSummerWall$Plain;", true)
  | 15 => ("SummerWall$Site", "costs", "[I", true)
  | 16 => ("SummerWall$Site", "oaths", "[I", true)
  | _ => ("SummerWall$Site", "past", "[I", true)
def tyX7 : Nat → FieldType := fun k => match k with
  | 0 => .int
  | 1 => .int
  | 2 => .int
  | 3 => .int
  | 4 => .int
  | 5 => .int
  | 6 => .int
  | 7 => .int
  | 8 => .int
  | 9 => .int
  | 10 => .int
  | 11 => .int
  | 12 => .int
  | 13 => .int
  | 14 => .array (.object "SummerWall$Plain")
  | 15 => .array .int
  | 16 => .array .int
  | _ => .array .int
abbrev wsX70 : List Cond := u_ws RX7 TX7 18
theorem nmX7 : ∀ a, a < 18 → ∀ b, b < 18 → a ≠ b → (TX7 a).2.1 ≠ (TX7 b).2.1 := by decide +kernel
theorem tyX7_ok : ∀ k, k < 18 → parseFieldDescriptor (TX7 k).2.2.1 = some (tyX7 k) := by decide +kernel
abbrev cX7_init : ByteArray := prog_9_method_1_code
def yX7_init : MethodName := ⟨RX7, "<init>", "()V"⟩
abbrev cX7_isSummer : ByteArray := prog_9_method_2_code
def yX7_isSummer : MethodName := ⟨RX7, "isSummer", "()Z"⟩
abbrev cX7_isUsed : ByteArray := prog_9_method_3_code
def yX7_isUsed : MethodName := ⟨RX7, "isUsed", "(I)Z"⟩
abbrev cX7_addBuilder : ByteArray := prog_9_method_4_code
def yX7_addBuilder : MethodName := ⟨RX7, "addBuilder", "(III)V"⟩
abbrev cX7_addHindrance : ByteArray := prog_9_method_5_code
def yX7_addHindrance : MethodName := ⟨RX7, "addHindrance", "(II)V"⟩
abbrev cX7_layTogether : ByteArray := prog_9_method_6_code
def yX7_layTogether : MethodName := ⟨RX7, "layTogether", "(IIII)I"⟩
abbrev cX7_laidBehind : ByteArray := prog_9_method_7_code
def yX7_laidBehind : MethodName := ⟨RX7, "laidBehind", "(III)I"⟩
abbrev cX7_costOf : ByteArray := prog_9_method_8_code
def yX7_costOf : MethodName := ⟨RX7, "costOf", "(I)I"⟩
abbrev cX7_costToday : ByteArray := prog_9_method_9_code
def yX7_costToday : MethodName := ⟨RX7, "costToday", "()I"⟩
abbrev cX7_forbidden : ByteArray := prog_9_method_10_code
def yX7_forbidden : MethodName := ⟨RX7, "forbidden", "()I"⟩
abbrev cX7_breaksSworn : ByteArray := prog_9_method_11_code
def yX7_breaksSworn : MethodName := ⟨RX7, "breaksSworn", "(I)Z"⟩
abbrev cX7_hinder : ByteArray := prog_9_method_12_code
def yX7_hinder : MethodName := ⟨RX7, "hinder", "(I)V"⟩
abbrev cX7_pass : ByteArray := prog_9_method_13_code
def yX7_pass : MethodName := ⟨RX7, "pass", "(I)I"⟩
abbrev cX7_drawWeather : ByteArray := prog_9_method_14_code
def yX7_drawWeather : MethodName := ⟨RX7, "drawWeather", "()I"⟩
abbrev cX7_remember : ByteArray := prog_9_method_15_code
def yX7_remember : MethodName := ⟨RX7, "remember", "()V"⟩
abbrev cX7_recall : ByteArray := prog_9_method_16_code
def yX7_recall : MethodName := ⟨RX7, "recall", "()V"⟩
abbrev cX7_begin : ByteArray := prog_9_method_17_code
def yX7_begin : MethodName := ⟨RX7, "begin", "(LSummerWall$Tape;)V"⟩
abbrev cX7_becomes : ByteArray := prog_9_method_18_code
def yX7_becomes : MethodName := ⟨RX7, "becomes", "(LSummerWall$Site;)V"⟩
def RX8 : String := "SummerWall$Tape"
def TX8 : u_T := fun k => match k with
  | 0 => ("SummerWall$Tape", "letters", "[C", true)
  | 1 => ("SummerWall$Tape", "kinds", "[I", true)
  | 2 => ("SummerWall$Tape", "paces", "[I", true)
  | 3 => ("SummerWall$Tape", "horses", "[I", true)
  | 4 => ("SummerWall$Tape", "costs", "[I", true)
  | 5 => ("SummerWall$Tape", "oaths", "[I", true)
  | 6 => ("SummerWall$Tape", "length", "I", false)
  | 7 => ("SummerWall$Tape", "stones", "I", false)
  | 8 => ("SummerWall$Tape", "days", "I", false)
  | 9 => ("SummerWall$Tape", "builderCount", "I", false)
  | 10 => ("SummerWall$Tape", "hindranceCount", "I", false)
  | 11 => ("SummerWall$Tape", "fault", "I", false)
  | _ => ("SummerWall$Tape", "at", "I", false)
def tyX8 : Nat → FieldType := fun k => match k with
  | 0 => .array .char
  | 1 => .array .int
  | 2 => .array .int
  | 3 => .array .int
  | 4 => .array .int
  | 5 => .array .int
  | 6 => .int
  | 7 => .int
  | 8 => .int
  | 9 => .int
  | 10 => .int
  | 11 => .int
  | _ => .int
abbrev wsX80 : List Cond := u_ws RX8 TX8 13
theorem nmX8 : ∀ a, a < 13 → ∀ b, b < 13 → a ≠ b → (TX8 a).2.1 ≠ (TX8 b).2.1 := by decide +kernel
theorem tyX8_ok : ∀ k, k < 13 → parseFieldDescriptor (TX8 k).2.2.1 = some (tyX8 k) := by decide +kernel
abbrev cX8_init : ByteArray := prog_10_method_1_code
def yX8_init : MethodName := ⟨RX8, "<init>", "()V"⟩
abbrev cX8_append : ByteArray := prog_10_method_2_code
def yX8_append : MethodName := ⟨RX8, "append", "(C)V"⟩
abbrev cX8_read : ByteArray := prog_10_method_3_code
def yX8_read : MethodName := ⟨RX8, "read", "()Z"⟩
abbrev cX8_readBuilders : ByteArray := prog_10_method_4_code
def yX8_readBuilders : MethodName := ⟨RX8, "readBuilders", "()Z"⟩
abbrev cX8_readBuilder : ByteArray := prog_10_method_5_code
def yX8_readBuilder : MethodName := ⟨RX8, "readBuilder", "()Z"⟩
abbrev cX8_readHindrances : ByteArray := prog_10_method_6_code
def yX8_readHindrances : MethodName := ⟨RX8, "readHindrances", "()Z"⟩
abbrev cX8_readHindrance : ByteArray := prog_10_method_7_code
def yX8_readHindrance : MethodName := ⟨RX8, "readHindrance", "()Z"⟩
abbrev cX8_readNumber : ByteArray := prog_10_method_8_code
def yX8_readNumber : MethodName := ⟨RX8, "readNumber", "(I)I"⟩
abbrev cX8_readDigit : ByteArray := prog_10_method_9_code
def yX8_readDigit : MethodName := ⟨RX8, "readDigit", "(I)I"⟩
abbrev cX8_readSign : ByteArray := prog_10_method_10_code
def yX8_readSign : MethodName := ⟨RX8, "readSign", "(C)Z"⟩
abbrev cX8_next : ByteArray := prog_10_method_11_code
def yX8_next : MethodName := ⟨RX8, "next", "()C"⟩
abbrev cX8_failAt : ByteArray := prog_10_method_12_code
def yX8_failAt : MethodName := ⟨RX8, "failAt", "(I)Z"⟩
abbrev cX8_isDigit : ByteArray := prog_10_method_13_code
def yX8_isDigit : MethodName := ⟨RX8, "isDigit", "(C)Z"⟩
abbrev cX8_kindOf : ByteArray := prog_10_method_14_code
def yX8_kindOf : MethodName := ⟨RX8, "kindOf", "(C)I"⟩
def RX9 : String := "SummerWall"
def TX9 : u_T := fun k => match k with
  | 0 => ("SummerWall", "now", "LSummerWall$Site;", true)
  | 1 => ("SummerWall", "kept", "LSummerWall$Site;", true)
  | 2 => ("SummerWall", "tape", "LSummerWall$Tape;", true)
  | 3 => ("SummerWall", "foretold", "LSummerWall$Foretold;", true)
  | 4 => ("SummerWall", "sheets", "[LSummerWall$Sheet;", true)
  | _ => ("SummerWall", "imaged", "Z", false)
def tyX9 : Nat → FieldType := fun k => match k with
  | 0 => .object "SummerWall$Site"
  | 1 => .object "SummerWall$Site"
  | 2 => .object "SummerWall$Tape"
  | 3 => .object "SummerWall$Foretold"
  | 4 => .array (.object "SummerWall$Sheet")
  | _ => .boolean
abbrev wsX90 : List Cond := u_ws RX9 TX9 6
theorem nmX9 : ∀ a, a < 6 → ∀ b, b < 6 → a ≠ b → (TX9 a).2.1 ≠ (TX9 b).2.1 := by decide +kernel
theorem tyX9_ok : ∀ k, k < 6 → parseFieldDescriptor (TX9 k).2.2.1 = some (tyX9 k) := by decide +kernel
abbrev cX9_init : ByteArray := prog_1_method_1_code
def yX9_init : MethodName := ⟨RX9, "<init>", "()V"⟩
abbrev cX9_builder : ByteArray := prog_1_method_2_code
def yX9_builder : MethodName := ⟨RX9, "builder", "(III)I"⟩
abbrev cX9_of : ByteArray := prog_1_method_3_code
def yX9_of : MethodName := ⟨RX9, "of", "(II)I"⟩
abbrev cX9_wall : ByteArray := prog_1_method_4_code
def yX9_wall : MethodName := ⟨RX9, "wall", "(II)I"⟩
abbrev cX9_changeStones : ByteArray := prog_1_method_5_code
def yX9_changeStones : MethodName := ⟨RX9, "changeStones", "(I)I"⟩
abbrev cX9_changeDays : ByteArray := prog_1_method_6_code
def yX9_changeDays : MethodName := ⟨RX9, "changeDays", "(I)I"⟩
abbrev cX9_changeFrost : ByteArray := prog_1_method_7_code
def yX9_changeFrost : MethodName := ⟨RX9, "changeFrost", "(I)I"⟩
abbrev cX9_changeThaw : ByteArray := prog_1_method_8_code
def yX9_changeThaw : MethodName := ⟨RX9, "changeThaw", "(I)I"⟩
abbrev cX9_hindrance : ByteArray := prog_1_method_9_code
def yX9_hindrance : MethodName := ⟨RX9, "hindrance", "(II)I"⟩
abbrev cX9_oath : ByteArray := prog_1_method_10_code
def yX9_oath : MethodName := ⟨RX9, "oath", "(II)I"⟩
abbrev cX9_type : ByteArray := prog_1_method_11_code
def yX9_type : MethodName := ⟨RX9, "type", "(I)I"⟩
abbrev cX9_bargain : ByteArray := prog_1_method_12_code
def yX9_bargain : MethodName := ⟨RX9, "bargain", "()I"⟩
abbrev cX9_count : ByteArray := prog_1_method_13_code
def yX9_count : MethodName := ⟨RX9, "count", "(I)I"⟩
abbrev cX9_day : ByteArray := prog_1_method_14_code
def yX9_day : MethodName := ⟨RX9, "day", "(I)I"⟩
abbrev cX9_use : ByteArray := prog_1_method_15_code
def yX9_use : MethodName := ⟨RX9, "use", "(I)I"⟩
abbrev cX9_drift : ByteArray := prog_1_method_16_code
def yX9_drift : MethodName := ⟨RX9, "drift", "(I)I"⟩
abbrev cX9_undo : ByteArray := prog_1_method_17_code
def yX9_undo : MethodName := ⟨RX9, "undo", "()I"⟩
abbrev cX9_seed : ByteArray := prog_1_method_18_code
def yX9_seed : MethodName := ⟨RX9, "seed", "(I)I"⟩
abbrev cX9_odds : ByteArray := prog_1_method_19_code
def yX9_odds : MethodName := ⟨RX9, "odds", "()I"⟩
abbrev cX9_oddsAt : ByteArray := prog_1_method_20_code
def yX9_oddsAt : MethodName := ⟨RX9, "oddsAt", "(II)I"⟩
abbrev cX9_sure : ByteArray := prog_1_method_21_code
def yX9_sure : MethodName := ⟨RX9, "sure", "(I)I"⟩
abbrev cX9_pace : ByteArray := prog_1_method_22_code
def yX9_pace : MethodName := ⟨RX9, "pace", "(II)I"⟩
abbrev cX9_plan : ByteArray := prog_1_method_23_code
def yX9_plan : MethodName := ⟨RX9, "plan", "(II)I"⟩
abbrev cX9_best : ByteArray := prog_1_method_24_code
def yX9_best : MethodName := ⟨RX9, "best", "(II)I"⟩
abbrev cX9_soonest : ByteArray := prog_1_method_25_code
def yX9_soonest : MethodName := ⟨RX9, "soonest", "(I)I"⟩
abbrev cX9_mean : ByteArray := prog_1_method_26_code
def yX9_mean : MethodName := ⟨RX9, "mean", "(II)I"⟩
abbrev cX9_image : ByteArray := prog_1_method_27_code
def yX9_image : MethodName := ⟨RX9, "image", "()I"⟩
abbrev cX9_restore : ByteArray := prog_1_method_28_code
def yX9_restore : MethodName := ⟨RX9, "restore", "()I"⟩
abbrev cX9_weather : ByteArray := prog_1_method_29_code
def yX9_weather : MethodName := ⟨RX9, "weather", "(IIIII)I"⟩
abbrev cX9_weatherOf : ByteArray := prog_1_method_30_code
def yX9_weatherOf : MethodName := ⟨RX9, "weatherOf", "([JIII)I"⟩
abbrev cX9_fittingWeathers : ByteArray := prog_1_method_31_code
def yX9_fittingWeathers : MethodName := ⟨RX9, "fittingWeathers", "(IJI)I"⟩
abbrev cX9_film : ByteArray := prog_1_method_32_code
def yX9_film : MethodName := ⟨RX9, "film", "(IIIII)I"⟩
abbrev cX9_sheet : ByteArray := prog_1_method_33_code
def yX9_sheet : MethodName := ⟨RX9, "sheet", "(III)I"⟩
abbrev cX9_drop : ByteArray := prog_1_method_34_code
def yX9_drop : MethodName := ⟨RX9, "drop", "(I)I"⟩
abbrev cX9_item : ByteArray := prog_1_method_35_code
def yX9_item : MethodName := ⟨RX9, "item", "(IIIJ)I"⟩
abbrev cX9_copy : ByteArray := prog_1_method_36_code
def yX9_copy : MethodName := ⟨RX9, "copy", "(IIIII)I"⟩
abbrev cX9_within : ByteArray := prog_1_method_37_code
def yX9_within : MethodName := ⟨RX9, "within", "(III)Z"⟩
abbrev cX9_isSheet : ByteArray := prog_1_method_38_code
def yX9_isSheet : MethodName := ⟨RX9, "isSheet", "(I)Z"⟩
abbrev cX9_isLane : ByteArray := prog_1_method_39_code
def yX9_isLane : MethodName := ⟨RX9, "isLane", "(I)Z"⟩
abbrev cX9_commonDivisor : ByteArray := prog_1_method_40_code
def yX9_commonDivisor : MethodName := ⟨RX9, "commonDivisor", "(II)I"⟩
def RX10 : String := "SummerWallModel"
def TX10 : u_T := fun k => match k with
  | 0 => ("SummerWallModel", "now", "[I", true)
  | 1 => ("SummerWallModel", "faster", "I", false)
  | 2 => ("SummerWallModel", "by", "I", false)
  | 3 => ("SummerWallModel", "tape", "[I", true)
  | 4 => ("SummerWallModel", "typed", "I", false)
  | 5 => ("SummerWallModel", "place", "I", false)
  | 6 => ("SummerWallModel", "isFault", "Z", false)
  | 7 => ("SummerWallModel", "read", "[I", true)
  | 8 => ("SummerWallModel", "undone", "[I", true)
  | 9 => ("SummerWallModel", "undos", "I", false)
  | 10 => ("SummerWallModel", "chances", "[I", true)
  | 11 => ("SummerWallModel", "parts", "[I", true)
  | 12 => ("SummerWallModel", "nexts", "[I", true)
  | 13 => ("SummerWallModel", "kept", "[I", true)
  | 14 => ("SummerWallModel", "keptUndos", "I", false)
  | 15 => ("SummerWallModel", "isKept", "Z", false)
  | 16 => ("SummerWallModel", "lanes", "[I", true)
  | 17 => ("SummerWallModel", "sizes", "[I", true)
  | 18 => ("SummerWallModel", "items", "[J", true)
  | _ => ("SummerWallModel", "moved", "[J", true)
def tyX10 : Nat → FieldType := fun k => match k with
  | 0 => .array .int
  | 1 => .int
  | 2 => .int
  | 3 => .array .int
  | 4 => .int
  | 5 => .int
  | 6 => .boolean
  | 7 => .array .int
  | 8 => .array .int
  | 9 => .int
  | 10 => .array .int
  | 11 => .array .int
  | 12 => .array .int
  | 13 => .array .int
  | 14 => .int
  | 15 => .boolean
  | 16 => .array .int
  | 17 => .array .int
  | 18 => .array .long
  | _ => .array .long
abbrev wsX100 : List Cond := u_ws RX10 TX10 20
theorem nmX10 : ∀ a, a < 20 → ∀ b, b < 20 → a ≠ b → (TX10 a).2.1 ≠ (TX10 b).2.1 := by decide +kernel
theorem tyX10_ok : ∀ k, k < 20 → parseFieldDescriptor (TX10 k).2.2.1 = some (tyX10 k) := by decide +kernel
abbrev cX10_in : ByteArray := prog_12_method_2_code
def yX10_in : MethodName := ⟨RX10, "in", "(JJJ)Z"⟩
abbrev cX10_init : ByteArray := prog_12_method_3_code
def yX10_init : MethodName := ⟨RX10, "<init>", "()V"⟩
abbrev cX10_isBuilder : ByteArray := prog_12_method_4_code
def yX10_isBuilder : MethodName := ⟨RX10, "isBuilder", "(I)Z"⟩
abbrev cX10_isHindrance : ByteArray := prog_12_method_5_code
def yX10_isHindrance : MethodName := ⟨RX10, "isHindrance", "(I)Z"⟩
abbrev cX10_isWeather : ByteArray := prog_12_method_6_code
def yX10_isWeather : MethodName := ⟨RX10, "isWeather", "(I)Z"⟩
abbrev cX10_haulsOf : ByteArray := prog_12_method_7_code
def yX10_haulsOf : MethodName := ⟨RX10, "haulsOf", "(II)I"⟩
abbrev cX10_laysOf : ByteArray := prog_12_method_8_code
def yX10_laysOf : MethodName := ⟨RX10, "laysOf", "(III)I"⟩
abbrev cX10_behind : ByteArray := prog_12_method_9_code
def yX10_behind : MethodName := ⟨RX10, "behind", "(III)I"⟩
abbrev cX10_builder : ByteArray := prog_12_method_10_code
def yX10_builder : MethodName := ⟨RX10, "builder", "(III)I"⟩
abbrev cX10_of : ByteArray := prog_12_method_11_code
def yX10_of : MethodName := ⟨RX10, "of", "(II)I"⟩
abbrev cX10_wall : ByteArray := prog_12_method_12_code
def yX10_wall : MethodName := ⟨RX10, "wall", "(II)I"⟩
abbrev cX10_hindrance : ByteArray := prog_12_method_13_code
def yX10_hindrance : MethodName := ⟨RX10, "hindrance", "(II)I"⟩
abbrev cX10_oath : ByteArray := prog_12_method_14_code
def yX10_oath : MethodName := ⟨RX10, "oath", "(II)I"⟩
abbrev cX10_count : ByteArray := prog_12_method_15_code
def yX10_count : MethodName := ⟨RX10, "count", "(I)I"⟩
abbrev cX10_type : ByteArray := prog_12_method_16_code
def yX10_type : MethodName := ⟨RX10, "type", "(I)I"⟩
abbrev cX10_here : ByteArray := prog_12_method_17_code
def yX10_here : MethodName := ⟨RX10, "here", "()I"⟩
abbrev cX10_must : ByteArray := prog_12_method_18_code
def yX10_must : MethodName := ⟨RX10, "must", "(Z)V"⟩
abbrev cX10_takes : ByteArray := prog_12_method_19_code
def yX10_takes : MethodName := ⟨RX10, "takes", "(I)V"⟩
abbrev cX10_digit : ByteArray := prog_12_method_20_code
def yX10_digit : MethodName := ⟨RX10, "digit", "(II)I"⟩
abbrev cX10_number : ByteArray := prog_12_method_21_code
def yX10_number : MethodName := ⟨RX10, "number", "(II)I"⟩
abbrev cX10_readBuilders : ByteArray := prog_12_method_22_code
def yX10_readBuilders : MethodName := ⟨RX10, "readBuilders", "()I"⟩
abbrev cX10_readHindrances : ByteArray := prog_12_method_23_code
def yX10_readHindrances : MethodName := ⟨RX10, "readHindrances", "()I"⟩
abbrev cX10_bargain : ByteArray := prog_12_method_24_code
def yX10_bargain : MethodName := ⟨RX10, "bargain", "()I"⟩
abbrev cX10_notes : ByteArray := prog_12_method_25_code
def yX10_notes : MethodName := ⟨RX10, "notes", "()V"⟩
abbrev cX10_isSummer : ByteArray := prog_12_method_26_code
def yX10_isSummer : MethodName := ⟨RX10, "isSummer", "()Z"⟩
abbrev cX10_goesBy : ByteArray := prog_12_method_27_code
def yX10_goesBy : MethodName := ⟨RX10, "goesBy", "(I)I"⟩
abbrev cX10_day : ByteArray := prog_12_method_28_code
def yX10_day : MethodName := ⟨RX10, "day", "(I)I"⟩
abbrev cX10_costOf : ByteArray := prog_12_method_29_code
def yX10_costOf : MethodName := ⟨RX10, "costOf", "(I)I"⟩
abbrev cX10_oathOf : ByteArray := prog_12_method_30_code
def yX10_oathOf : MethodName := ⟨RX10, "oathOf", "(I)I"⟩
abbrev cX10_breaks : ByteArray := prog_12_method_31_code
def yX10_breaks : MethodName := ⟨RX10, "breaks", "(I)Z"⟩
abbrev cX10_isUsed : ByteArray := prog_12_method_32_code
def yX10_isUsed : MethodName := ⟨RX10, "isUsed", "(I)Z"⟩
abbrev cX10_use : ByteArray := prog_12_method_33_code
def yX10_use : MethodName := ⟨RX10, "use", "(I)I"⟩
abbrev cX10_drift : ByteArray := prog_12_method_34_code
def yX10_drift : MethodName := ⟨RX10, "drift", "(I)I"⟩
abbrev cX10_undo : ByteArray := prog_12_method_35_code
def yX10_undo : MethodName := ⟨RX10, "undo", "()I"⟩
abbrev cX10_seed : ByteArray := prog_12_method_36_code
def yX10_seed : MethodName := ⟨RX10, "seed", "(I)I"⟩
abbrev cX10_mixed : ByteArray := prog_12_method_37_code
def yX10_mixed : MethodName := ⟨RX10, "mixed", "(III)I"⟩
abbrev cX10_fills : ByteArray := prog_12_method_38_code
def yX10_fills : MethodName := ⟨RX10, "fills", "(IIIII)V"⟩
abbrev cX10_oddsBy : ByteArray := prog_12_method_39_code
def yX10_oddsBy : MethodName := ⟨RX10, "oddsBy", "(II)I"⟩
abbrev cX10_odds : ByteArray := prog_12_method_40_code
def yX10_odds : MethodName := ⟨RX10, "odds", "()I"⟩
abbrev cX10_oddsAt : ByteArray := prog_12_method_41_code
def yX10_oddsAt : MethodName := ⟨RX10, "oddsAt", "(II)I"⟩
abbrev cX10_isPart : ByteArray := prog_12_method_42_code
def yX10_isPart : MethodName := ⟨RX10, "isPart", "(I)Z"⟩
abbrev cX10_sure : ByteArray := prog_12_method_43_code
def yX10_sure : MethodName := ⟨RX10, "sure", "(I)I"⟩
abbrev cX10_pace : ByteArray := prog_12_method_44_code
def yX10_pace : MethodName := ⟨RX10, "pace", "(II)I"⟩
abbrev cX10_many : ByteArray := prog_12_method_45_code
def yX10_many : MethodName := ⟨RX10, "many", "(I)I"⟩
abbrev cX10_plan : ByteArray := prog_12_method_46_code
def yX10_plan : MethodName := ⟨RX10, "plan", "(II)I"⟩
abbrev cX10_best : ByteArray := prog_12_method_47_code
def yX10_best : MethodName := ⟨RX10, "best", "(II)I"⟩
abbrev cX10_soonest : ByteArray := prog_12_method_48_code
def yX10_soonest : MethodName := ⟨RX10, "soonest", "(I)I"⟩
abbrev cX10_shares : ByteArray := prog_12_method_49_code
def yX10_shares : MethodName := ⟨RX10, "shares", "(I)V"⟩
abbrev cX10_mean : ByteArray := prog_12_method_50_code
def yX10_mean : MethodName := ⟨RX10, "mean", "(II)I"⟩
abbrev cX10_image : ByteArray := prog_12_method_51_code
def yX10_image : MethodName := ⟨RX10, "image", "()I"⟩
abbrev cX10_restore : ByteArray := prog_12_method_52_code
def yX10_restore : MethodName := ⟨RX10, "restore", "()I"⟩
abbrev cX10_isSheet : ByteArray := prog_12_method_53_code
def yX10_isSheet : MethodName := ⟨RX10, "isSheet", "(I)Z"⟩
abbrev cX10_isLane : ByteArray := prog_12_method_54_code
def yX10_isLane : MethodName := ⟨RX10, "isLane", "(I)Z"⟩
abbrev cX10_why : ByteArray := prog_12_method_55_code
def yX10_why : MethodName := ⟨RX10, "why", "(IIII)I"⟩
abbrev cX10_weather : ByteArray := prog_12_method_56_code
def yX10_weather : MethodName := ⟨RX10, "weather", "(IIIII)I"⟩
abbrev cX10_film : ByteArray := prog_12_method_57_code
def yX10_film : MethodName := ⟨RX10, "film", "(IIIII)I"⟩
abbrev cX10_sheet : ByteArray := prog_12_method_58_code
def yX10_sheet : MethodName := ⟨RX10, "sheet", "(III)I"⟩
abbrev cX10_drop : ByteArray := prog_12_method_59_code
def yX10_drop : MethodName := ⟨RX10, "drop", "(I)I"⟩
abbrev cX10_item : ByteArray := prog_12_method_60_code
def yX10_item : MethodName := ⟨RX10, "item", "(IIIJ)I"⟩
abbrev cX10_copy : ByteArray := prog_12_method_61_code
def yX10_copy : MethodName := ⟨RX10, "copy", "(IIIII)I"⟩
def RJ6 : String := "java/lang/Integer"
def TJ6 : u_T := fun k => match k with
  | _ => ("", "", "", false)
def tyJ6 : Nat → FieldType := fun k => match k with
  | _ => .int
abbrev wsJ60 : List Cond := u_ws RJ6 TJ6 0
theorem nmJ6 : ∀ a, a < 0 → ∀ b, b < 0 → a ≠ b → (TJ6 a).2.1 ≠ (TJ6 b).2.1 := by decide +kernel
theorem tyJ6_ok : ∀ k, k < 0 → parseFieldDescriptor (TJ6 k).2.2.1 = some (tyJ6 k) := by decide +kernel
abbrev cJ6_bitCount_0f7a4 : ByteArray := prog_13_method_49_code
def yJ6_bitCount_0f7a4 : MethodName := ⟨RJ6, "bitCount", "(I)I"⟩
def RJ9 : String := "java/lang/Math"
def TJ9 : u_T := fun k => match k with
  | _ => ("", "", "", false)
def tyJ9 : Nat → FieldType := fun k => match k with
  | _ => .int
abbrev wsJ90 : List Cond := u_ws RJ9 TJ9 0
theorem nmJ9 : ∀ a, a < 0 → ∀ b, b < 0 → a ≠ b → (TJ9 a).2.1 ≠ (TJ9 b).2.1 := by decide +kernel
theorem tyJ9_ok : ∀ k, k < 0 → parseFieldDescriptor (TJ9 k).2.2.1 = some (tyJ9 k) := by decide +kernel
abbrev cJ9_min_7cf53 : ByteArray := prog_14_method_69_code
def yJ9_min_7cf53 : MethodName := ⟨RJ9, "min", "(II)I"⟩
def RJ10 : String := "java/lang/System"
def TJ10 : u_T := fun k => match k with
  | _ => ("", "", "", false)
def tyJ10 : Nat → FieldType := fun k => match k with
  | _ => .int
abbrev wsJ100 : List Cond := u_ws RJ10 TJ10 0
theorem nmJ10 : ∀ a, a < 0 → ∀ b, b < 0 → a ≠ b → (TJ10 a).2.1 ≠ (TJ10 b).2.1 := by decide +kernel
theorem tyJ10_ok : ∀ k, k < 0 → parseFieldDescriptor (TJ10 k).2.2.1 = some (tyJ10 k) := by decide +kernel
def RL : String := "SummerWallLaw"
abbrev cL_law : ByteArray := code
def yL_law : MethodName := ⟨RL, "law", "([I)Z"⟩
abbrev vwCl : List vw_C := [(RX0, TX0, 2), (RX1, TX1, 16), (RX2, TX2, 2), (RX3, TX3, 2), (RX4, TX4, 2), (RX5, TX5, 2), (RX6, TX6, 4), (RX7, TX7, 18), (RX8, TX8, 13), (RX9, TX9, 6), (RX10, TX10, 20)]
