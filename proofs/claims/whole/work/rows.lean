section
-- ===== PART A: goes FIRST, ahead of the names: the tables' words, and 'selects' of the private methods out of them =====
/-- a private method of a class that the tables say can be made, by its rows of tables_1 -/
def lw_okq (q : MethodName × Nat) : Prop := (q.1.cls ≠ "java/lang/invoke/MethodHandle" ∧ q.1.cls ≠ "java/lang/invoke/VarHandle") ∧ Cond.instantiable q.1.cls q.2 ∈ tables_1 ∧ Cond.privateMethod q.1 ∈ tables_1 ∧ Cond.instanceMethod q.1 ∈ tables_1
theorem lw_p0 : lw_okq (⟨"SummerWall", "changeStones", "(I)I"⟩, 6) := ⟨⟨by decide +kernel, by decide +kernel⟩, List.mem_of_getElem? (i := 16) (by decide +kernel), List.mem_of_getElem? (i := 416) (by decide +kernel), List.mem_of_getElem? (i := 417) (by decide +kernel)⟩
theorem lw_p1 : lw_okq (⟨"SummerWall", "changeDays", "(I)I"⟩, 6) := ⟨⟨by decide +kernel, by decide +kernel⟩, List.mem_of_getElem? (i := 16) (by decide +kernel), List.mem_of_getElem? (i := 420) (by decide +kernel), List.mem_of_getElem? (i := 421) (by decide +kernel)⟩
theorem lw_p2 : lw_okq (⟨"SummerWall", "changeFrost", "(I)I"⟩, 6) := ⟨⟨by decide +kernel, by decide +kernel⟩, List.mem_of_getElem? (i := 16) (by decide +kernel), List.mem_of_getElem? (i := 424) (by decide +kernel), List.mem_of_getElem? (i := 425) (by decide +kernel)⟩
theorem lw_p3 : lw_okq (⟨"SummerWall", "changeThaw", "(I)I"⟩, 6) := ⟨⟨by decide +kernel, by decide +kernel⟩, List.mem_of_getElem? (i := 16) (by decide +kernel), List.mem_of_getElem? (i := 428) (by decide +kernel), List.mem_of_getElem? (i := 429) (by decide +kernel)⟩
theorem lw_p4 : lw_okq (⟨"SummerWall$Tape", "readNumber", "(I)I"⟩, 13) := ⟨⟨by decide +kernel, by decide +kernel⟩, List.mem_of_getElem? (i := 110) (by decide +kernel), List.mem_of_getElem? (i := 460) (by decide +kernel), List.mem_of_getElem? (i := 461) (by decide +kernel)⟩
theorem lw_p5 : lw_okq (⟨"SummerWall$Tape", "next", "()C"⟩, 13) := ⟨⟨by decide +kernel, by decide +kernel⟩, List.mem_of_getElem? (i := 110) (by decide +kernel), List.mem_of_getElem? (i := 464) (by decide +kernel), List.mem_of_getElem? (i := 465) (by decide +kernel)⟩
theorem lw_p6 : lw_okq (⟨"SummerWall$Tape", "failAt", "(I)Z"⟩, 13) := ⟨⟨by decide +kernel, by decide +kernel⟩, List.mem_of_getElem? (i := 110) (by decide +kernel), List.mem_of_getElem? (i := 472) (by decide +kernel), List.mem_of_getElem? (i := 473) (by decide +kernel)⟩
theorem lw_p7 : lw_okq (⟨"SummerWall$Tape", "readSign", "(C)Z"⟩, 13) := ⟨⟨by decide +kernel, by decide +kernel⟩, List.mem_of_getElem? (i := 110) (by decide +kernel), List.mem_of_getElem? (i := 476) (by decide +kernel), List.mem_of_getElem? (i := 477) (by decide +kernel)⟩
theorem lw_p8 : lw_okq (⟨"SummerWall$Tape", "readBuilders", "()Z"⟩, 13) := ⟨⟨by decide +kernel, by decide +kernel⟩, List.mem_of_getElem? (i := 110) (by decide +kernel), List.mem_of_getElem? (i := 480) (by decide +kernel), List.mem_of_getElem? (i := 481) (by decide +kernel)⟩
theorem lw_p9 : lw_okq (⟨"SummerWall$Tape", "readBuilder", "()Z"⟩, 13) := ⟨⟨by decide +kernel, by decide +kernel⟩, List.mem_of_getElem? (i := 110) (by decide +kernel), List.mem_of_getElem? (i := 484) (by decide +kernel), List.mem_of_getElem? (i := 485) (by decide +kernel)⟩
theorem lw_p10 : lw_okq (⟨"SummerWall$Tape", "readDigit", "(I)I"⟩, 13) := ⟨⟨by decide +kernel, by decide +kernel⟩, List.mem_of_getElem? (i := 110) (by decide +kernel), List.mem_of_getElem? (i := 491) (by decide +kernel), List.mem_of_getElem? (i := 492) (by decide +kernel)⟩
theorem lw_p11 : lw_okq (⟨"SummerWall$Tape", "readHindrances", "()Z"⟩, 13) := ⟨⟨by decide +kernel, by decide +kernel⟩, List.mem_of_getElem? (i := 110) (by decide +kernel), List.mem_of_getElem? (i := 495) (by decide +kernel), List.mem_of_getElem? (i := 496) (by decide +kernel)⟩
theorem lw_p12 : lw_okq (⟨"SummerWall$Tape", "readHindrance", "()Z"⟩, 13) := ⟨⟨by decide +kernel, by decide +kernel⟩, List.mem_of_getElem? (i := 110) (by decide +kernel), List.mem_of_getElem? (i := 499) (by decide +kernel), List.mem_of_getElem? (i := 500) (by decide +kernel)⟩
theorem lw_p13 : lw_okq (⟨"SummerWall$Foretold", "look", "(LSummerWall$Site;III)V"⟩, 16) := ⟨⟨by decide +kernel, by decide +kernel⟩, List.mem_of_getElem? (i := 168) (by decide +kernel), List.mem_of_getElem? (i := 602) (by decide +kernel), List.mem_of_getElem? (i := 603) (by decide +kernel)⟩
theorem lw_p14 : lw_okq (⟨"SummerWall$Foretold", "reckonLays", "(LSummerWall$Site;II)V"⟩, 16) := ⟨⟨by decide +kernel, by decide +kernel⟩, List.mem_of_getElem? (i := 168) (by decide +kernel), List.mem_of_getElem? (i := 606) (by decide +kernel), List.mem_of_getElem? (i := 607) (by decide +kernel)⟩
theorem lw_p15 : lw_okq (⟨"SummerWall$Foretold", "fillBehind", "([II)V"⟩, 16) := ⟨⟨by decide +kernel, by decide +kernel⟩, List.mem_of_getElem? (i := 168) (by decide +kernel), List.mem_of_getElem? (i := 611) (by decide +kernel), List.mem_of_getElem? (i := 612) (by decide +kernel)⟩
def lw_privs_1 : List (MethodName × Nat) := [(⟨"SummerWall", "changeStones", "(I)I"⟩, 6), (⟨"SummerWall", "changeDays", "(I)I"⟩, 6), (⟨"SummerWall", "changeFrost", "(I)I"⟩, 6), (⟨"SummerWall", "changeThaw", "(I)I"⟩, 6), (⟨"SummerWall$Tape", "readNumber", "(I)I"⟩, 13), (⟨"SummerWall$Tape", "next", "()C"⟩, 13), (⟨"SummerWall$Tape", "failAt", "(I)Z"⟩, 13), (⟨"SummerWall$Tape", "readSign", "(C)Z"⟩, 13), (⟨"SummerWall$Tape", "readBuilders", "()Z"⟩, 13), (⟨"SummerWall$Tape", "readBuilder", "()Z"⟩, 13), (⟨"SummerWall$Tape", "readDigit", "(I)I"⟩, 13), (⟨"SummerWall$Tape", "readHindrances", "()Z"⟩, 13), (⟨"SummerWall$Tape", "readHindrance", "()Z"⟩, 13), (⟨"SummerWall$Foretold", "look", "(LSummerWall$Site;III)V"⟩, 16), (⟨"SummerWall$Foretold", "reckonLays", "(LSummerWall$Site;II)V"⟩, 16), (⟨"SummerWall$Foretold", "fillBehind", "([II)V"⟩, 16)]
theorem lw_r1 : ∀ q ∈ lw_privs_1, lw_okq q := List.forall_mem_cons.mpr ⟨lw_p0, List.forall_mem_cons.mpr ⟨lw_p1, List.forall_mem_cons.mpr ⟨lw_p2, List.forall_mem_cons.mpr ⟨lw_p3, List.forall_mem_cons.mpr ⟨lw_p4, List.forall_mem_cons.mpr ⟨lw_p5, List.forall_mem_cons.mpr ⟨lw_p6, List.forall_mem_cons.mpr ⟨lw_p7, List.forall_mem_cons.mpr ⟨lw_p8, List.forall_mem_cons.mpr ⟨lw_p9, List.forall_mem_cons.mpr ⟨lw_p10, List.forall_mem_cons.mpr ⟨lw_p11, List.forall_mem_cons.mpr ⟨lw_p12, List.forall_mem_cons.mpr ⟨lw_p13, List.forall_mem_cons.mpr ⟨lw_p14, List.forall_mem_cons.mpr ⟨lw_p15, fun _ h => absurd h List.not_mem_nil⟩⟩⟩⟩⟩⟩⟩⟩⟩⟩⟩⟩⟩⟩⟩⟩
theorem lw_p16 : lw_okq (⟨"SummerWall$Foretold", "laidBehind", "(III)I"⟩, 16) := ⟨⟨by decide +kernel, by decide +kernel⟩, List.mem_of_getElem? (i := 168) (by decide +kernel), List.mem_of_getElem? (i := 615) (by decide +kernel), List.mem_of_getElem? (i := 616) (by decide +kernel)⟩
theorem lw_p17 : lw_okq (⟨"SummerWall$Foretold", "goBackToTomorrow", "()V"⟩, 16) := ⟨⟨by decide +kernel, by decide +kernel⟩, List.mem_of_getElem? (i := 168) (by decide +kernel), List.mem_of_getElem? (i := 620) (by decide +kernel), List.mem_of_getElem? (i := 621) (by decide +kernel)⟩
theorem lw_p18 : lw_okq (⟨"SummerWall$Foretold", "startAtSummer", "()V"⟩, 16) := ⟨⟨by decide +kernel, by decide +kernel⟩, List.mem_of_getElem? (i := 168) (by decide +kernel), List.mem_of_getElem? (i := 624) (by decide +kernel), List.mem_of_getElem? (i := 625) (by decide +kernel)⟩
theorem lw_p19 : lw_okq (⟨"SummerWall$Foretold", "stepBack", "([I[II)V"⟩, 16) := ⟨⟨by decide +kernel, by decide +kernel⟩, List.mem_of_getElem? (i := 168) (by decide +kernel), List.mem_of_getElem? (i := 629) (by decide +kernel), List.mem_of_getElem? (i := 630) (by decide +kernel)⟩
theorem lw_p20 : lw_okq (⟨"SummerWall$Foretold", "oddsToday", "([II)I"⟩, 16) := ⟨⟨by decide +kernel, by decide +kernel⟩, List.mem_of_getElem? (i := 168) (by decide +kernel), List.mem_of_getElem? (i := 633) (by decide +kernel), List.mem_of_getElem? (i := 634) (by decide +kernel)⟩
theorem lw_p21 : lw_okq (⟨"SummerWall$Foretold", "oddsIfHindered", "(I)I"⟩, 16) := ⟨⟨by decide +kernel, by decide +kernel⟩, List.mem_of_getElem? (i := 168) (by decide +kernel), List.mem_of_getElem? (i := 687) (by decide +kernel), List.mem_of_getElem? (i := 688) (by decide +kernel)⟩
theorem lw_p22 : lw_okq (⟨"SummerWall$Foretold", "spread", "(I)V"⟩, 16) := ⟨⟨by decide +kernel, by decide +kernel⟩, List.mem_of_getElem? (i := 168) (by decide +kernel), List.mem_of_getElem? (i := 705) (by decide +kernel), List.mem_of_getElem? (i := 706) (by decide +kernel)⟩
theorem lw_p23 : lw_okq (⟨"SummerWall", "weatherOf", "([JIII)I"⟩, 6) := ⟨⟨by decide +kernel, by decide +kernel⟩, List.mem_of_getElem? (i := 16) (by decide +kernel), List.mem_of_getElem? (i := 742) (by decide +kernel), List.mem_of_getElem? (i := 743) (by decide +kernel)⟩
theorem lw_p24 : lw_okq (⟨"SummerWall", "fittingWeathers", "(IJI)I"⟩, 6) := ⟨⟨by decide +kernel, by decide +kernel⟩, List.mem_of_getElem? (i := 16) (by decide +kernel), List.mem_of_getElem? (i := 746) (by decide +kernel), List.mem_of_getElem? (i := 747) (by decide +kernel)⟩
theorem lw_p25 : lw_okq (⟨"SummerWall$Sheet", "cut", "(J)J"⟩, 4) := ⟨⟨by decide +kernel, by decide +kernel⟩, List.mem_of_getElem? (i := 226) (by decide +kernel), List.mem_of_getElem? (i := 759) (by decide +kernel), List.mem_of_getElem? (i := 760) (by decide +kernel)⟩
theorem lw_p26 : lw_okq (⟨"SummerWallModel", "isBuilder", "(I)Z"⟩, 20) := ⟨⟨by decide +kernel, by decide +kernel⟩, List.mem_of_getElem? (i := 785) (by decide +kernel), List.mem_of_getElem? (i := 865) (by decide +kernel), List.mem_of_getElem? (i := 866) (by decide +kernel)⟩
theorem lw_p27 : lw_okq (⟨"SummerWallModel", "haulsOf", "(II)I"⟩, 20) := ⟨⟨by decide +kernel, by decide +kernel⟩, List.mem_of_getElem? (i := 785) (by decide +kernel), List.mem_of_getElem? (i := 870) (by decide +kernel), List.mem_of_getElem? (i := 871) (by decide +kernel)⟩
theorem lw_p28 : lw_okq (⟨"SummerWallModel", "laysOf", "(III)I"⟩, 20) := ⟨⟨by decide +kernel, by decide +kernel⟩, List.mem_of_getElem? (i := 785) (by decide +kernel), List.mem_of_getElem? (i := 874) (by decide +kernel), List.mem_of_getElem? (i := 875) (by decide +kernel)⟩
theorem lw_p29 : lw_okq (⟨"SummerWallModel", "number", "(II)I"⟩, 20) := ⟨⟨by decide +kernel, by decide +kernel⟩, List.mem_of_getElem? (i := 785) (by decide +kernel), List.mem_of_getElem? (i := 909) (by decide +kernel), List.mem_of_getElem? (i := 910) (by decide +kernel)⟩
theorem lw_p30 : lw_okq (⟨"SummerWallModel", "here", "()I"⟩, 20) := ⟨⟨by decide +kernel, by decide +kernel⟩, List.mem_of_getElem? (i := 785) (by decide +kernel), List.mem_of_getElem? (i := 913) (by decide +kernel), List.mem_of_getElem? (i := 914) (by decide +kernel)⟩
theorem lw_p31 : lw_okq (⟨"SummerWallModel", "must", "(Z)V"⟩, 20) := ⟨⟨by decide +kernel, by decide +kernel⟩, List.mem_of_getElem? (i := 785) (by decide +kernel), List.mem_of_getElem? (i := 919) (by decide +kernel), List.mem_of_getElem? (i := 920) (by decide +kernel)⟩
def lw_privs_2 : List (MethodName × Nat) := [(⟨"SummerWall$Foretold", "laidBehind", "(III)I"⟩, 16), (⟨"SummerWall$Foretold", "goBackToTomorrow", "()V"⟩, 16), (⟨"SummerWall$Foretold", "startAtSummer", "()V"⟩, 16), (⟨"SummerWall$Foretold", "stepBack", "([I[II)V"⟩, 16), (⟨"SummerWall$Foretold", "oddsToday", "([II)I"⟩, 16), (⟨"SummerWall$Foretold", "oddsIfHindered", "(I)I"⟩, 16), (⟨"SummerWall$Foretold", "spread", "(I)V"⟩, 16), (⟨"SummerWall", "weatherOf", "([JIII)I"⟩, 6), (⟨"SummerWall", "fittingWeathers", "(IJI)I"⟩, 6), (⟨"SummerWall$Sheet", "cut", "(J)J"⟩, 4), (⟨"SummerWallModel", "isBuilder", "(I)Z"⟩, 20), (⟨"SummerWallModel", "haulsOf", "(II)I"⟩, 20), (⟨"SummerWallModel", "laysOf", "(III)I"⟩, 20), (⟨"SummerWallModel", "number", "(II)I"⟩, 20), (⟨"SummerWallModel", "here", "()I"⟩, 20), (⟨"SummerWallModel", "must", "(Z)V"⟩, 20)]
theorem lw_r2 : ∀ q ∈ lw_privs_2, lw_okq q := List.forall_mem_cons.mpr ⟨lw_p16, List.forall_mem_cons.mpr ⟨lw_p17, List.forall_mem_cons.mpr ⟨lw_p18, List.forall_mem_cons.mpr ⟨lw_p19, List.forall_mem_cons.mpr ⟨lw_p20, List.forall_mem_cons.mpr ⟨lw_p21, List.forall_mem_cons.mpr ⟨lw_p22, List.forall_mem_cons.mpr ⟨lw_p23, List.forall_mem_cons.mpr ⟨lw_p24, List.forall_mem_cons.mpr ⟨lw_p25, List.forall_mem_cons.mpr ⟨lw_p26, List.forall_mem_cons.mpr ⟨lw_p27, List.forall_mem_cons.mpr ⟨lw_p28, List.forall_mem_cons.mpr ⟨lw_p29, List.forall_mem_cons.mpr ⟨lw_p30, List.forall_mem_cons.mpr ⟨lw_p31, fun _ h => absurd h List.not_mem_nil⟩⟩⟩⟩⟩⟩⟩⟩⟩⟩⟩⟩⟩⟩⟩⟩
theorem lw_p32 : lw_okq (⟨"SummerWallModel", "takes", "(I)V"⟩, 20) := ⟨⟨by decide +kernel, by decide +kernel⟩, List.mem_of_getElem? (i := 785) (by decide +kernel), List.mem_of_getElem? (i := 923) (by decide +kernel), List.mem_of_getElem? (i := 924) (by decide +kernel)⟩
theorem lw_p33 : lw_okq (⟨"SummerWallModel", "readBuilders", "()I"⟩, 20) := ⟨⟨by decide +kernel, by decide +kernel⟩, List.mem_of_getElem? (i := 785) (by decide +kernel), List.mem_of_getElem? (i := 927) (by decide +kernel), List.mem_of_getElem? (i := 928) (by decide +kernel)⟩
theorem lw_p34 : lw_okq (⟨"SummerWallModel", "digit", "(II)I"⟩, 20) := ⟨⟨by decide +kernel, by decide +kernel⟩, List.mem_of_getElem? (i := 785) (by decide +kernel), List.mem_of_getElem? (i := 931) (by decide +kernel), List.mem_of_getElem? (i := 932) (by decide +kernel)⟩
theorem lw_p35 : lw_okq (⟨"SummerWallModel", "readHindrances", "()I"⟩, 20) := ⟨⟨by decide +kernel, by decide +kernel⟩, List.mem_of_getElem? (i := 785) (by decide +kernel), List.mem_of_getElem? (i := 935) (by decide +kernel), List.mem_of_getElem? (i := 936) (by decide +kernel)⟩
theorem lw_p36 : lw_okq (⟨"SummerWallModel", "isSummer", "()Z"⟩, 20) := ⟨⟨by decide +kernel, by decide +kernel⟩, List.mem_of_getElem? (i := 785) (by decide +kernel), List.mem_of_getElem? (i := 949) (by decide +kernel), List.mem_of_getElem? (i := 950) (by decide +kernel)⟩
theorem lw_p37 : lw_okq (⟨"SummerWallModel", "notes", "()V"⟩, 20) := ⟨⟨by decide +kernel, by decide +kernel⟩, List.mem_of_getElem? (i := 785) (by decide +kernel), List.mem_of_getElem? (i := 953) (by decide +kernel), List.mem_of_getElem? (i := 954) (by decide +kernel)⟩
theorem lw_p38 : lw_okq (⟨"SummerWallModel", "goesBy", "(I)I"⟩, 20) := ⟨⟨by decide +kernel, by decide +kernel⟩, List.mem_of_getElem? (i := 785) (by decide +kernel), List.mem_of_getElem? (i := 957) (by decide +kernel), List.mem_of_getElem? (i := 958) (by decide +kernel)⟩
theorem lw_p39 : lw_okq (⟨"SummerWallModel", "behind", "(III)I"⟩, 20) := ⟨⟨by decide +kernel, by decide +kernel⟩, List.mem_of_getElem? (i := 785) (by decide +kernel), List.mem_of_getElem? (i := 961) (by decide +kernel), List.mem_of_getElem? (i := 962) (by decide +kernel)⟩
theorem lw_p40 : lw_okq (⟨"SummerWallModel", "isHindrance", "(I)Z"⟩, 20) := ⟨⟨by decide +kernel, by decide +kernel⟩, List.mem_of_getElem? (i := 785) (by decide +kernel), List.mem_of_getElem? (i := 969) (by decide +kernel), List.mem_of_getElem? (i := 970) (by decide +kernel)⟩
theorem lw_p41 : lw_okq (⟨"SummerWallModel", "isUsed", "(I)Z"⟩, 20) := ⟨⟨by decide +kernel, by decide +kernel⟩, List.mem_of_getElem? (i := 785) (by decide +kernel), List.mem_of_getElem? (i := 973) (by decide +kernel), List.mem_of_getElem? (i := 974) (by decide +kernel)⟩
theorem lw_p42 : lw_okq (⟨"SummerWallModel", "costOf", "(I)I"⟩, 20) := ⟨⟨by decide +kernel, by decide +kernel⟩, List.mem_of_getElem? (i := 785) (by decide +kernel), List.mem_of_getElem? (i := 977) (by decide +kernel), List.mem_of_getElem? (i := 978) (by decide +kernel)⟩
theorem lw_p43 : lw_okq (⟨"SummerWallModel", "breaks", "(I)Z"⟩, 20) := ⟨⟨by decide +kernel, by decide +kernel⟩, List.mem_of_getElem? (i := 785) (by decide +kernel), List.mem_of_getElem? (i := 981) (by decide +kernel), List.mem_of_getElem? (i := 982) (by decide +kernel)⟩
theorem lw_p44 : lw_okq (⟨"SummerWallModel", "oathOf", "(I)I"⟩, 20) := ⟨⟨by decide +kernel, by decide +kernel⟩, List.mem_of_getElem? (i := 785) (by decide +kernel), List.mem_of_getElem? (i := 985) (by decide +kernel), List.mem_of_getElem? (i := 986) (by decide +kernel)⟩
theorem lw_p45 : lw_okq (⟨"SummerWallModel", "oddsBy", "(II)I"⟩, 20) := ⟨⟨by decide +kernel, by decide +kernel⟩, List.mem_of_getElem? (i := 785) (by decide +kernel), List.mem_of_getElem? (i := 1009) (by decide +kernel), List.mem_of_getElem? (i := 1010) (by decide +kernel)⟩
theorem lw_p46 : lw_okq (⟨"SummerWallModel", "fills", "(IIIII)V"⟩, 20) := ⟨⟨by decide +kernel, by decide +kernel⟩, List.mem_of_getElem? (i := 785) (by decide +kernel), List.mem_of_getElem? (i := 1013) (by decide +kernel), List.mem_of_getElem? (i := 1014) (by decide +kernel)⟩
theorem lw_p47 : lw_okq (⟨"SummerWallModel", "mixed", "(III)I"⟩, 20) := ⟨⟨by decide +kernel, by decide +kernel⟩, List.mem_of_getElem? (i := 785) (by decide +kernel), List.mem_of_getElem? (i := 1018) (by decide +kernel), List.mem_of_getElem? (i := 1019) (by decide +kernel)⟩
def lw_privs_3 : List (MethodName × Nat) := [(⟨"SummerWallModel", "takes", "(I)V"⟩, 20), (⟨"SummerWallModel", "readBuilders", "()I"⟩, 20), (⟨"SummerWallModel", "digit", "(II)I"⟩, 20), (⟨"SummerWallModel", "readHindrances", "()I"⟩, 20), (⟨"SummerWallModel", "isSummer", "()Z"⟩, 20), (⟨"SummerWallModel", "notes", "()V"⟩, 20), (⟨"SummerWallModel", "goesBy", "(I)I"⟩, 20), (⟨"SummerWallModel", "behind", "(III)I"⟩, 20), (⟨"SummerWallModel", "isHindrance", "(I)Z"⟩, 20), (⟨"SummerWallModel", "isUsed", "(I)Z"⟩, 20), (⟨"SummerWallModel", "costOf", "(I)I"⟩, 20), (⟨"SummerWallModel", "breaks", "(I)Z"⟩, 20), (⟨"SummerWallModel", "oathOf", "(I)I"⟩, 20), (⟨"SummerWallModel", "oddsBy", "(II)I"⟩, 20), (⟨"SummerWallModel", "fills", "(IIIII)V"⟩, 20), (⟨"SummerWallModel", "mixed", "(III)I"⟩, 20)]
theorem lw_r3 : ∀ q ∈ lw_privs_3, lw_okq q := List.forall_mem_cons.mpr ⟨lw_p32, List.forall_mem_cons.mpr ⟨lw_p33, List.forall_mem_cons.mpr ⟨lw_p34, List.forall_mem_cons.mpr ⟨lw_p35, List.forall_mem_cons.mpr ⟨lw_p36, List.forall_mem_cons.mpr ⟨lw_p37, List.forall_mem_cons.mpr ⟨lw_p38, List.forall_mem_cons.mpr ⟨lw_p39, List.forall_mem_cons.mpr ⟨lw_p40, List.forall_mem_cons.mpr ⟨lw_p41, List.forall_mem_cons.mpr ⟨lw_p42, List.forall_mem_cons.mpr ⟨lw_p43, List.forall_mem_cons.mpr ⟨lw_p44, List.forall_mem_cons.mpr ⟨lw_p45, List.forall_mem_cons.mpr ⟨lw_p46, List.forall_mem_cons.mpr ⟨lw_p47, fun _ h => absurd h List.not_mem_nil⟩⟩⟩⟩⟩⟩⟩⟩⟩⟩⟩⟩⟩⟩⟩⟩
theorem lw_p48 : lw_okq (⟨"SummerWallModel", "shares", "(I)V"⟩, 20) := ⟨⟨by decide +kernel, by decide +kernel⟩, List.mem_of_getElem? (i := 785) (by decide +kernel), List.mem_of_getElem? (i := 1058) (by decide +kernel), List.mem_of_getElem? (i := 1059) (by decide +kernel)⟩
theorem lw_p49 : lw_okq (⟨"SummerWallModel", "why", "(IIII)I"⟩, 20) := ⟨⟨by decide +kernel, by decide +kernel⟩, List.mem_of_getElem? (i := 785) (by decide +kernel), List.mem_of_getElem? (i := 1082) (by decide +kernel), List.mem_of_getElem? (i := 1083) (by decide +kernel)⟩
def lw_privs_4 : List (MethodName × Nat) := [(⟨"SummerWallModel", "shares", "(I)V"⟩, 20), (⟨"SummerWallModel", "why", "(IIII)I"⟩, 20)]
theorem lw_r4 : ∀ q ∈ lw_privs_4, lw_okq q := List.forall_mem_cons.mpr ⟨lw_p48, List.forall_mem_cons.mpr ⟨lw_p49, fun _ h => absurd h List.not_mem_nil⟩⟩
def lw_privs : List (MethodName × Nat) := lw_privs_1 ++ (lw_privs_2 ++ (lw_privs_3 ++ (lw_privs_4)))
def lw_tbl : List Cond := k2_sels lw_privs ++ tables_1
theorem lw_privs_ok : ∀ q ∈ lw_privs, lw_okq q := by
  show ∀ q ∈ lw_privs_1 ++ (lw_privs_2 ++ (lw_privs_3 ++ (lw_privs_4))), lw_okq q
  exact List.forall_mem_append.mpr ⟨lw_r1, List.forall_mem_append.mpr ⟨lw_r2, List.forall_mem_append.mpr ⟨lw_r3, lw_r4⟩⟩⟩
def RX0 : String := "SummerWall$Blind"
def TX0 : u_T := fun k => match k with
  | 0 => ("SummerWall$Plain", "pace", "I", true)
  | _ => ("SummerWall$Plain", "horse", "I", true)
def tyX0 : Nat → FieldType := fun k => match k with
  | 0 => .int
  | _ => .int
abbrev wsX00 : List Cond := u_ws RX0 TX0 2
theorem nmX0 : ∀ a, a < 2 → ∀ b, b < 2 → a ≠ b → (TX0 a).2.1 ≠ (TX0 b).2.1 := by decide +kernel
theorem tyX0_ok : ∀ k, k < 2 → parseFieldDescriptor (TX0 k).2.2.1 = some (tyX0 k) := by decide +kernel
abbrev cX0_init : ByteArray := prog_2_method_1_code
def yX0_init : MethodName := ⟨RX0, "<init>", "(II)V"⟩
abbrev cX0_kind : ByteArray := prog_2_method_2_code
def yX0_kind : MethodName := ⟨RX0, "kind", "()I"⟩
abbrev cX0_laysInFrost : ByteArray := prog_2_method_3_code
def yX0_laysInFrost : MethodName := ⟨RX0, "laysInFrost", "(I)I"⟩
def RX1 : String := "SummerWall$Foretold"
def TX1 : u_T := fun k => match k with
  | 0 => ("SummerWall$Foretold", "lays", "[I", true)
  | 1 => ("SummerWall$Foretold", "behind", "[I", true)
  | 2 => ("SummerWall$Foretold", "behindHindered", "[I", true)
  | 3 => ("SummerWall$Foretold", "odds", "[I", true)
  | 4 => ("SummerWall$Foretold", "oddsHindered", "[I", true)
  | 5 => ("SummerWall$Foretold", "fairPath", "[I", true)
  | 6 => ("SummerWall$Foretold", "parts", "[I", true)
  | 7 => ("SummerWall$Foretold", "stones", "I", false)
  | 8 => ("SummerWall$Foretold", "days", "I", false)
  | 9 => ("SummerWall$Foretold", "frost", "I", false)
  | 10 => ("SummerWall$Foretold", "thaw", "I", false)
  | 11 => ("SummerWall$Foretold", "day", "I", false)
  | 12 => ("SummerWall$Foretold", "laid", "I", false)
  | 13 => ("SummerWall$Foretold", "cost", "I", false)
  | 14 => ("SummerWall$Foretold", "bestDay", "I", false)
  | _ => ("SummerWall$Foretold", "bestOdds", "I", false)
def tyX1 : Nat → FieldType := fun k => match k with
  | 0 => .array .int
  | 1 => .array .int
  | 2 => .array .int
  | 3 => .array .int
  | 4 => .array .int
  | 5 => .array .int
  | 6 => .array .int
  | 7 => .int
  | 8 => .int
  | 9 => .int
  | 10 => .int
  | 11 => .int
  | 12 => .int
  | 13 => .int
  | 14 => .int
  | _ => .int
abbrev wsX10 : List Cond := u_ws RX1 TX1 16
theorem nmX1 : ∀ a, a < 16 → ∀ b, b < 16 → a ≠ b → (TX1 a).2.1 ≠ (TX1 b).2.1 := by decide +kernel
theorem tyX1_ok : ∀ k, k < 16 → parseFieldDescriptor (TX1 k).2.2.1 = some (tyX1 k) := by decide +kernel
abbrev cX1_init : ByteArray := prog_3_method_1_code
def yX1_init : MethodName := ⟨RX1, "<init>", "()V"⟩
abbrev cX1_oddsNow : ByteArray := prog_3_method_2_code
def yX1_oddsNow : MethodName := ⟨RX1, "oddsNow", "(LSummerWall$Site;II)I"⟩
abbrev cX1_oddsFrom : ByteArray := prog_3_method_3_code
def yX1_oddsFrom : MethodName := ⟨RX1, "oddsFrom", "(LSummerWall$Site;II)I"⟩
abbrev cX1_firstSureDay : ByteArray := prog_3_method_4_code
def yX1_firstSureDay : MethodName := ⟨RX1, "firstSureDay", "(LSummerWall$Site;I)I"⟩
abbrev cX1_fewestHindrances : ByteArray := prog_3_method_5_code
def yX1_fewestHindrances : MethodName := ⟨RX1, "fewestHindrances", "(LSummerWall$Site;I)I"⟩
abbrev cX1_findBestDay : ByteArray := prog_3_method_6_code
def yX1_findBestDay : MethodName := ⟨RX1, "findBestDay", "(LSummerWall$Site;I)V"⟩
abbrev cX1_oddsIfHindered : ByteArray := prog_3_method_7_code
def yX1_oddsIfHindered : MethodName := ⟨RX1, "oddsIfHindered", "(I)I"⟩
abbrev cX1_sumOfLaid : ByteArray := prog_3_method_8_code
def yX1_sumOfLaid : MethodName := ⟨RX1, "sumOfLaid", "(LSummerWall$Site;I)I"⟩
abbrev cX1_spread : ByteArray := prog_3_method_9_code
def yX1_spread : MethodName := ⟨RX1, "spread", "(I)V"⟩
abbrev cX1_look : ByteArray := prog_3_method_10_code
def yX1_look : MethodName := ⟨RX1, "look", "(LSummerWall$Site;III)V"⟩
abbrev cX1_reckonLays : ByteArray := prog_3_method_11_code
def yX1_reckonLays : MethodName := ⟨RX1, "reckonLays", "(LSummerWall$Site;II)V"⟩
abbrev cX1_fillBehind : ByteArray := prog_3_method_12_code
def yX1_fillBehind : MethodName := ⟨RX1, "fillBehind", "([II)V"⟩
abbrev cX1_laidBehind : ByteArray := prog_3_method_13_code
def yX1_laidBehind : MethodName := ⟨RX1, "laidBehind", "(III)I"⟩
abbrev cX1_startAtSummer : ByteArray := prog_3_method_14_code
def yX1_startAtSummer : MethodName := ⟨RX1, "startAtSummer", "()V"⟩
abbrev cX1_goBackToTomorrow : ByteArray := prog_3_method_15_code
def yX1_goBackToTomorrow : MethodName := ⟨RX1, "goBackToTomorrow", "()V"⟩
abbrev cX1_stepBack : ByteArray := prog_3_method_16_code
def yX1_stepBack : MethodName := ⟨RX1, "stepBack", "([I[II)V"⟩
abbrev cX1_oddsToday : ByteArray := prog_3_method_17_code
def yX1_oddsToday : MethodName := ⟨RX1, "oddsToday", "([II)I"⟩
def RX2 : String := "SummerWall$Giant"
def TX2 : u_T := fun k => match k with
  | 0 => ("SummerWall$Plain", "pace", "I", true)
  | _ => ("SummerWall$Plain", "horse", "I", true)
def tyX2 : Nat → FieldType := fun k => match k with
  | 0 => .int
  | _ => .int
abbrev wsX20 : List Cond := u_ws RX2 TX2 2
theorem nmX2 : ∀ a, a < 2 → ∀ b, b < 2 → a ≠ b → (TX2 a).2.1 ≠ (TX2 b).2.1 := by decide +kernel
theorem tyX2_ok : ∀ k, k < 2 → parseFieldDescriptor (TX2 k).2.2.1 = some (tyX2 k) := by decide +kernel
abbrev cX2_init : ByteArray := prog_4_method_1_code
def yX2_init : MethodName := ⟨RX2, "<init>", "(II)V"⟩
abbrev cX2_kind : ByteArray := prog_4_method_2_code
def yX2_kind : MethodName := ⟨RX2, "kind", "()I"⟩
abbrev cX2_hauls : ByteArray := prog_4_method_3_code
def yX2_hauls : MethodName := ⟨RX2, "hauls", "(II)I"⟩
abbrev cX2_laysInThaw : ByteArray := prog_4_method_4_code
def yX2_laysInThaw : MethodName := ⟨RX2, "laysInThaw", "(I)I"⟩
def RX3 : String := "SummerWall$Horsed"
def TX3 : u_T := fun k => match k with
  | 0 => ("SummerWall$Plain", "pace", "I", true)
  | _ => ("SummerWall$Plain", "horse", "I", true)
def tyX3 : Nat → FieldType := fun k => match k with
  | 0 => .int
  | _ => .int
abbrev wsX30 : List Cond := u_ws RX3 TX3 2
theorem nmX3 : ∀ a, a < 2 → ∀ b, b < 2 → a ≠ b → (TX3 a).2.1 ≠ (TX3 b).2.1 := by decide +kernel
theorem tyX3_ok : ∀ k, k < 2 → parseFieldDescriptor (TX3 k).2.2.1 = some (tyX3 k) := by decide +kernel
abbrev cX3_init : ByteArray := prog_5_method_1_code
def yX3_init : MethodName := ⟨RX3, "<init>", "(II)V"⟩
abbrev cX3_kind : ByteArray := prog_5_method_2_code
def yX3_kind : MethodName := ⟨RX3, "kind", "()I"⟩
abbrev cX3_hauls : ByteArray := prog_5_method_3_code
def yX3_hauls : MethodName := ⟨RX3, "hauls", "(II)I"⟩
def RX4 : String := "SummerWall$Paid"
def TX4 : u_T := fun k => match k with
  | 0 => ("SummerWall$Plain", "pace", "I", true)
  | _ => ("SummerWall$Plain", "horse", "I", true)
def tyX4 : Nat → FieldType := fun k => match k with
  | 0 => .int
  | _ => .int
abbrev wsX40 : List Cond := u_ws RX4 TX4 2
theorem nmX4 : ∀ a, a < 2 → ∀ b, b < 2 → a ≠ b → (TX4 a).2.1 ≠ (TX4 b).2.1 := by decide +kernel
theorem tyX4_ok : ∀ k, k < 2 → parseFieldDescriptor (TX4 k).2.2.1 = some (tyX4 k) := by decide +kernel
abbrev cX4_init : ByteArray := prog_6_method_1_code
def yX4_init : MethodName := ⟨RX4, "<init>", "(II)V"⟩
abbrev cX4_kind : ByteArray := prog_6_method_2_code
def yX4_kind : MethodName := ⟨RX4, "kind", "()I"⟩
abbrev cX4_hauls : ByteArray := prog_6_method_3_code
def yX4_hauls : MethodName := ⟨RX4, "hauls", "(II)I"⟩
def RX5 : String := "SummerWall$Plain"
def TX5 : u_T := fun k => match k with
  | 0 => ("SummerWall$Plain", "pace", "I", true)
  | _ => ("SummerWall$Plain", "horse", "I", true)
def tyX5 : Nat → FieldType := fun k => match k with
  | 0 => .int
  | _ => .int
abbrev wsX50 : List Cond := u_ws RX5 TX5 2
theorem nmX5 : ∀ a, a < 2 → ∀ b, b < 2 → a ≠ b → (TX5 a).2.1 ≠ (TX5 b).2.1 := by decide +kernel
theorem tyX5_ok : ∀ k, k < 2 → parseFieldDescriptor (TX5 k).2.2.1 = some (tyX5 k) := by decide +kernel
abbrev cX5_init : ByteArray := prog_7_method_1_code
def yX5_init : MethodName := ⟨RX5, "<init>", "(II)V"⟩
abbrev cX5_ofKind : ByteArray := prog_7_method_2_code
def yX5_ofKind : MethodName := ⟨RX5, "ofKind", "(III)LSummerWall$Plain;"⟩
abbrev cX5_kind : ByteArray := prog_7_method_3_code
def yX5_kind : MethodName := ⟨RX5, "kind", "()I"⟩
abbrev cX5_hauls : ByteArray := prog_7_method_4_code
def yX5_hauls : MethodName := ⟨RX5, "hauls", "(II)I"⟩
abbrev cX5_laysInFrost : ByteArray := prog_7_method_5_code
def yX5_laysInFrost : MethodName := ⟨RX5, "laysInFrost", "(I)I"⟩
abbrev cX5_laysInThaw : ByteArray := prog_7_method_6_code
def yX5_laysInThaw : MethodName := ⟨RX5, "laysInThaw", "(I)I"⟩
abbrev cX5_lays : ByteArray := prog_7_method_7_code
def yX5_lays : MethodName := ⟨RX5, "lays", "(III)I"⟩
def RX6 : String := "SummerWall$Sheet"
def TX6 : u_T := fun k => match k with
  | 0 => ("SummerWall$Sheet", "held", "Z", false)
  | 1 => ("SummerWall$Sheet", "lane", "I", false)
  | 2 => ("SummerWall$Sheet", "size", "I", false)
  | _ => ("SummerWall$Sheet", "items", "[J", true)
def tyX6 : Nat → FieldType := fun k => match k with
  | 0 => .boolean
  | 1 => .int
  | 2 => .int
  | _ => .array .long
abbrev wsX60 : List Cond := u_ws RX6 TX6 4
theorem nmX6 : ∀ a, a < 4 → ∀ b, b < 4 → a ≠ b → (TX6 a).2.1 ≠ (TX6 b).2.1 := by decide +kernel
theorem tyX6_ok : ∀ k, k < 4 → parseFieldDescriptor (TX6 k).2.2.1 = some (tyX6 k) := by decide +kernel
abbrev cX6_init : ByteArray := prog_8_method_1_code
def yX6_init : MethodName := ⟨RX6, "<init>", "()V"⟩
abbrev cX6_renew : ByteArray := prog_8_method_2_code
def yX6_renew : MethodName := ⟨RX6, "renew", "(II)V"⟩
abbrev cX6_find : ByteArray := prog_8_method_3_code
def yX6_find : MethodName := ⟨RX6, "find", "(III)I"⟩
abbrev cX6_has : ByteArray := prog_8_method_4_code
def yX6_has : MethodName := ⟨RX6, "has", "(II)Z"⟩
abbrev cX6_put : ByteArray := prog_8_method_5_code
def yX6_put : MethodName := ⟨RX6, "put", "(IJ)V"⟩
abbrev cX6_cut : ByteArray := prog_8_method_6_code
def yX6_cut : MethodName := ⟨RX6, "cut", "(J)J"⟩
def RX7 : String := "SummerWall$Site"
def TX7 : u_T := fun k => match k with
  | 0 => ("SummerWall$Site", "stones", "I", false)
  | 1 => ("SummerWall$Site", "days", "I", false)
  | 2 => ("SummerWall$Site", "frost", "I", false)
  | 3 => ("SummerWall$Site", "thaw", "I", false)
  | 4 => ("SummerWall$Site", "day", "I", false)
  | 5 => ("SummerWall$Site", "laid", "I", false)
  | 6 => ("SummerWall$Site", "used", "I", false)
  | 7 => ("SummerWall$Site", "usedToday", "I", false)
  | 8 => ("SummerWall$Site", "broken", "I", false)
  | 9 => ("SummerWall$Site", "sworn", "I", false)
  | 10 => ("SummerWall$Site", "draw", "I", false)
  | 11 => ("SummerWall$Site", "builderCount", "I", false)
  | 12 => ("SummerWall$Site", "hindranceCount", "I", false)
  | 13 => ("SummerWall$Site", "pastCount", "I", false)
  | 14 => ("SummerWall$Site", "builders", "[LSummerWall$Plain;", true)
  | 15 => ("SummerWall$Site", "costs", "[I", true)
  | 16 => ("SummerWall$Site", "oaths", "[I", true)
  | _ => ("SummerWall$Site", "past", "[I", true)
def tyX7 : Nat → FieldType := fun k => match k with
  | 0 => .int
  | 1 => .int
  | 2 => .int
  | 3 => .int
  | 4 => .int
  | 5 => .int
  | 6 => .int
  | 7 => .int
  | 8 => .int
  | 9 => .int
  | 10 => .int
  | 11 => .int
  | 12 => .int
  | 13 => .int
  | 14 => .array (.object "SummerWall$Plain")
  | 15 => .array .int
  | 16 => .array .int
  | _ => .array .int
abbrev wsX70 : List Cond := u_ws RX7 TX7 18
theorem nmX7 : ∀ a, a < 18 → ∀ b, b < 18 → a ≠ b → (TX7 a).2.1 ≠ (TX7 b).2.1 := by decide +kernel
theorem tyX7_ok : ∀ k, k < 18 → parseFieldDescriptor (TX7 k).2.2.1 = some (tyX7 k) := by decide +kernel
abbrev cX7_init : ByteArray := prog_9_method_1_code
def yX7_init : MethodName := ⟨RX7, "<init>", "()V"⟩
abbrev cX7_isSummer : ByteArray := prog_9_method_2_code
def yX7_isSummer : MethodName := ⟨RX7, "isSummer", "()Z"⟩
abbrev cX7_isUsed : ByteArray := prog_9_method_3_code
def yX7_isUsed : MethodName := ⟨RX7, "isUsed", "(I)Z"⟩
abbrev cX7_addBuilder : ByteArray := prog_9_method_4_code
def yX7_addBuilder : MethodName := ⟨RX7, "addBuilder", "(III)V"⟩
abbrev cX7_addHindrance : ByteArray := prog_9_method_5_code
def yX7_addHindrance : MethodName := ⟨RX7, "addHindrance", "(II)V"⟩
abbrev cX7_layTogether : ByteArray := prog_9_method_6_code
def yX7_layTogether : MethodName := ⟨RX7, "layTogether", "(IIII)I"⟩
abbrev cX7_laidBehind : ByteArray := prog_9_method_7_code
def yX7_laidBehind : MethodName := ⟨RX7, "laidBehind", "(III)I"⟩
abbrev cX7_costOf : ByteArray := prog_9_method_8_code
def yX7_costOf : MethodName := ⟨RX7, "costOf", "(I)I"⟩
abbrev cX7_costToday : ByteArray := prog_9_method_9_code
def yX7_costToday : MethodName := ⟨RX7, "costToday", "()I"⟩
abbrev cX7_forbidden : ByteArray := prog_9_method_10_code
def yX7_forbidden : MethodName := ⟨RX7, "forbidden", "()I"⟩
abbrev cX7_breaksSworn : ByteArray := prog_9_method_11_code
def yX7_breaksSworn : MethodName := ⟨RX7, "breaksSworn", "(I)Z"⟩
abbrev cX7_hinder : ByteArray := prog_9_method_12_code
def yX7_hinder : MethodName := ⟨RX7, "hinder", "(I)V"⟩
abbrev cX7_pass : ByteArray := prog_9_method_13_code
def yX7_pass : MethodName := ⟨RX7, "pass", "(I)I"⟩
abbrev cX7_drawWeather : ByteArray := prog_9_method_14_code
def yX7_drawWeather : MethodName := ⟨RX7, "drawWeather", "()I"⟩
abbrev cX7_remember : ByteArray := prog_9_method_15_code
def yX7_remember : MethodName := ⟨RX7, "remember", "()V"⟩
abbrev cX7_recall : ByteArray := prog_9_method_16_code
def yX7_recall : MethodName := ⟨RX7, "recall", "()V"⟩
abbrev cX7_begin : ByteArray := prog_9_method_17_code
def yX7_begin : MethodName := ⟨RX7, "begin", "(LSummerWall$Tape;)V"⟩
abbrev cX7_becomes : ByteArray := prog_9_method_18_code
def yX7_becomes : MethodName := ⟨RX7, "becomes", "(LSummerWall$Site;)V"⟩
def RX8 : String := "SummerWall$Tape"
def TX8 : u_T := fun k => match k with
  | 0 => ("SummerWall$Tape", "letters", "[C", true)
  | 1 => ("SummerWall$Tape", "kinds", "[I", true)
  | 2 => ("SummerWall$Tape", "paces", "[I", true)
  | 3 => ("SummerWall$Tape", "horses", "[I", true)
  | 4 => ("SummerWall$Tape", "costs", "[I", true)
  | 5 => ("SummerWall$Tape", "oaths", "[I", true)
  | 6 => ("SummerWall$Tape", "length", "I", false)
  | 7 => ("SummerWall$Tape", "stones", "I", false)
  | 8 => ("SummerWall$Tape", "days", "I", false)
  | 9 => ("SummerWall$Tape", "builderCount", "I", false)
  | 10 => ("SummerWall$Tape", "hindranceCount", "I", false)
  | 11 => ("SummerWall$Tape", "fault", "I", false)
  | _ => ("SummerWall$Tape", "at", "I", false)
def tyX8 : Nat → FieldType := fun k => match k with
  | 0 => .array .char
  | 1 => .array .int
  | 2 => .array .int
  | 3 => .array .int
  | 4 => .array .int
  | 5 => .array .int
  | 6 => .int
  | 7 => .int
  | 8 => .int
  | 9 => .int
  | 10 => .int
  | 11 => .int
  | _ => .int
abbrev wsX80 : List Cond := u_ws RX8 TX8 13
theorem nmX8 : ∀ a, a < 13 → ∀ b, b < 13 → a ≠ b → (TX8 a).2.1 ≠ (TX8 b).2.1 := by decide +kernel
theorem tyX8_ok : ∀ k, k < 13 → parseFieldDescriptor (TX8 k).2.2.1 = some (tyX8 k) := by decide +kernel
abbrev cX8_init : ByteArray := prog_10_method_1_code
def yX8_init : MethodName := ⟨RX8, "<init>", "()V"⟩
abbrev cX8_append : ByteArray := prog_10_method_2_code
def yX8_append : MethodName := ⟨RX8, "append", "(C)V"⟩
abbrev cX8_read : ByteArray := prog_10_method_3_code
def yX8_read : MethodName := ⟨RX8, "read", "()Z"⟩
abbrev cX8_readBuilders : ByteArray := prog_10_method_4_code
def yX8_readBuilders : MethodName := ⟨RX8, "readBuilders", "()Z"⟩
abbrev cX8_readBuilder : ByteArray := prog_10_method_5_code
def yX8_readBuilder : MethodName := ⟨RX8, "readBuilder", "()Z"⟩
abbrev cX8_readHindrances : ByteArray := prog_10_method_6_code
def yX8_readHindrances : MethodName := ⟨RX8, "readHindrances", "()Z"⟩
abbrev cX8_readHindrance : ByteArray := prog_10_method_7_code
def yX8_readHindrance : MethodName := ⟨RX8, "readHindrance", "()Z"⟩
abbrev cX8_readNumber : ByteArray := prog_10_method_8_code
def yX8_readNumber : MethodName := ⟨RX8, "readNumber", "(I)I"⟩
abbrev cX8_readDigit : ByteArray := prog_10_method_9_code
def yX8_readDigit : MethodName := ⟨RX8, "readDigit", "(I)I"⟩
abbrev cX8_readSign : ByteArray := prog_10_method_10_code
def yX8_readSign : MethodName := ⟨RX8, "readSign", "(C)Z"⟩
abbrev cX8_next : ByteArray := prog_10_method_11_code
def yX8_next : MethodName := ⟨RX8, "next", "()C"⟩
abbrev cX8_failAt : ByteArray := prog_10_method_12_code
def yX8_failAt : MethodName := ⟨RX8, "failAt", "(I)Z"⟩
abbrev cX8_isDigit : ByteArray := prog_10_method_13_code
def yX8_isDigit : MethodName := ⟨RX8, "isDigit", "(C)Z"⟩
abbrev cX8_kindOf : ByteArray := prog_10_method_14_code
def yX8_kindOf : MethodName := ⟨RX8, "kindOf", "(C)I"⟩
def RX9 : String := "SummerWall"
def TX9 : u_T := fun k => match k with
  | 0 => ("SummerWall", "now", "LSummerWall$Site;", true)
  | 1 => ("SummerWall", "kept", "LSummerWall$Site;", true)
  | 2 => ("SummerWall", "tape", "LSummerWall$Tape;", true)
  | 3 => ("SummerWall", "foretold", "LSummerWall$Foretold;", true)
  | 4 => ("SummerWall", "sheets", "[LSummerWall$Sheet;", true)
  | _ => ("SummerWall", "imaged", "Z", false)
def tyX9 : Nat → FieldType := fun k => match k with
  | 0 => .object "SummerWall$Site"
  | 1 => .object "SummerWall$Site"
  | 2 => .object "SummerWall$Tape"
  | 3 => .object "SummerWall$Foretold"
  | 4 => .array (.object "SummerWall$Sheet")
  | _ => .boolean
abbrev wsX90 : List Cond := u_ws RX9 TX9 6
theorem nmX9 : ∀ a, a < 6 → ∀ b, b < 6 → a ≠ b → (TX9 a).2.1 ≠ (TX9 b).2.1 := by decide +kernel
theorem tyX9_ok : ∀ k, k < 6 → parseFieldDescriptor (TX9 k).2.2.1 = some (tyX9 k) := by decide +kernel
abbrev cX9_init : ByteArray := prog_1_method_1_code
def yX9_init : MethodName := ⟨RX9, "<init>", "()V"⟩
abbrev cX9_builder : ByteArray := prog_1_method_2_code
def yX9_builder : MethodName := ⟨RX9, "builder", "(III)I"⟩
abbrev cX9_of : ByteArray := prog_1_method_3_code
def yX9_of : MethodName := ⟨RX9, "of", "(II)I"⟩
abbrev cX9_wall : ByteArray := prog_1_method_4_code
def yX9_wall : MethodName := ⟨RX9, "wall", "(II)I"⟩
abbrev cX9_changeStones : ByteArray := prog_1_method_5_code
def yX9_changeStones : MethodName := ⟨RX9, "changeStones", "(I)I"⟩
abbrev cX9_changeDays : ByteArray := prog_1_method_6_code
def yX9_changeDays : MethodName := ⟨RX9, "changeDays", "(I)I"⟩
abbrev cX9_changeFrost : ByteArray := prog_1_method_7_code
def yX9_changeFrost : MethodName := ⟨RX9, "changeFrost", "(I)I"⟩
abbrev cX9_changeThaw : ByteArray := prog_1_method_8_code
def yX9_changeThaw : MethodName := ⟨RX9, "changeThaw", "(I)I"⟩
abbrev cX9_hindrance : ByteArray := prog_1_method_9_code
def yX9_hindrance : MethodName := ⟨RX9, "hindrance", "(II)I"⟩
abbrev cX9_oath : ByteArray := prog_1_method_10_code
def yX9_oath : MethodName := ⟨RX9, "oath", "(II)I"⟩
abbrev cX9_type : ByteArray := prog_1_method_11_code
def yX9_type : MethodName := ⟨RX9, "type", "(I)I"⟩
abbrev cX9_bargain : ByteArray := prog_1_method_12_code
def yX9_bargain : MethodName := ⟨RX9, "bargain", "()I"⟩
abbrev cX9_count : ByteArray := prog_1_method_13_code
def yX9_count : MethodName := ⟨RX9, "count", "(I)I"⟩
abbrev cX9_day : ByteArray := prog_1_method_14_code
def yX9_day : MethodName := ⟨RX9, "day", "(I)I"⟩
abbrev cX9_use : ByteArray := prog_1_method_15_code
def yX9_use : MethodName := ⟨RX9, "use", "(I)I"⟩
abbrev cX9_drift : ByteArray := prog_1_method_16_code
def yX9_drift : MethodName := ⟨RX9, "drift", "(I)I"⟩
abbrev cX9_undo : ByteArray := prog_1_method_17_code
def yX9_undo : MethodName := ⟨RX9, "undo", "()I"⟩
abbrev cX9_seed : ByteArray := prog_1_method_18_code
def yX9_seed : MethodName := ⟨RX9, "seed", "(I)I"⟩
abbrev cX9_odds : ByteArray := prog_1_method_19_code
def yX9_odds : MethodName := ⟨RX9, "odds", "()I"⟩
abbrev cX9_oddsAt : ByteArray := prog_1_method_20_code
def yX9_oddsAt : MethodName := ⟨RX9, "oddsAt", "(II)I"⟩
abbrev cX9_sure : ByteArray := prog_1_method_21_code
def yX9_sure : MethodName := ⟨RX9, "sure", "(I)I"⟩
abbrev cX9_pace : ByteArray := prog_1_method_22_code
def yX9_pace : MethodName := ⟨RX9, "pace", "(II)I"⟩
abbrev cX9_plan : ByteArray := prog_1_method_23_code
def yX9_plan : MethodName := ⟨RX9, "plan", "(II)I"⟩
abbrev cX9_best : ByteArray := prog_1_method_24_code
def yX9_best : MethodName := ⟨RX9, "best", "(II)I"⟩
abbrev cX9_soonest : ByteArray := prog_1_method_25_code
def yX9_soonest : MethodName := ⟨RX9, "soonest", "(I)I"⟩
abbrev cX9_mean : ByteArray := prog_1_method_26_code
def yX9_mean : MethodName := ⟨RX9, "mean", "(II)I"⟩
abbrev cX9_image : ByteArray := prog_1_method_27_code
def yX9_image : MethodName := ⟨RX9, "image", "()I"⟩
abbrev cX9_restore : ByteArray := prog_1_method_28_code
def yX9_restore : MethodName := ⟨RX9, "restore", "()I"⟩
abbrev cX9_weather : ByteArray := prog_1_method_29_code
def yX9_weather : MethodName := ⟨RX9, "weather", "(IIIII)I"⟩
abbrev cX9_weatherOf : ByteArray := prog_1_method_30_code
def yX9_weatherOf : MethodName := ⟨RX9, "weatherOf", "([JIII)I"⟩
abbrev cX9_fittingWeathers : ByteArray := prog_1_method_31_code
def yX9_fittingWeathers : MethodName := ⟨RX9, "fittingWeathers", "(IJI)I"⟩
abbrev cX9_film : ByteArray := prog_1_method_32_code
def yX9_film : MethodName := ⟨RX9, "film", "(IIIII)I"⟩
abbrev cX9_sheet : ByteArray := prog_1_method_33_code
def yX9_sheet : MethodName := ⟨RX9, "sheet", "(III)I"⟩
abbrev cX9_drop : ByteArray := prog_1_method_34_code
def yX9_drop : MethodName := ⟨RX9, "drop", "(I)I"⟩
abbrev cX9_item : ByteArray := prog_1_method_35_code
def yX9_item : MethodName := ⟨RX9, "item", "(IIIJ)I"⟩
abbrev cX9_copy : ByteArray := prog_1_method_36_code
def yX9_copy : MethodName := ⟨RX9, "copy", "(IIIII)I"⟩
abbrev cX9_within : ByteArray := prog_1_method_37_code
def yX9_within : MethodName := ⟨RX9, "within", "(III)Z"⟩
abbrev cX9_isSheet : ByteArray := prog_1_method_38_code
def yX9_isSheet : MethodName := ⟨RX9, "isSheet", "(I)Z"⟩
abbrev cX9_isLane : ByteArray := prog_1_method_39_code
def yX9_isLane : MethodName := ⟨RX9, "isLane", "(I)Z"⟩
abbrev cX9_commonDivisor : ByteArray := prog_1_method_40_code
def yX9_commonDivisor : MethodName := ⟨RX9, "commonDivisor", "(II)I"⟩
def RX10 : String := "SummerWallModel"
def TX10 : u_T := fun k => match k with
  | 0 => ("SummerWallModel", "now", "[I", true)
  | 1 => ("SummerWallModel", "faster", "I", false)
  | 2 => ("SummerWallModel", "by", "I", false)
  | 3 => ("SummerWallModel", "tape", "[I", true)
  | 4 => ("SummerWallModel", "typed", "I", false)
  | 5 => ("SummerWallModel", "place", "I", false)
  | 6 => ("SummerWallModel", "isFault", "Z", false)
  | 7 => ("SummerWallModel", "read", "[I", true)
  | 8 => ("SummerWallModel", "undone", "[I", true)
  | 9 => ("SummerWallModel", "undos", "I", false)
  | 10 => ("SummerWallModel", "chances", "[I", true)
  | 11 => ("SummerWallModel", "parts", "[I", true)
  | 12 => ("SummerWallModel", "nexts", "[I", true)
  | 13 => ("SummerWallModel", "kept", "[I", true)
  | 14 => ("SummerWallModel", "keptUndos", "I", false)
  | 15 => ("SummerWallModel", "isKept", "Z", false)
  | 16 => ("SummerWallModel", "lanes", "[I", true)
  | 17 => ("SummerWallModel", "sizes", "[I", true)
  | 18 => ("SummerWallModel", "items", "[J", true)
  | _ => ("SummerWallModel", "moved", "[J", true)
def tyX10 : Nat → FieldType := fun k => match k with
  | 0 => .array .int
  | 1 => .int
  | 2 => .int
  | 3 => .array .int
  | 4 => .int
  | 5 => .int
  | 6 => .boolean
  | 7 => .array .int
  | 8 => .array .int
  | 9 => .int
  | 10 => .array .int
  | 11 => .array .int
  | 12 => .array .int
  | 13 => .array .int
  | 14 => .int
  | 15 => .boolean
  | 16 => .array .int
  | 17 => .array .int
  | 18 => .array .long
  | _ => .array .long
abbrev wsX100 : List Cond := u_ws RX10 TX10 20
theorem nmX10 : ∀ a, a < 20 → ∀ b, b < 20 → a ≠ b → (TX10 a).2.1 ≠ (TX10 b).2.1 := by decide +kernel
theorem tyX10_ok : ∀ k, k < 20 → parseFieldDescriptor (TX10 k).2.2.1 = some (tyX10 k) := by decide +kernel
abbrev cX10_in : ByteArray := prog_12_method_2_code
def yX10_in : MethodName := ⟨RX10, "in", "(JJJ)Z"⟩
abbrev cX10_init : ByteArray := prog_12_method_3_code
def yX10_init : MethodName := ⟨RX10, "<init>", "()V"⟩
abbrev cX10_isBuilder : ByteArray := prog_12_method_4_code
def yX10_isBuilder : MethodName := ⟨RX10, "isBuilder", "(I)Z"⟩
abbrev cX10_isHindrance : ByteArray := prog_12_method_5_code
def yX10_isHindrance : MethodName := ⟨RX10, "isHindrance", "(I)Z"⟩
abbrev cX10_isWeather : ByteArray := prog_12_method_6_code
def yX10_isWeather : MethodName := ⟨RX10, "isWeather", "(I)Z"⟩
abbrev cX10_haulsOf : ByteArray := prog_12_method_7_code
def yX10_haulsOf : MethodName := ⟨RX10, "haulsOf", "(II)I"⟩
abbrev cX10_laysOf : ByteArray := prog_12_method_8_code
def yX10_laysOf : MethodName := ⟨RX10, "laysOf", "(III)I"⟩
abbrev cX10_behind : ByteArray := prog_12_method_9_code
def yX10_behind : MethodName := ⟨RX10, "behind", "(III)I"⟩
abbrev cX10_builder : ByteArray := prog_12_method_10_code
def yX10_builder : MethodName := ⟨RX10, "builder", "(III)I"⟩
abbrev cX10_of : ByteArray := prog_12_method_11_code
def yX10_of : MethodName := ⟨RX10, "of", "(II)I"⟩
abbrev cX10_wall : ByteArray := prog_12_method_12_code
def yX10_wall : MethodName := ⟨RX10, "wall", "(II)I"⟩
abbrev cX10_hindrance : ByteArray := prog_12_method_13_code
def yX10_hindrance : MethodName := ⟨RX10, "hindrance", "(II)I"⟩
abbrev cX10_oath : ByteArray := prog_12_method_14_code
def yX10_oath : MethodName := ⟨RX10, "oath", "(II)I"⟩
abbrev cX10_count : ByteArray := prog_12_method_15_code
def yX10_count : MethodName := ⟨RX10, "count", "(I)I"⟩
abbrev cX10_type : ByteArray := prog_12_method_16_code
def yX10_type : MethodName := ⟨RX10, "type", "(I)I"⟩
abbrev cX10_here : ByteArray := prog_12_method_17_code
def yX10_here : MethodName := ⟨RX10, "here", "()I"⟩
abbrev cX10_must : ByteArray := prog_12_method_18_code
def yX10_must : MethodName := ⟨RX10, "must", "(Z)V"⟩
abbrev cX10_takes : ByteArray := prog_12_method_19_code
def yX10_takes : MethodName := ⟨RX10, "takes", "(I)V"⟩
abbrev cX10_digit : ByteArray := prog_12_method_20_code
def yX10_digit : MethodName := ⟨RX10, "digit", "(II)I"⟩
abbrev cX10_number : ByteArray := prog_12_method_21_code
def yX10_number : MethodName := ⟨RX10, "number", "(II)I"⟩
abbrev cX10_readBuilders : ByteArray := prog_12_method_22_code
def yX10_readBuilders : MethodName := ⟨RX10, "readBuilders", "()I"⟩
abbrev cX10_readHindrances : ByteArray := prog_12_method_23_code
def yX10_readHindrances : MethodName := ⟨RX10, "readHindrances", "()I"⟩
abbrev cX10_bargain : ByteArray := prog_12_method_24_code
def yX10_bargain : MethodName := ⟨RX10, "bargain", "()I"⟩
abbrev cX10_notes : ByteArray := prog_12_method_25_code
def yX10_notes : MethodName := ⟨RX10, "notes", "()V"⟩
abbrev cX10_isSummer : ByteArray := prog_12_method_26_code
def yX10_isSummer : MethodName := ⟨RX10, "isSummer", "()Z"⟩
abbrev cX10_goesBy : ByteArray := prog_12_method_27_code
def yX10_goesBy : MethodName := ⟨RX10, "goesBy", "(I)I"⟩
abbrev cX10_day : ByteArray := prog_12_method_28_code
def yX10_day : MethodName := ⟨RX10, "day", "(I)I"⟩
abbrev cX10_costOf : ByteArray := prog_12_method_29_code
def yX10_costOf : MethodName := ⟨RX10, "costOf", "(I)I"⟩
abbrev cX10_oathOf : ByteArray := prog_12_method_30_code
def yX10_oathOf : MethodName := ⟨RX10, "oathOf", "(I)I"⟩
abbrev cX10_breaks : ByteArray := prog_12_method_31_code
def yX10_breaks : MethodName := ⟨RX10, "breaks", "(I)Z"⟩
abbrev cX10_isUsed : ByteArray := prog_12_method_32_code
def yX10_isUsed : MethodName := ⟨RX10, "isUsed", "(I)Z"⟩
abbrev cX10_use : ByteArray := prog_12_method_33_code
def yX10_use : MethodName := ⟨RX10, "use", "(I)I"⟩
abbrev cX10_drift : ByteArray := prog_12_method_34_code
def yX10_drift : MethodName := ⟨RX10, "drift", "(I)I"⟩
abbrev cX10_undo : ByteArray := prog_12_method_35_code
def yX10_undo : MethodName := ⟨RX10, "undo", "()I"⟩
abbrev cX10_seed : ByteArray := prog_12_method_36_code
def yX10_seed : MethodName := ⟨RX10, "seed", "(I)I"⟩
abbrev cX10_mixed : ByteArray := prog_12_method_37_code
def yX10_mixed : MethodName := ⟨RX10, "mixed", "(III)I"⟩
abbrev cX10_fills : ByteArray := prog_12_method_38_code
def yX10_fills : MethodName := ⟨RX10, "fills", "(IIIII)V"⟩
abbrev cX10_oddsBy : ByteArray := prog_12_method_39_code
def yX10_oddsBy : MethodName := ⟨RX10, "oddsBy", "(II)I"⟩
abbrev cX10_odds : ByteArray := prog_12_method_40_code
def yX10_odds : MethodName := ⟨RX10, "odds", "()I"⟩
abbrev cX10_oddsAt : ByteArray := prog_12_method_41_code
def yX10_oddsAt : MethodName := ⟨RX10, "oddsAt", "(II)I"⟩
abbrev cX10_isPart : ByteArray := prog_12_method_42_code
def yX10_isPart : MethodName := ⟨RX10, "isPart", "(I)Z"⟩
abbrev cX10_sure : ByteArray := prog_12_method_43_code
def yX10_sure : MethodName := ⟨RX10, "sure", "(I)I"⟩
abbrev cX10_pace : ByteArray := prog_12_method_44_code
def yX10_pace : MethodName := ⟨RX10, "pace", "(II)I"⟩
abbrev cX10_many : ByteArray := prog_12_method_45_code
def yX10_many : MethodName := ⟨RX10, "many", "(I)I"⟩
abbrev cX10_plan : ByteArray := prog_12_method_46_code
def yX10_plan : MethodName := ⟨RX10, "plan", "(II)I"⟩
abbrev cX10_best : ByteArray := prog_12_method_47_code
def yX10_best : MethodName := ⟨RX10, "best", "(II)I"⟩
abbrev cX10_soonest : ByteArray := prog_12_method_48_code
def yX10_soonest : MethodName := ⟨RX10, "soonest", "(I)I"⟩
abbrev cX10_shares : ByteArray := prog_12_method_49_code
def yX10_shares : MethodName := ⟨RX10, "shares", "(I)V"⟩
abbrev cX10_mean : ByteArray := prog_12_method_50_code
def yX10_mean : MethodName := ⟨RX10, "mean", "(II)I"⟩
abbrev cX10_image : ByteArray := prog_12_method_51_code
def yX10_image : MethodName := ⟨RX10, "image", "()I"⟩
abbrev cX10_restore : ByteArray := prog_12_method_52_code
def yX10_restore : MethodName := ⟨RX10, "restore", "()I"⟩
abbrev cX10_isSheet : ByteArray := prog_12_method_53_code
def yX10_isSheet : MethodName := ⟨RX10, "isSheet", "(I)Z"⟩
abbrev cX10_isLane : ByteArray := prog_12_method_54_code
def yX10_isLane : MethodName := ⟨RX10, "isLane", "(I)Z"⟩
abbrev cX10_why : ByteArray := prog_12_method_55_code
def yX10_why : MethodName := ⟨RX10, "why", "(IIII)I"⟩
abbrev cX10_weather : ByteArray := prog_12_method_56_code
def yX10_weather : MethodName := ⟨RX10, "weather", "(IIIII)I"⟩
abbrev cX10_film : ByteArray := prog_12_method_57_code
def yX10_film : MethodName := ⟨RX10, "film", "(IIIII)I"⟩
abbrev cX10_sheet : ByteArray := prog_12_method_58_code
def yX10_sheet : MethodName := ⟨RX10, "sheet", "(III)I"⟩
abbrev cX10_drop : ByteArray := prog_12_method_59_code
def yX10_drop : MethodName := ⟨RX10, "drop", "(I)I"⟩
abbrev cX10_item : ByteArray := prog_12_method_60_code
def yX10_item : MethodName := ⟨RX10, "item", "(IIIJ)I"⟩
abbrev cX10_copy : ByteArray := prog_12_method_61_code
def yX10_copy : MethodName := ⟨RX10, "copy", "(IIIII)I"⟩
def RJ6 : String := "java/lang/Integer"
def TJ6 : u_T := fun k => match k with
  | _ => ("", "", "", false)
def tyJ6 : Nat → FieldType := fun k => match k with
  | _ => .int
abbrev wsJ60 : List Cond := u_ws RJ6 TJ6 0
theorem nmJ6 : ∀ a, a < 0 → ∀ b, b < 0 → a ≠ b → (TJ6 a).2.1 ≠ (TJ6 b).2.1 := by decide +kernel
theorem tyJ6_ok : ∀ k, k < 0 → parseFieldDescriptor (TJ6 k).2.2.1 = some (tyJ6 k) := by decide +kernel
abbrev cJ6_bitCount_0f7a4 : ByteArray := prog_13_method_49_code
def yJ6_bitCount_0f7a4 : MethodName := ⟨RJ6, "bitCount", "(I)I"⟩
def RJ9 : String := "java/lang/Math"
def TJ9 : u_T := fun k => match k with
  | _ => ("", "", "", false)
def tyJ9 : Nat → FieldType := fun k => match k with
  | _ => .int
abbrev wsJ90 : List Cond := u_ws RJ9 TJ9 0
theorem nmJ9 : ∀ a, a < 0 → ∀ b, b < 0 → a ≠ b → (TJ9 a).2.1 ≠ (TJ9 b).2.1 := by decide +kernel
theorem tyJ9_ok : ∀ k, k < 0 → parseFieldDescriptor (TJ9 k).2.2.1 = some (tyJ9 k) := by decide +kernel
abbrev cJ9_min_7cf53 : ByteArray := prog_14_method_69_code
def yJ9_min_7cf53 : MethodName := ⟨RJ9, "min", "(II)I"⟩
def RJ10 : String := "java/lang/System"
def TJ10 : u_T := fun k => match k with
  | _ => ("", "", "", false)
def tyJ10 : Nat → FieldType := fun k => match k with
  | _ => .int
abbrev wsJ100 : List Cond := u_ws RJ10 TJ10 0
theorem nmJ10 : ∀ a, a < 0 → ∀ b, b < 0 → a ≠ b → (TJ10 a).2.1 ≠ (TJ10 b).2.1 := by decide +kernel
theorem tyJ10_ok : ∀ k, k < 0 → parseFieldDescriptor (TJ10 k).2.2.1 = some (tyJ10 k) := by decide +kernel
def RL : String := "SummerWallLaw"
abbrev cL_law : ByteArray := code
def yL_law : MethodName := ⟨RL, "law", "([I)Z"⟩
abbrev vwCl : List vw_C := [(RX0, TX0, 2), (RX1, TX1, 16), (RX2, TX2, 2), (RX3, TX3, 2), (RX4, TX4, 2), (RX5, TX5, 2), (RX6, TX6, 4), (RX7, TX7, 18), (RX8, TX8, 13), (RX9, TX9, 6), (RX10, TX10, 20)]
end
section
theorem tm1 {w : Cond} (h : w ∈ tables_1_1) : w ∈ lw_tbl := List.mem_append_right _ (List.mem_append_left _ (h))
theorem tm2 {w : Cond} (h : w ∈ tables_1_2) : w ∈ lw_tbl := List.mem_append_right _ (List.mem_append_right _ (List.mem_append_left _ (h)))
theorem tm3 {w : Cond} (h : w ∈ tables_1_3) : w ∈ lw_tbl := List.mem_append_right _ (List.mem_append_right _ (List.mem_append_right _ (List.mem_append_left _ (h))))
theorem tm4 {w : Cond} (h : w ∈ tables_1_4) : w ∈ lw_tbl := List.mem_append_right _ (List.mem_append_right _ (List.mem_append_right _ (List.mem_append_right _ (List.mem_append_left _ (h)))))
theorem tm5 {w : Cond} (h : w ∈ tables_1_5) : w ∈ lw_tbl := List.mem_append_right _ (List.mem_append_right _ (List.mem_append_right _ (List.mem_append_right _ (List.mem_append_right _ (h)))))
theorem tw1_0 : Cond.initialized RL ∈ lw_tbl := tm1 (List.mem_of_getElem? (i := 0) rfl)
theorem tw1_1 : Cond.initialized RX9 ∈ lw_tbl := tm1 (List.mem_of_getElem? (i := 1) rfl)
theorem tw1_2 : Cond.initialized RX7 ∈ lw_tbl := tm1 (List.mem_of_getElem? (i := 2) rfl)
theorem tw1_3 : Cond.initialized RX8 ∈ lw_tbl := tm1 (List.mem_of_getElem? (i := 3) rfl)
theorem tw1_4 : Cond.initialized RX1 ∈ lw_tbl := tm1 (List.mem_of_getElem? (i := 4) rfl)
theorem tw1_5 : Cond.initialized RX6 ∈ lw_tbl := tm1 (List.mem_of_getElem? (i := 5) rfl)
theorem tw1_6 : Cond.initialized RX10 ∈ lw_tbl := tm1 (List.mem_of_getElem? (i := 6) rfl)
theorem tw1_7 : Cond.initialized RX5 ∈ lw_tbl := tm1 (List.mem_of_getElem? (i := 7) rfl)
theorem tw1_8 : Cond.initialized RX3 ∈ lw_tbl := tm1 (List.mem_of_getElem? (i := 8) rfl)
theorem tw1_9 : Cond.initialized RX0 ∈ lw_tbl := tm1 (List.mem_of_getElem? (i := 9) rfl)
theorem tw1_10 : Cond.initialized RX2 ∈ lw_tbl := tm1 (List.mem_of_getElem? (i := 10) rfl)
theorem tw1_11 : Cond.initialized RX4 ∈ lw_tbl := tm1 (List.mem_of_getElem? (i := 11) rfl)
theorem tw1_12 : Cond.initialized RJ10 ∈ lw_tbl := tm1 (List.mem_of_getElem? (i := 12) rfl)
theorem tw1_13 : Cond.initialized RJ9 ∈ lw_tbl := tm1 (List.mem_of_getElem? (i := 13) rfl)
theorem tw1_14 : Cond.initialized RJ6 ∈ lw_tbl := tm1 (List.mem_of_getElem? (i := 14) rfl)
theorem tw1_15 : Cond.classLink RL 7 "SummerWall" ∈ lw_tbl := tm1 (List.mem_of_getElem? (i := 15) rfl)
theorem tw1_16 : Cond.instantiable RX9 6 ∈ lw_tbl := tm1 (List.mem_of_getElem? (i := 16) rfl)
theorem tw1_17 : Cond.methodLink RL 9 yX9_init ∈ lw_tbl := tm1 (List.mem_of_getElem? (i := 17) rfl)
theorem tw1_18 : Cond.instanceMethod yX9_init ∈ lw_tbl := tm1 (List.mem_of_getElem? (i := 18) rfl)
theorem tw1_19 : Cond.code yX9_init cX9_init 2 (none : Option FieldType) ∈ lw_tbl := tm1 (List.mem_of_getElem? (i := 19) rfl)
theorem tw1_20 : Cond.methodLink RX9 1 objectInit ∈ lw_tbl := tm1 (List.mem_of_getElem? (i := 20) rfl)
theorem tw1_21 : Cond.instanceMethod objectInit ∈ lw_tbl := tm1 (List.mem_of_getElem? (i := 21) rfl)
theorem tw1_22 : Cond.code objectInit object_method_1_code 1 (none : Option FieldType) ∈ lw_tbl := tm1 (List.mem_of_getElem? (i := 22) rfl)
theorem tw1_23 : Cond.classLink RX9 7 "SummerWall$Site" ∈ lw_tbl := tm1 (List.mem_of_getElem? (i := 23) rfl)
theorem tw1_24 : Cond.instantiable RX7 18 ∈ lw_tbl := tm1 (List.mem_of_getElem? (i := 24) rfl)
theorem tw1_25 : Cond.methodLinkNest RX9 9 yX7_init "SummerWall" ∈ lw_tbl := tm1 (List.mem_of_getElem? (i := 25) rfl)
theorem tw1_26 : Cond.instanceMethod yX7_init ∈ lw_tbl := tm1 (List.mem_of_getElem? (i := 26) rfl)
theorem tw1_27 : Cond.code yX7_init cX7_init 1 (none : Option FieldType) ∈ lw_tbl := tm1 (List.mem_of_getElem? (i := 27) rfl)
theorem tw1_28 : Cond.methodLink RX7 3 objectInit ∈ lw_tbl := tm1 (List.mem_of_getElem? (i := 28) rfl)
theorem tw1_29 : Cond.classLink RX7 30 "SummerWall$Plain" ∈ lw_tbl := tm1 (List.mem_of_getElem? (i := 29) rfl)
theorem tw1_30 : Cond.arrayOver (FieldType.object "SummerWall$Plain") ∈ lw_tbl := tm1 (List.mem_of_getElem? (i := 30) rfl)
theorem tw1_31 : Cond.fieldLink RX7 9 "SummerWall$Site" "stones" "I" ∈ lw_tbl := tm1 (List.mem_of_getElem? (i := 31) rfl)
theorem tw1_32 : Cond.fieldLink RX9 95 "SummerWall$Site" "stones" "I" ∈ lw_tbl := tm1 (List.mem_of_getElem? (i := 32) rfl)
theorem tw1_33 : Cond.fieldLink RX1 131 "SummerWall$Site" "stones" "I" ∈ lw_tbl := tm1 (List.mem_of_getElem? (i := 33) rfl)
theorem tw1_34 : Cond.fieldLink RX7 15 "SummerWall$Site" "days" "I" ∈ lw_tbl := tm1 (List.mem_of_getElem? (i := 34) rfl)
theorem tw1_35 : Cond.fieldLink RX9 101 "SummerWall$Site" "days" "I" ∈ lw_tbl := tm1 (List.mem_of_getElem? (i := 35) rfl)
theorem tw1_36 : Cond.fieldLink RX1 132 "SummerWall$Site" "days" "I" ∈ lw_tbl := tm1 (List.mem_of_getElem? (i := 36) rfl)
theorem tw1_37 : Cond.fieldLink RX7 18 "SummerWall$Site" "frost" "I" ∈ lw_tbl := tm1 (List.mem_of_getElem? (i := 37) rfl)
theorem tw1_38 : Cond.fieldLink RX9 107 "SummerWall$Site" "frost" "I" ∈ lw_tbl := tm1 (List.mem_of_getElem? (i := 38) rfl)
theorem tw1_39 : Cond.fieldLink RX1 133 "SummerWall$Site" "frost" "I" ∈ lw_tbl := tm1 (List.mem_of_getElem? (i := 39) rfl)
theorem tw1_40 : Cond.fieldLink RX7 21 "SummerWall$Site" "thaw" "I" ∈ lw_tbl := tm1 (List.mem_of_getElem? (i := 40) rfl)
theorem tw1_41 : Cond.fieldLink RX9 104 "SummerWall$Site" "thaw" "I" ∈ lw_tbl := tm1 (List.mem_of_getElem? (i := 41) rfl)
theorem tw1_42 : Cond.fieldLink RX1 134 "SummerWall$Site" "thaw" "I" ∈ lw_tbl := tm1 (List.mem_of_getElem? (i := 42) rfl)
theorem tw1_43 : Cond.fieldLink RX7 46 "SummerWall$Site" "day" "I" ∈ lw_tbl := tm1 (List.mem_of_getElem? (i := 43) rfl)
theorem tw1_44 : Cond.fieldLink RX1 33 "SummerWall$Site" "day" "I" ∈ lw_tbl := tm1 (List.mem_of_getElem? (i := 44) rfl)
theorem tw1_45 : Cond.fieldLink RX9 98 "SummerWall$Site" "day" "I" ∈ lw_tbl := tm1 (List.mem_of_getElem? (i := 45) rfl)
theorem tw1_46 : Cond.fieldLink RX1 39 "SummerWall$Site" "laid" "I" ∈ lw_tbl := tm1 (List.mem_of_getElem? (i := 46) rfl)
theorem tw1_47 : Cond.fieldLink RX9 71 "SummerWall$Site" "laid" "I" ∈ lw_tbl := tm1 (List.mem_of_getElem? (i := 47) rfl)
theorem tw1_48 : Cond.fieldLink RX7 90 "SummerWall$Site" "laid" "I" ∈ lw_tbl := tm1 (List.mem_of_getElem? (i := 48) rfl)
theorem tw1_49 : Cond.fieldLink RX7 49 "SummerWall$Site" "used" "I" ∈ lw_tbl := tm1 (List.mem_of_getElem? (i := 49) rfl)
theorem tw1_50 : Cond.fieldLink RX1 75 "SummerWall$Site" "used" "I" ∈ lw_tbl := tm1 (List.mem_of_getElem? (i := 50) rfl)
theorem tw1_51 : Cond.fieldLink RX9 138 "SummerWall$Site" "used" "I" ∈ lw_tbl := tm1 (List.mem_of_getElem? (i := 51) rfl)
theorem tw1_52 : Cond.fieldLink RX7 76 "SummerWall$Site" "usedToday" "I" ∈ lw_tbl := tm1 (List.mem_of_getElem? (i := 52) rfl)
theorem tw1_53 : Cond.fieldLink RX7 87 "SummerWall$Site" "broken" "I" ∈ lw_tbl := tm1 (List.mem_of_getElem? (i := 53) rfl)
theorem tw1_54 : Cond.fieldLink RX9 144 "SummerWall$Site" "broken" "I" ∈ lw_tbl := tm1 (List.mem_of_getElem? (i := 54) rfl)
theorem tw1_55 : Cond.fieldLink RX7 24 "SummerWall$Site" "sworn" "I" ∈ lw_tbl := tm1 (List.mem_of_getElem? (i := 55) rfl)
theorem tw1_56 : Cond.fieldLink RX9 117 "SummerWall$Site" "sworn" "I" ∈ lw_tbl := tm1 (List.mem_of_getElem? (i := 56) rfl)
theorem tw1_57 : Cond.fieldLink RX7 27 "SummerWall$Site" "draw" "I" ∈ lw_tbl := tm1 (List.mem_of_getElem? (i := 57) rfl)
theorem tw1_58 : Cond.fieldLink RX9 170 "SummerWall$Site" "draw" "I" ∈ lw_tbl := tm1 (List.mem_of_getElem? (i := 58) rfl)
theorem tw1_59 : Cond.fieldLink RX9 44 "SummerWall$Site" "builderCount" "I" ∈ lw_tbl := tm1 (List.mem_of_getElem? (i := 59) rfl)
theorem tw1_60 : Cond.fieldLink RX7 52 "SummerWall$Site" "builderCount" "I" ∈ lw_tbl := tm1 (List.mem_of_getElem? (i := 60) rfl)
theorem tw1_61 : Cond.fieldLink RX7 59 "SummerWall$Site" "hindranceCount" "I" ∈ lw_tbl := tm1 (List.mem_of_getElem? (i := 61) rfl)
theorem tw1_62 : Cond.fieldLink RX1 81 "SummerWall$Site" "hindranceCount" "I" ∈ lw_tbl := tm1 (List.mem_of_getElem? (i := 62) rfl)
theorem tw1_63 : Cond.fieldLink RX9 110 "SummerWall$Site" "hindranceCount" "I" ∈ lw_tbl := tm1 (List.mem_of_getElem? (i := 63) rfl)
theorem tw1_64 : Cond.fieldLink RX9 52 "SummerWall$Site" "pastCount" "I" ∈ lw_tbl := tm1 (List.mem_of_getElem? (i := 64) rfl)
theorem tw1_65 : Cond.fieldLink RX7 107 "SummerWall$Site" "pastCount" "I" ∈ lw_tbl := tm1 (List.mem_of_getElem? (i := 65) rfl)
theorem tw1_66 : Cond.fieldLink RX7 32 "SummerWall$Site" "builders" "[LSummerWall$Plain;" ∈ lw_tbl := tm1 (List.mem_of_getElem? (i := 66) rfl)
theorem tw1_67 : Cond.fieldLink RX9 55 "SummerWall$Site" "builders" "[LSummerWall$Plain;" ∈ lw_tbl := tm1 (List.mem_of_getElem? (i := 67) rfl)
theorem tw1_68 : Cond.fieldLink RX7 36 "SummerWall$Site" "costs" "[I" ∈ lw_tbl := tm1 (List.mem_of_getElem? (i := 68) rfl)
theorem tw1_69 : Cond.fieldLink RX7 40 "SummerWall$Site" "oaths" "[I" ∈ lw_tbl := tm1 (List.mem_of_getElem? (i := 69) rfl)
theorem tw1_70 : Cond.fieldLink RX7 43 "SummerWall$Site" "past" "[I" ∈ lw_tbl := tm1 (List.mem_of_getElem? (i := 70) rfl)
theorem tw1_71 : Cond.lays RX7 "SummerWall$Site" "stones" "I" ∈ lw_tbl := tm1 (List.mem_of_getElem? (i := 71) rfl)
theorem tw1_73 : Cond.lays RX7 "SummerWall$Site" "days" "I" ∈ lw_tbl := tm1 (List.mem_of_getElem? (i := 73) rfl)
theorem tw1_75 : Cond.lays RX7 "SummerWall$Site" "frost" "I" ∈ lw_tbl := tm1 (List.mem_of_getElem? (i := 75) rfl)
theorem tw1_77 : Cond.lays RX7 "SummerWall$Site" "thaw" "I" ∈ lw_tbl := tm1 (List.mem_of_getElem? (i := 77) rfl)
theorem tw1_79 : Cond.lays RX7 "SummerWall$Site" "day" "I" ∈ lw_tbl := tm1 (List.mem_of_getElem? (i := 79) rfl)
theorem tw1_81 : Cond.lays RX7 "SummerWall$Site" "laid" "I" ∈ lw_tbl := tm1 (List.mem_of_getElem? (i := 81) rfl)
theorem tw1_83 : Cond.lays RX7 "SummerWall$Site" "used" "I" ∈ lw_tbl := tm1 (List.mem_of_getElem? (i := 83) rfl)
theorem tw1_85 : Cond.lays RX7 "SummerWall$Site" "usedToday" "I" ∈ lw_tbl := tm1 (List.mem_of_getElem? (i := 85) rfl)
theorem tw1_87 : Cond.lays RX7 "SummerWall$Site" "broken" "I" ∈ lw_tbl := tm1 (List.mem_of_getElem? (i := 87) rfl)
theorem tw1_89 : Cond.lays RX7 "SummerWall$Site" "sworn" "I" ∈ lw_tbl := tm1 (List.mem_of_getElem? (i := 89) rfl)
theorem tw1_91 : Cond.lays RX7 "SummerWall$Site" "draw" "I" ∈ lw_tbl := tm1 (List.mem_of_getElem? (i := 91) rfl)
theorem tw1_93 : Cond.lays RX7 "SummerWall$Site" "builderCount" "I" ∈ lw_tbl := tm1 (List.mem_of_getElem? (i := 93) rfl)
theorem tw1_95 : Cond.lays RX7 "SummerWall$Site" "hindranceCount" "I" ∈ lw_tbl := tm1 (List.mem_of_getElem? (i := 95) rfl)
theorem tw1_97 : Cond.lays RX7 "SummerWall$Site" "pastCount" "I" ∈ lw_tbl := tm1 (List.mem_of_getElem? (i := 97) rfl)
theorem tw1_99 : Cond.laysFinal RX7 "SummerWall$Site" "builders" "[LSummerWall$Plain;" ∈ lw_tbl := tm1 (List.mem_of_getElem? (i := 99) rfl)
theorem tw1_101 : Cond.laysFinal RX7 "SummerWall$Site" "costs" "[I" ∈ lw_tbl := tm1 (List.mem_of_getElem? (i := 101) rfl)
theorem tw1_103 : Cond.laysFinal RX7 "SummerWall$Site" "oaths" "[I" ∈ lw_tbl := tm1 (List.mem_of_getElem? (i := 103) rfl)
theorem tw1_105 : Cond.laysFinal RX7 "SummerWall$Site" "past" "[I" ∈ lw_tbl := tm1 (List.mem_of_getElem? (i := 105) rfl)
theorem tw1_108 : Cond.arrayClass FieldType.int ∈ lw_tbl := tm1 (List.mem_of_getElem? (i := 108) rfl)
theorem tw1_109 : Cond.classLink RX9 19 "SummerWall$Tape" ∈ lw_tbl := tm1 (List.mem_of_getElem? (i := 109) rfl)
theorem tw1_110 : Cond.instantiable RX8 13 ∈ lw_tbl := tm1 (List.mem_of_getElem? (i := 110) rfl)
theorem tw1_111 : Cond.methodLinkNest RX9 21 yX8_init "SummerWall" ∈ lw_tbl := tm1 (List.mem_of_getElem? (i := 111) rfl)
theorem tw1_112 : Cond.instanceMethod yX8_init ∈ lw_tbl := tm1 (List.mem_of_getElem? (i := 112) rfl)
theorem tw1_113 : Cond.code yX8_init cX8_init 1 (none : Option FieldType) ∈ lw_tbl := tm1 (List.mem_of_getElem? (i := 113) rfl)
theorem tw1_114 : Cond.methodLink RX8 3 objectInit ∈ lw_tbl := tm1 (List.mem_of_getElem? (i := 114) rfl)
theorem tw1_115 : Cond.fieldLink RX8 9 "SummerWall$Tape" "letters" "[C" ∈ lw_tbl := tm1 (List.mem_of_getElem? (i := 115) rfl)
theorem tw1_116 : Cond.fieldLink RX8 15 "SummerWall$Tape" "kinds" "[I" ∈ lw_tbl := tm1 (List.mem_of_getElem? (i := 116) rfl)
theorem tw1_117 : Cond.fieldLink RX7 121 "SummerWall$Tape" "kinds" "[I" ∈ lw_tbl := tm1 (List.mem_of_getElem? (i := 117) rfl)
theorem tw1_118 : Cond.fieldLink RX8 19 "SummerWall$Tape" "paces" "[I" ∈ lw_tbl := tm1 (List.mem_of_getElem? (i := 118) rfl)
theorem tw1_119 : Cond.fieldLink RX7 124 "SummerWall$Tape" "paces" "[I" ∈ lw_tbl := tm1 (List.mem_of_getElem? (i := 119) rfl)
theorem tw1_120 : Cond.fieldLink RX8 22 "SummerWall$Tape" "horses" "[I" ∈ lw_tbl := tm1 (List.mem_of_getElem? (i := 120) rfl)
theorem tw1_121 : Cond.fieldLink RX7 127 "SummerWall$Tape" "horses" "[I" ∈ lw_tbl := tm1 (List.mem_of_getElem? (i := 121) rfl)
theorem tw1_122 : Cond.fieldLink RX8 25 "SummerWall$Tape" "costs" "[I" ∈ lw_tbl := tm1 (List.mem_of_getElem? (i := 122) rfl)
theorem tw1_123 : Cond.fieldLink RX7 135 "SummerWall$Tape" "costs" "[I" ∈ lw_tbl := tm1 (List.mem_of_getElem? (i := 123) rfl)
theorem tw1_124 : Cond.fieldLink RX8 28 "SummerWall$Tape" "oaths" "[I" ∈ lw_tbl := tm1 (List.mem_of_getElem? (i := 124) rfl)
theorem tw1_125 : Cond.fieldLink RX7 136 "SummerWall$Tape" "oaths" "[I" ∈ lw_tbl := tm1 (List.mem_of_getElem? (i := 125) rfl)
theorem tw1_126 : Cond.fieldLink RX8 31 "SummerWall$Tape" "length" "I" ∈ lw_tbl := tm1 (List.mem_of_getElem? (i := 126) rfl)
theorem tw1_127 : Cond.fieldLink RX9 120 "SummerWall$Tape" "length" "I" ∈ lw_tbl := tm1 (List.mem_of_getElem? (i := 127) rfl)
theorem tw1_128 : Cond.fieldLink RX8 48 "SummerWall$Tape" "stones" "I" ∈ lw_tbl := tm1 (List.mem_of_getElem? (i := 128) rfl)
theorem tw1_129 : Cond.fieldLink RX7 116 "SummerWall$Tape" "stones" "I" ∈ lw_tbl := tm1 (List.mem_of_getElem? (i := 129) rfl)
theorem tw1_130 : Cond.fieldLink RX8 55 "SummerWall$Tape" "days" "I" ∈ lw_tbl := tm1 (List.mem_of_getElem? (i := 130) rfl)
theorem tw1_131 : Cond.fieldLink RX7 119 "SummerWall$Tape" "days" "I" ∈ lw_tbl := tm1 (List.mem_of_getElem? (i := 131) rfl)
theorem tw1_132 : Cond.fieldLink RX8 38 "SummerWall$Tape" "builderCount" "I" ∈ lw_tbl := tm1 (List.mem_of_getElem? (i := 132) rfl)
theorem tw1_133 : Cond.fieldLink RX7 120 "SummerWall$Tape" "builderCount" "I" ∈ lw_tbl := tm1 (List.mem_of_getElem? (i := 133) rfl)
theorem tw1_134 : Cond.fieldLink RX8 41 "SummerWall$Tape" "hindranceCount" "I" ∈ lw_tbl := tm1 (List.mem_of_getElem? (i := 134) rfl)
theorem tw1_135 : Cond.fieldLink RX7 134 "SummerWall$Tape" "hindranceCount" "I" ∈ lw_tbl := tm1 (List.mem_of_getElem? (i := 135) rfl)
theorem tw1_136 : Cond.fieldLink RX8 93 "SummerWall$Tape" "fault" "I" ∈ lw_tbl := tm1 (List.mem_of_getElem? (i := 136) rfl)
theorem tw1_137 : Cond.fieldLink RX9 131 "SummerWall$Tape" "fault" "I" ∈ lw_tbl := tm1 (List.mem_of_getElem? (i := 137) rfl)
theorem tw1_138 : Cond.fieldLink RX8 35 "SummerWall$Tape" "at" "I" ∈ lw_tbl := tm1 (List.mem_of_getElem? (i := 138) rfl)
theorem tw1_139 : Cond.laysFinal RX8 "SummerWall$Tape" "letters" "[C" ∈ lw_tbl := tm1 (List.mem_of_getElem? (i := 139) rfl)
theorem tw1_141 : Cond.laysFinal RX8 "SummerWall$Tape" "kinds" "[I" ∈ lw_tbl := tm1 (List.mem_of_getElem? (i := 141) rfl)
theorem tw1_143 : Cond.laysFinal RX8 "SummerWall$Tape" "paces" "[I" ∈ lw_tbl := tm1 (List.mem_of_getElem? (i := 143) rfl)
theorem tw1_145 : Cond.laysFinal RX8 "SummerWall$Tape" "horses" "[I" ∈ lw_tbl := tm1 (List.mem_of_getElem? (i := 145) rfl)
theorem tw1_147 : Cond.laysFinal RX8 "SummerWall$Tape" "costs" "[I" ∈ lw_tbl := tm1 (List.mem_of_getElem? (i := 147) rfl)
theorem tw1_149 : Cond.laysFinal RX8 "SummerWall$Tape" "oaths" "[I" ∈ lw_tbl := tm1 (List.mem_of_getElem? (i := 149) rfl)
theorem tw1_151 : Cond.lays RX8 "SummerWall$Tape" "length" "I" ∈ lw_tbl := tm1 (List.mem_of_getElem? (i := 151) rfl)
theorem tw1_153 : Cond.lays RX8 "SummerWall$Tape" "stones" "I" ∈ lw_tbl := tm1 (List.mem_of_getElem? (i := 153) rfl)
theorem tw1_155 : Cond.lays RX8 "SummerWall$Tape" "days" "I" ∈ lw_tbl := tm1 (List.mem_of_getElem? (i := 155) rfl)
theorem tw1_157 : Cond.lays RX8 "SummerWall$Tape" "builderCount" "I" ∈ lw_tbl := tm1 (List.mem_of_getElem? (i := 157) rfl)
theorem tw1_159 : Cond.lays RX8 "SummerWall$Tape" "hindranceCount" "I" ∈ lw_tbl := tm1 (List.mem_of_getElem? (i := 159) rfl)
theorem tw1_161 : Cond.lays RX8 "SummerWall$Tape" "fault" "I" ∈ lw_tbl := tm1 (List.mem_of_getElem? (i := 161) rfl)
theorem tw1_163 : Cond.lays RX8 "SummerWall$Tape" "at" "I" ∈ lw_tbl := tm1 (List.mem_of_getElem? (i := 163) rfl)
theorem tw1_166 : Cond.arrayClass FieldType.char ∈ lw_tbl := tm1 (List.mem_of_getElem? (i := 166) rfl)
theorem tw1_167 : Cond.classLink RX9 26 "SummerWall$Foretold" ∈ lw_tbl := tm1 (List.mem_of_getElem? (i := 167) rfl)
theorem tw1_168 : Cond.instantiable RX1 16 ∈ lw_tbl := tm1 (List.mem_of_getElem? (i := 168) rfl)
theorem tw1_169 : Cond.methodLinkNest RX9 28 yX1_init "SummerWall" ∈ lw_tbl := tm1 (List.mem_of_getElem? (i := 169) rfl)
theorem tw1_170 : Cond.instanceMethod yX1_init ∈ lw_tbl := tm1 (List.mem_of_getElem? (i := 170) rfl)
theorem tw1_171 : Cond.code yX1_init cX1_init 1 (none : Option FieldType) ∈ lw_tbl := tm1 (List.mem_of_getElem? (i := 171) rfl)
theorem tw1_172 : Cond.methodLink RX1 3 objectInit ∈ lw_tbl := tm1 (List.mem_of_getElem? (i := 172) rfl)
theorem tw1_173 : Cond.fieldLink RX1 11 "SummerWall$Foretold" "lays" "[I" ∈ lw_tbl := tm1 (List.mem_of_getElem? (i := 173) rfl)
theorem tw1_174 : Cond.fieldLink RX1 15 "SummerWall$Foretold" "behind" "[I" ∈ lw_tbl := tm1 (List.mem_of_getElem? (i := 174) rfl)
theorem tw1_175 : Cond.fieldLink RX1 18 "SummerWall$Foretold" "behindHindered" "[I" ∈ lw_tbl := tm1 (List.mem_of_getElem? (i := 175) rfl)
theorem tw1_176 : Cond.fieldLink RX1 21 "SummerWall$Foretold" "odds" "[I" ∈ lw_tbl := tm1 (List.mem_of_getElem? (i := 176) rfl)
theorem tw1_177 : Cond.fieldLink RX1 24 "SummerWall$Foretold" "oddsHindered" "[I" ∈ lw_tbl := tm1 (List.mem_of_getElem? (i := 177) rfl)
theorem tw1_178 : Cond.fieldLink RX1 27 "SummerWall$Foretold" "fairPath" "[I" ∈ lw_tbl := tm1 (List.mem_of_getElem? (i := 178) rfl)
theorem tw1_179 : Cond.fieldLink RX1 30 "SummerWall$Foretold" "parts" "[I" ∈ lw_tbl := tm1 (List.mem_of_getElem? (i := 179) rfl)
theorem tw1_180 : Cond.fieldLink RX1 118 "SummerWall$Foretold" "stones" "I" ∈ lw_tbl := tm1 (List.mem_of_getElem? (i := 180) rfl)
theorem tw1_181 : Cond.fieldLink RX1 67 "SummerWall$Foretold" "days" "I" ∈ lw_tbl := tm1 (List.mem_of_getElem? (i := 181) rfl)
theorem tw1_182 : Cond.fieldLink RX1 125 "SummerWall$Foretold" "frost" "I" ∈ lw_tbl := tm1 (List.mem_of_getElem? (i := 182) rfl)
theorem tw1_183 : Cond.fieldLink RX1 128 "SummerWall$Foretold" "thaw" "I" ∈ lw_tbl := tm1 (List.mem_of_getElem? (i := 183) rfl)
theorem tw1_184 : Cond.fieldLink RX1 70 "SummerWall$Foretold" "day" "I" ∈ lw_tbl := tm1 (List.mem_of_getElem? (i := 184) rfl)
theorem tw1_185 : Cond.fieldLink RX1 113 "SummerWall$Foretold" "laid" "I" ∈ lw_tbl := tm1 (List.mem_of_getElem? (i := 185) rfl)
theorem tw1_186 : Cond.fieldLink RX1 57 "SummerWall$Foretold" "cost" "I" ∈ lw_tbl := tm1 (List.mem_of_getElem? (i := 186) rfl)
theorem tw1_187 : Cond.fieldLink RX1 97 "SummerWall$Foretold" "bestDay" "I" ∈ lw_tbl := tm1 (List.mem_of_getElem? (i := 187) rfl)
theorem tw1_188 : Cond.fieldLink RX9 200 "SummerWall$Foretold" "bestDay" "I" ∈ lw_tbl := tm1 (List.mem_of_getElem? (i := 188) rfl)
theorem tw1_189 : Cond.fieldLink RX1 101 "SummerWall$Foretold" "bestOdds" "I" ∈ lw_tbl := tm1 (List.mem_of_getElem? (i := 189) rfl)
theorem tw1_190 : Cond.fieldLink RX9 203 "SummerWall$Foretold" "bestOdds" "I" ∈ lw_tbl := tm1 (List.mem_of_getElem? (i := 190) rfl)
theorem tw1_191 : Cond.laysFinal RX1 "SummerWall$Foretold" "lays" "[I" ∈ lw_tbl := tm1 (List.mem_of_getElem? (i := 191) rfl)
theorem tw1_193 : Cond.laysFinal RX1 "SummerWall$Foretold" "behind" "[I" ∈ lw_tbl := tm1 (List.mem_of_getElem? (i := 193) rfl)
theorem tw1_195 : Cond.laysFinal RX1 "SummerWall$Foretold" "behindHindered" "[I" ∈ lw_tbl := tm1 (List.mem_of_getElem? (i := 195) rfl)
theorem tw1_197 : Cond.laysFinal RX1 "SummerWall$Foretold" "odds" "[I" ∈ lw_tbl := tm1 (List.mem_of_getElem? (i := 197) rfl)
theorem tw1_199 : Cond.laysFinal RX1 "SummerWall$Foretold" "oddsHindered" "[I" ∈ lw_tbl := tm1 (List.mem_of_getElem? (i := 199) rfl)
theorem tw1_201 : Cond.laysFinal RX1 "SummerWall$Foretold" "fairPath" "[I" ∈ lw_tbl := tm1 (List.mem_of_getElem? (i := 201) rfl)
theorem tw1_203 : Cond.laysFinal RX1 "SummerWall$Foretold" "parts" "[I" ∈ lw_tbl := tm1 (List.mem_of_getElem? (i := 203) rfl)
theorem tw1_205 : Cond.lays RX1 "SummerWall$Foretold" "stones" "I" ∈ lw_tbl := tm1 (List.mem_of_getElem? (i := 205) rfl)
theorem tw1_207 : Cond.lays RX1 "SummerWall$Foretold" "days" "I" ∈ lw_tbl := tm1 (List.mem_of_getElem? (i := 207) rfl)
theorem tw1_209 : Cond.lays RX1 "SummerWall$Foretold" "frost" "I" ∈ lw_tbl := tm1 (List.mem_of_getElem? (i := 209) rfl)
theorem tw1_211 : Cond.lays RX1 "SummerWall$Foretold" "thaw" "I" ∈ lw_tbl := tm1 (List.mem_of_getElem? (i := 211) rfl)
theorem tw1_213 : Cond.lays RX1 "SummerWall$Foretold" "day" "I" ∈ lw_tbl := tm1 (List.mem_of_getElem? (i := 213) rfl)
theorem tw1_215 : Cond.lays RX1 "SummerWall$Foretold" "laid" "I" ∈ lw_tbl := tm1 (List.mem_of_getElem? (i := 215) rfl)
theorem tw1_217 : Cond.lays RX1 "SummerWall$Foretold" "cost" "I" ∈ lw_tbl := tm1 (List.mem_of_getElem? (i := 217) rfl)
theorem tw1_219 : Cond.lays RX1 "SummerWall$Foretold" "bestDay" "I" ∈ lw_tbl := tm1 (List.mem_of_getElem? (i := 219) rfl)
theorem tw1_221 : Cond.lays RX1 "SummerWall$Foretold" "bestOdds" "I" ∈ lw_tbl := tm1 (List.mem_of_getElem? (i := 221) rfl)
theorem tw1_224 : Cond.classLink RX9 33 "SummerWall$Sheet" ∈ lw_tbl := tm1 (List.mem_of_getElem? (i := 224) rfl)
theorem tw1_225 : Cond.arrayOver (FieldType.object "SummerWall$Sheet") ∈ lw_tbl := tm1 (List.mem_of_getElem? (i := 225) rfl)
theorem tw1_226 : Cond.instantiable RX6 4 ∈ lw_tbl := tm1 (List.mem_of_getElem? (i := 226) rfl)
theorem tw1_227 : Cond.methodLinkNest RX9 39 yX6_init "SummerWall" ∈ lw_tbl := tm1 (List.mem_of_getElem? (i := 227) rfl)
theorem tw1_228 : Cond.instanceMethod yX6_init ∈ lw_tbl := tm1 (List.mem_of_getElem? (i := 228) rfl)
theorem tw1_229 : Cond.code yX6_init cX6_init 1 (none : Option FieldType) ∈ lw_tbl := tm1 (List.mem_of_getElem? (i := 229) rfl)
theorem tw1_230 : Cond.methodLink RX6 3 objectInit ∈ lw_tbl := tm1 (List.mem_of_getElem? (i := 230) rfl)
theorem tw1_231 : Cond.fieldLink RX6 15 "SummerWall$Sheet" "held" "Z" ∈ lw_tbl := tm1 (List.mem_of_getElem? (i := 231) rfl)
theorem tw1_232 : Cond.fieldLink RX9 251 "SummerWall$Sheet" "held" "Z" ∈ lw_tbl := tm1 (List.mem_of_getElem? (i := 232) rfl)
theorem tw1_233 : Cond.fieldLink RX6 19 "SummerWall$Sheet" "lane" "I" ∈ lw_tbl := tm1 (List.mem_of_getElem? (i := 233) rfl)
theorem tw1_234 : Cond.fieldLink RX9 257 "SummerWall$Sheet" "lane" "I" ∈ lw_tbl := tm1 (List.mem_of_getElem? (i := 234) rfl)
theorem tw1_235 : Cond.fieldLink RX6 23 "SummerWall$Sheet" "size" "I" ∈ lw_tbl := tm1 (List.mem_of_getElem? (i := 235) rfl)
theorem tw1_236 : Cond.fieldLink RX9 254 "SummerWall$Sheet" "size" "I" ∈ lw_tbl := tm1 (List.mem_of_getElem? (i := 236) rfl)
theorem tw1_237 : Cond.fieldLink RX6 9 "SummerWall$Sheet" "items" "[J" ∈ lw_tbl := tm1 (List.mem_of_getElem? (i := 237) rfl)
theorem tw1_238 : Cond.fieldLink RX9 232 "SummerWall$Sheet" "items" "[J" ∈ lw_tbl := tm1 (List.mem_of_getElem? (i := 238) rfl)
theorem tw1_239 : Cond.lays RX6 "SummerWall$Sheet" "held" "Z" ∈ lw_tbl := tm1 (List.mem_of_getElem? (i := 239) rfl)
theorem tw2_1 : Cond.lays RX6 "SummerWall$Sheet" "lane" "I" ∈ lw_tbl := tm2 (List.mem_of_getElem? (i := 1) rfl)
theorem tw2_3 : Cond.lays RX6 "SummerWall$Sheet" "size" "I" ∈ lw_tbl := tm2 (List.mem_of_getElem? (i := 3) rfl)
theorem tw2_5 : Cond.laysFinal RX6 "SummerWall$Sheet" "items" "[J" ∈ lw_tbl := tm2 (List.mem_of_getElem? (i := 5) rfl)
theorem tw2_8 : Cond.arrayClass FieldType.long ∈ lw_tbl := tm2 (List.mem_of_getElem? (i := 8) rfl)
theorem tw2_9 : Cond.fieldLink RX9 10 "SummerWall" "now" "LSummerWall$Site;" ∈ lw_tbl := tm2 (List.mem_of_getElem? (i := 9) rfl)
theorem tw2_10 : Cond.fieldLink RX9 16 "SummerWall" "kept" "LSummerWall$Site;" ∈ lw_tbl := tm2 (List.mem_of_getElem? (i := 10) rfl)
theorem tw2_11 : Cond.fieldLink RX9 22 "SummerWall" "tape" "LSummerWall$Tape;" ∈ lw_tbl := tm2 (List.mem_of_getElem? (i := 11) rfl)
theorem tw2_12 : Cond.fieldLink RX9 29 "SummerWall" "foretold" "LSummerWall$Foretold;" ∈ lw_tbl := tm2 (List.mem_of_getElem? (i := 12) rfl)
theorem tw2_13 : Cond.fieldLink RX9 35 "SummerWall" "sheets" "[LSummerWall$Sheet;" ∈ lw_tbl := tm2 (List.mem_of_getElem? (i := 13) rfl)
theorem tw2_14 : Cond.fieldLink RX9 219 "SummerWall" "imaged" "Z" ∈ lw_tbl := tm2 (List.mem_of_getElem? (i := 14) rfl)
theorem tw2_15 : Cond.laysFinal RX9 "SummerWall" "now" "LSummerWall$Site;" ∈ lw_tbl := tm2 (List.mem_of_getElem? (i := 15) rfl)
theorem tw2_17 : Cond.laysFinal RX9 "SummerWall" "kept" "LSummerWall$Site;" ∈ lw_tbl := tm2 (List.mem_of_getElem? (i := 17) rfl)
theorem tw2_19 : Cond.laysFinal RX9 "SummerWall" "tape" "LSummerWall$Tape;" ∈ lw_tbl := tm2 (List.mem_of_getElem? (i := 19) rfl)
theorem tw2_21 : Cond.laysFinal RX9 "SummerWall" "foretold" "LSummerWall$Foretold;" ∈ lw_tbl := tm2 (List.mem_of_getElem? (i := 21) rfl)
theorem tw2_23 : Cond.laysFinal RX9 "SummerWall" "sheets" "[LSummerWall$Sheet;" ∈ lw_tbl := tm2 (List.mem_of_getElem? (i := 23) rfl)
theorem tw2_25 : Cond.lays RX9 "SummerWall" "imaged" "Z" ∈ lw_tbl := tm2 (List.mem_of_getElem? (i := 25) rfl)
theorem tw2_28 : Cond.methodLink RL 13 yX9_builder ∈ lw_tbl := tm2 (List.mem_of_getElem? (i := 28) rfl)
theorem tw2_29 : Cond.instanceMethod yX9_builder ∈ lw_tbl := tm2 (List.mem_of_getElem? (i := 29) rfl)
theorem tw2_30 : Cond.selects RX9 yX9_builder yX9_builder ∈ lw_tbl := tm2 (List.mem_of_getElem? (i := 30) rfl)
theorem tw2_31 : Cond.code yX9_builder cX9_builder 4 (some FieldType.int) ∈ lw_tbl := tm2 (List.mem_of_getElem? (i := 31) rfl)
theorem tw2_32 : Cond.methodLink RX9 40 yX9_within ∈ lw_tbl := tm2 (List.mem_of_getElem? (i := 32) rfl)
theorem tw2_33 : Cond.static yX9_within ∈ lw_tbl := tm2 (List.mem_of_getElem? (i := 33) rfl)
theorem tw2_34 : Cond.code yX9_within cX9_within 3 (some FieldType.boolean) ∈ lw_tbl := tm2 (List.mem_of_getElem? (i := 34) rfl)
theorem tw2_35 : Cond.methodLink RX9 48 yX7_addBuilder ∈ lw_tbl := tm2 (List.mem_of_getElem? (i := 35) rfl)
theorem tw2_36 : Cond.instanceMethod yX7_addBuilder ∈ lw_tbl := tm2 (List.mem_of_getElem? (i := 36) rfl)
theorem tw2_37 : Cond.selects RX7 yX7_addBuilder yX7_addBuilder ∈ lw_tbl := tm2 (List.mem_of_getElem? (i := 37) rfl)
theorem tw2_38 : Cond.code yX7_addBuilder cX7_addBuilder 4 (none : Option FieldType) ∈ lw_tbl := tm2 (List.mem_of_getElem? (i := 38) rfl)
theorem tw2_39 : Cond.methodLink RX7 55 yX5_ofKind ∈ lw_tbl := tm2 (List.mem_of_getElem? (i := 39) rfl)
theorem tw2_40 : Cond.static yX5_ofKind ∈ lw_tbl := tm2 (List.mem_of_getElem? (i := 40) rfl)
theorem tw2_41 : Cond.code yX5_ofKind cX5_ofKind 3 (some (FieldType.object "SummerWall$Plain")) ∈ lw_tbl := tm2 (List.mem_of_getElem? (i := 41) rfl)
theorem tw2_42 : Cond.classLink RX5 18 "SummerWall$Horsed" ∈ lw_tbl := tm2 (List.mem_of_getElem? (i := 42) rfl)
theorem tw2_43 : Cond.instantiable RX3 2 ∈ lw_tbl := tm2 (List.mem_of_getElem? (i := 43) rfl)
theorem tw2_44 : Cond.methodLink RX5 20 yX3_init ∈ lw_tbl := tm2 (List.mem_of_getElem? (i := 44) rfl)
theorem tw2_45 : Cond.instanceMethod yX3_init ∈ lw_tbl := tm2 (List.mem_of_getElem? (i := 45) rfl)
theorem tw2_46 : Cond.code yX3_init cX3_init 3 (none : Option FieldType) ∈ lw_tbl := tm2 (List.mem_of_getElem? (i := 46) rfl)
theorem tw2_47 : Cond.methodLink RX3 3 yX5_init ∈ lw_tbl := tm2 (List.mem_of_getElem? (i := 47) rfl)
theorem tw2_48 : Cond.instanceMethod yX5_init ∈ lw_tbl := tm2 (List.mem_of_getElem? (i := 48) rfl)
theorem tw2_49 : Cond.code yX5_init cX5_init 3 (none : Option FieldType) ∈ lw_tbl := tm2 (List.mem_of_getElem? (i := 49) rfl)
theorem tw2_50 : Cond.methodLink RX5 3 objectInit ∈ lw_tbl := tm2 (List.mem_of_getElem? (i := 50) rfl)
theorem tw2_51 : Cond.fieldLink RX5 9 "SummerWall$Plain" "pace" "I" ∈ lw_tbl := tm2 (List.mem_of_getElem? (i := 51) rfl)
theorem tw2_52 : Cond.fieldLink RX3 9 "SummerWall$Horsed" "pace" "I" ∈ lw_tbl := tm2 (List.mem_of_getElem? (i := 52) rfl)
theorem tw2_53 : Cond.sameField RX3 "SummerWall$Plain" "pace" "I" ∈ lw_tbl := tm2 (List.mem_of_getElem? (i := 53) rfl)
theorem tw2_54 : Cond.fieldLink RX4 9 "SummerWall$Paid" "pace" "I" ∈ lw_tbl := tm2 (List.mem_of_getElem? (i := 54) rfl)
theorem tw2_55 : Cond.sameField RX4 "SummerWall$Plain" "pace" "I" ∈ lw_tbl := tm2 (List.mem_of_getElem? (i := 55) rfl)
theorem tw2_56 : Cond.fieldLink RX9 65 "SummerWall$Plain" "pace" "I" ∈ lw_tbl := tm2 (List.mem_of_getElem? (i := 56) rfl)
theorem tw2_57 : Cond.fieldLink RX5 15 "SummerWall$Plain" "horse" "I" ∈ lw_tbl := tm2 (List.mem_of_getElem? (i := 57) rfl)
theorem tw2_58 : Cond.fieldLink RX3 15 "SummerWall$Horsed" "horse" "I" ∈ lw_tbl := tm2 (List.mem_of_getElem? (i := 58) rfl)
theorem tw2_59 : Cond.sameField RX3 "SummerWall$Plain" "horse" "I" ∈ lw_tbl := tm2 (List.mem_of_getElem? (i := 59) rfl)
theorem tw2_60 : Cond.fieldLink RX9 68 "SummerWall$Plain" "horse" "I" ∈ lw_tbl := tm2 (List.mem_of_getElem? (i := 60) rfl)
theorem tw2_61 : Cond.laysFinal RX3 "SummerWall$Plain" "pace" "I" ∈ lw_tbl := tm2 (List.mem_of_getElem? (i := 61) rfl)
theorem tw2_63 : Cond.laysFinal RX3 "SummerWall$Plain" "horse" "I" ∈ lw_tbl := tm2 (List.mem_of_getElem? (i := 63) rfl)
theorem tw2_66 : Cond.classLink RX5 23 "SummerWall$Blind" ∈ lw_tbl := tm2 (List.mem_of_getElem? (i := 66) rfl)
theorem tw2_67 : Cond.instantiable RX0 2 ∈ lw_tbl := tm2 (List.mem_of_getElem? (i := 67) rfl)
theorem tw2_68 : Cond.methodLink RX5 25 yX0_init ∈ lw_tbl := tm2 (List.mem_of_getElem? (i := 68) rfl)
theorem tw2_69 : Cond.instanceMethod yX0_init ∈ lw_tbl := tm2 (List.mem_of_getElem? (i := 69) rfl)
theorem tw2_70 : Cond.code yX0_init cX0_init 3 (none : Option FieldType) ∈ lw_tbl := tm2 (List.mem_of_getElem? (i := 70) rfl)
theorem tw2_71 : Cond.methodLink RX0 3 yX5_init ∈ lw_tbl := tm2 (List.mem_of_getElem? (i := 71) rfl)
theorem tw2_72 : Cond.laysFinal RX0 "SummerWall$Plain" "pace" "I" ∈ lw_tbl := tm2 (List.mem_of_getElem? (i := 72) rfl)
theorem tw2_73 : Cond.laysFinal RX0 "SummerWall$Plain" "horse" "I" ∈ lw_tbl := tm2 (List.mem_of_getElem? (i := 73) rfl)
theorem tw2_75 : Cond.classLink RX5 26 "SummerWall$Giant" ∈ lw_tbl := tm2 (List.mem_of_getElem? (i := 75) rfl)
theorem tw2_76 : Cond.instantiable RX2 2 ∈ lw_tbl := tm2 (List.mem_of_getElem? (i := 76) rfl)
theorem tw2_77 : Cond.methodLink RX5 28 yX2_init ∈ lw_tbl := tm2 (List.mem_of_getElem? (i := 77) rfl)
theorem tw2_78 : Cond.instanceMethod yX2_init ∈ lw_tbl := tm2 (List.mem_of_getElem? (i := 78) rfl)
theorem tw2_79 : Cond.code yX2_init cX2_init 3 (none : Option FieldType) ∈ lw_tbl := tm2 (List.mem_of_getElem? (i := 79) rfl)
theorem tw2_80 : Cond.methodLink RX2 3 yX3_init ∈ lw_tbl := tm2 (List.mem_of_getElem? (i := 80) rfl)
theorem tw2_81 : Cond.laysFinal RX2 "SummerWall$Plain" "pace" "I" ∈ lw_tbl := tm2 (List.mem_of_getElem? (i := 81) rfl)
theorem tw2_82 : Cond.laysFinal RX2 "SummerWall$Plain" "horse" "I" ∈ lw_tbl := tm2 (List.mem_of_getElem? (i := 82) rfl)
theorem tw2_84 : Cond.classLink RX5 29 "SummerWall$Paid" ∈ lw_tbl := tm2 (List.mem_of_getElem? (i := 84) rfl)
theorem tw2_85 : Cond.instantiable RX4 2 ∈ lw_tbl := tm2 (List.mem_of_getElem? (i := 85) rfl)
theorem tw2_86 : Cond.methodLink RX5 31 yX4_init ∈ lw_tbl := tm2 (List.mem_of_getElem? (i := 86) rfl)
theorem tw2_87 : Cond.instanceMethod yX4_init ∈ lw_tbl := tm2 (List.mem_of_getElem? (i := 87) rfl)
theorem tw2_88 : Cond.code yX4_init cX4_init 3 (none : Option FieldType) ∈ lw_tbl := tm2 (List.mem_of_getElem? (i := 88) rfl)
theorem tw2_89 : Cond.methodLink RX4 3 yX5_init ∈ lw_tbl := tm2 (List.mem_of_getElem? (i := 89) rfl)
theorem tw2_90 : Cond.laysFinal RX4 "SummerWall$Plain" "pace" "I" ∈ lw_tbl := tm2 (List.mem_of_getElem? (i := 90) rfl)
theorem tw2_91 : Cond.laysFinal RX4 "SummerWall$Plain" "horse" "I" ∈ lw_tbl := tm2 (List.mem_of_getElem? (i := 91) rfl)
theorem tw2_93 : Cond.classLink RX5 10 "SummerWall$Plain" ∈ lw_tbl := tm2 (List.mem_of_getElem? (i := 93) rfl)
theorem tw2_94 : Cond.instantiable RX5 2 ∈ lw_tbl := tm2 (List.mem_of_getElem? (i := 94) rfl)
theorem tw2_95 : Cond.methodLink RX5 32 yX5_init ∈ lw_tbl := tm2 (List.mem_of_getElem? (i := 95) rfl)
theorem tw2_96 : Cond.laysFinal RX5 "SummerWall$Plain" "pace" "I" ∈ lw_tbl := tm2 (List.mem_of_getElem? (i := 96) rfl)
theorem tw2_97 : Cond.laysFinal RX5 "SummerWall$Plain" "horse" "I" ∈ lw_tbl := tm2 (List.mem_of_getElem? (i := 97) rfl)
theorem tw2_99 : Cond.methodLink RL 18 yX9_of ∈ lw_tbl := tm2 (List.mem_of_getElem? (i := 99) rfl)
theorem tw2_100 : Cond.instanceMethod yX9_of ∈ lw_tbl := tm2 (List.mem_of_getElem? (i := 100) rfl)
theorem tw2_101 : Cond.selects RX9 yX9_of yX9_of ∈ lw_tbl := tm2 (List.mem_of_getElem? (i := 101) rfl)
theorem tw2_102 : Cond.code yX9_of cX9_of 4 (some FieldType.int) ∈ lw_tbl := tm2 (List.mem_of_getElem? (i := 102) rfl)
theorem tw2_103 : Cond.methodLink RX9 59 yX5_kind ∈ lw_tbl := tm2 (List.mem_of_getElem? (i := 103) rfl)
theorem tw2_104 : Cond.instanceMethod yX5_kind ∈ lw_tbl := tm2 (List.mem_of_getElem? (i := 104) rfl)
theorem tw2_105 : Cond.selects RX5 yX5_kind yX5_kind ∈ lw_tbl := tm2 (List.mem_of_getElem? (i := 105) rfl)
theorem tw2_106 : Cond.sameMethod RX5 "SummerWall$Plain" "kind" "()I" ∈ lw_tbl := tm2 (List.mem_of_getElem? (i := 106) rfl)
theorem tw2_107 : Cond.selects RX0 yX5_kind yX0_kind ∈ lw_tbl := tm2 (List.mem_of_getElem? (i := 107) rfl)
theorem tw2_108 : Cond.instanceMethod yX0_kind ∈ lw_tbl := tm2 (List.mem_of_getElem? (i := 108) rfl)
theorem tw2_109 : Cond.code yX0_kind cX0_kind 1 (some FieldType.int) ∈ lw_tbl := tm2 (List.mem_of_getElem? (i := 109) rfl)
theorem tw2_110 : Cond.selects RX2 yX5_kind yX2_kind ∈ lw_tbl := tm2 (List.mem_of_getElem? (i := 110) rfl)
theorem tw2_111 : Cond.instanceMethod yX2_kind ∈ lw_tbl := tm2 (List.mem_of_getElem? (i := 111) rfl)
theorem tw2_112 : Cond.code yX2_kind cX2_kind 1 (some FieldType.int) ∈ lw_tbl := tm2 (List.mem_of_getElem? (i := 112) rfl)
theorem tw2_113 : Cond.selects RX3 yX5_kind yX3_kind ∈ lw_tbl := tm2 (List.mem_of_getElem? (i := 113) rfl)
theorem tw2_114 : Cond.instanceMethod yX3_kind ∈ lw_tbl := tm2 (List.mem_of_getElem? (i := 114) rfl)
theorem tw2_115 : Cond.code yX3_kind cX3_kind 1 (some FieldType.int) ∈ lw_tbl := tm2 (List.mem_of_getElem? (i := 115) rfl)
theorem tw2_116 : Cond.selects RX4 yX5_kind yX4_kind ∈ lw_tbl := tm2 (List.mem_of_getElem? (i := 116) rfl)
theorem tw2_117 : Cond.instanceMethod yX4_kind ∈ lw_tbl := tm2 (List.mem_of_getElem? (i := 117) rfl)
theorem tw2_118 : Cond.code yX4_kind cX4_kind 1 (some FieldType.int) ∈ lw_tbl := tm2 (List.mem_of_getElem? (i := 118) rfl)
theorem tw2_119 : Cond.code yX5_kind cX5_kind 1 (some FieldType.int) ∈ lw_tbl := tm2 (List.mem_of_getElem? (i := 119) rfl)
theorem tw2_120 : Cond.methodLink RX9 74 yX5_hauls ∈ lw_tbl := tm2 (List.mem_of_getElem? (i := 120) rfl)
theorem tw2_121 : Cond.instanceMethod yX5_hauls ∈ lw_tbl := tm2 (List.mem_of_getElem? (i := 121) rfl)
theorem tw2_122 : Cond.selects RX5 yX5_hauls yX5_hauls ∈ lw_tbl := tm2 (List.mem_of_getElem? (i := 122) rfl)
theorem tw2_123 : Cond.sameMethod RX5 "SummerWall$Plain" "hauls" "(II)I" ∈ lw_tbl := tm2 (List.mem_of_getElem? (i := 123) rfl)
theorem tw2_124 : Cond.selects RX0 yX5_hauls yX5_hauls ∈ lw_tbl := tm2 (List.mem_of_getElem? (i := 124) rfl)
theorem tw2_125 : Cond.selects RX2 yX5_hauls yX2_hauls ∈ lw_tbl := tm2 (List.mem_of_getElem? (i := 125) rfl)
theorem tw2_126 : Cond.instanceMethod yX2_hauls ∈ lw_tbl := tm2 (List.mem_of_getElem? (i := 126) rfl)
theorem tw2_127 : Cond.code yX2_hauls cX2_hauls 3 (some FieldType.int) ∈ lw_tbl := tm2 (List.mem_of_getElem? (i := 127) rfl)
theorem tw2_128 : Cond.methodLink RX2 9 yX3_hauls ∈ lw_tbl := tm2 (List.mem_of_getElem? (i := 128) rfl)
theorem tw2_129 : Cond.instanceMethod yX3_hauls ∈ lw_tbl := tm2 (List.mem_of_getElem? (i := 129) rfl)
theorem tw2_130 : Cond.code yX3_hauls cX3_hauls 3 (some FieldType.int) ∈ lw_tbl := tm2 (List.mem_of_getElem? (i := 130) rfl)
theorem tw2_131 : Cond.selects RX3 yX5_hauls yX3_hauls ∈ lw_tbl := tm2 (List.mem_of_getElem? (i := 131) rfl)
theorem tw2_132 : Cond.selects RX4 yX5_hauls yX4_hauls ∈ lw_tbl := tm2 (List.mem_of_getElem? (i := 132) rfl)
theorem tw2_133 : Cond.instanceMethod yX4_hauls ∈ lw_tbl := tm2 (List.mem_of_getElem? (i := 133) rfl)
theorem tw2_134 : Cond.code yX4_hauls cX4_hauls 3 (some FieldType.int) ∈ lw_tbl := tm2 (List.mem_of_getElem? (i := 134) rfl)
theorem tw2_135 : Cond.code yX5_hauls cX5_hauls 3 (some FieldType.int) ∈ lw_tbl := tm2 (List.mem_of_getElem? (i := 135) rfl)
theorem tw2_136 : Cond.methodLink RX9 78 yX5_lays ∈ lw_tbl := tm2 (List.mem_of_getElem? (i := 136) rfl)
theorem tw2_137 : Cond.instanceMethod yX5_lays ∈ lw_tbl := tm2 (List.mem_of_getElem? (i := 137) rfl)
theorem tw2_138 : Cond.selects RX5 yX5_lays yX5_lays ∈ lw_tbl := tm2 (List.mem_of_getElem? (i := 138) rfl)
theorem tw2_139 : Cond.sameMethod RX5 "SummerWall$Plain" "lays" "(III)I" ∈ lw_tbl := tm2 (List.mem_of_getElem? (i := 139) rfl)
theorem tw2_140 : Cond.selects RX0 yX5_lays yX5_lays ∈ lw_tbl := tm2 (List.mem_of_getElem? (i := 140) rfl)
theorem tw2_141 : Cond.selects RX2 yX5_lays yX5_lays ∈ lw_tbl := tm2 (List.mem_of_getElem? (i := 141) rfl)
theorem tw2_142 : Cond.selects RX3 yX5_lays yX5_lays ∈ lw_tbl := tm2 (List.mem_of_getElem? (i := 142) rfl)
theorem tw2_143 : Cond.selects RX4 yX5_lays yX5_lays ∈ lw_tbl := tm2 (List.mem_of_getElem? (i := 143) rfl)
theorem tw2_144 : Cond.code yX5_lays cX5_lays 5 (some FieldType.int) ∈ lw_tbl := tm2 (List.mem_of_getElem? (i := 144) rfl)
theorem tw2_145 : Cond.methodLink RX5 33 yX5_hauls ∈ lw_tbl := tm2 (List.mem_of_getElem? (i := 145) rfl)
theorem tw2_146 : Cond.methodLink RX5 37 yX5_laysInFrost ∈ lw_tbl := tm2 (List.mem_of_getElem? (i := 146) rfl)
theorem tw2_147 : Cond.instanceMethod yX5_laysInFrost ∈ lw_tbl := tm2 (List.mem_of_getElem? (i := 147) rfl)
theorem tw2_148 : Cond.selects RX5 yX5_laysInFrost yX5_laysInFrost ∈ lw_tbl := tm2 (List.mem_of_getElem? (i := 148) rfl)
theorem tw2_149 : Cond.sameMethod RX5 "SummerWall$Plain" "laysInFrost" "(I)I" ∈ lw_tbl := tm2 (List.mem_of_getElem? (i := 149) rfl)
theorem tw2_150 : Cond.selects RX0 yX5_laysInFrost yX0_laysInFrost ∈ lw_tbl := tm2 (List.mem_of_getElem? (i := 150) rfl)
theorem tw2_151 : Cond.instanceMethod yX0_laysInFrost ∈ lw_tbl := tm2 (List.mem_of_getElem? (i := 151) rfl)
theorem tw2_152 : Cond.code yX0_laysInFrost cX0_laysInFrost 2 (some FieldType.int) ∈ lw_tbl := tm2 (List.mem_of_getElem? (i := 152) rfl)
theorem tw2_153 : Cond.selects RX2 yX5_laysInFrost yX5_laysInFrost ∈ lw_tbl := tm2 (List.mem_of_getElem? (i := 153) rfl)
theorem tw2_154 : Cond.selects RX3 yX5_laysInFrost yX5_laysInFrost ∈ lw_tbl := tm2 (List.mem_of_getElem? (i := 154) rfl)
theorem tw2_155 : Cond.selects RX4 yX5_laysInFrost yX5_laysInFrost ∈ lw_tbl := tm2 (List.mem_of_getElem? (i := 155) rfl)
theorem tw2_156 : Cond.code yX5_laysInFrost cX5_laysInFrost 2 (some FieldType.int) ∈ lw_tbl := tm2 (List.mem_of_getElem? (i := 156) rfl)
theorem tw2_157 : Cond.methodLink RX5 41 yX5_laysInThaw ∈ lw_tbl := tm2 (List.mem_of_getElem? (i := 157) rfl)
theorem tw2_158 : Cond.instanceMethod yX5_laysInThaw ∈ lw_tbl := tm2 (List.mem_of_getElem? (i := 158) rfl)
theorem tw2_159 : Cond.selects RX5 yX5_laysInThaw yX5_laysInThaw ∈ lw_tbl := tm2 (List.mem_of_getElem? (i := 159) rfl)
theorem tw2_160 : Cond.sameMethod RX5 "SummerWall$Plain" "laysInThaw" "(I)I" ∈ lw_tbl := tm2 (List.mem_of_getElem? (i := 160) rfl)
theorem tw2_161 : Cond.selects RX0 yX5_laysInThaw yX5_laysInThaw ∈ lw_tbl := tm2 (List.mem_of_getElem? (i := 161) rfl)
theorem tw2_162 : Cond.selects RX2 yX5_laysInThaw yX2_laysInThaw ∈ lw_tbl := tm2 (List.mem_of_getElem? (i := 162) rfl)
theorem tw2_163 : Cond.instanceMethod yX2_laysInThaw ∈ lw_tbl := tm2 (List.mem_of_getElem? (i := 163) rfl)
theorem tw2_164 : Cond.code yX2_laysInThaw cX2_laysInThaw 3 (some FieldType.int) ∈ lw_tbl := tm2 (List.mem_of_getElem? (i := 164) rfl)
theorem tw2_165 : Cond.methodLink RX2 13 (⟨"SummerWall$Horsed", "laysInThaw", "(I)I"⟩ : MethodName) ∈ lw_tbl := tm2 (List.mem_of_getElem? (i := 165) rfl)
theorem tw2_166 : Cond.sameMethod RX3 "SummerWall$Plain" "laysInThaw" "(I)I" ∈ lw_tbl := tm2 (List.mem_of_getElem? (i := 166) rfl)
theorem tw2_167 : Cond.declares yX5_laysInThaw ∈ lw_tbl := tm2 (List.mem_of_getElem? (i := 167) rfl)
theorem tw2_168 : Cond.selects RX3 yX5_laysInThaw yX5_laysInThaw ∈ lw_tbl := tm2 (List.mem_of_getElem? (i := 168) rfl)
theorem tw2_169 : Cond.selects RX4 yX5_laysInThaw yX5_laysInThaw ∈ lw_tbl := tm2 (List.mem_of_getElem? (i := 169) rfl)
theorem tw2_170 : Cond.code yX5_laysInThaw cX5_laysInThaw 2 (some FieldType.int) ∈ lw_tbl := tm2 (List.mem_of_getElem? (i := 170) rfl)
theorem tw2_171 : Cond.methodLink RL 23 yX9_wall ∈ lw_tbl := tm2 (List.mem_of_getElem? (i := 171) rfl)
theorem tw2_172 : Cond.instanceMethod yX9_wall ∈ lw_tbl := tm2 (List.mem_of_getElem? (i := 172) rfl)
theorem tw2_173 : Cond.selects RX9 yX9_wall yX9_wall ∈ lw_tbl := tm2 (List.mem_of_getElem? (i := 173) rfl)
theorem tw2_174 : Cond.code yX9_wall cX9_wall 3 (some FieldType.int) ∈ lw_tbl := tm2 (List.mem_of_getElem? (i := 174) rfl)
theorem tw2_175 : Cond.methodLink RX9 82 yX9_changeStones ∈ lw_tbl := tm2 (List.mem_of_getElem? (i := 175) rfl)
theorem tw2_177 : Cond.instanceMethod yX9_changeStones ∈ lw_tbl := tm2 (List.mem_of_getElem? (i := 177) rfl)
theorem tw2_178 : Cond.code yX9_changeStones cX9_changeStones 3 (some FieldType.int) ∈ lw_tbl := tm2 (List.mem_of_getElem? (i := 178) rfl)
theorem tw2_179 : Cond.methodLink RX9 86 yX9_changeDays ∈ lw_tbl := tm2 (List.mem_of_getElem? (i := 179) rfl)
theorem tw2_181 : Cond.instanceMethod yX9_changeDays ∈ lw_tbl := tm2 (List.mem_of_getElem? (i := 181) rfl)
theorem tw2_182 : Cond.code yX9_changeDays cX9_changeDays 3 (some FieldType.int) ∈ lw_tbl := tm2 (List.mem_of_getElem? (i := 182) rfl)
theorem tw2_183 : Cond.methodLink RX9 89 yX9_changeFrost ∈ lw_tbl := tm2 (List.mem_of_getElem? (i := 183) rfl)
theorem tw2_185 : Cond.instanceMethod yX9_changeFrost ∈ lw_tbl := tm2 (List.mem_of_getElem? (i := 185) rfl)
theorem tw2_186 : Cond.code yX9_changeFrost cX9_changeFrost 3 (some FieldType.int) ∈ lw_tbl := tm2 (List.mem_of_getElem? (i := 186) rfl)
theorem tw2_187 : Cond.methodLink RX9 92 yX9_changeThaw ∈ lw_tbl := tm2 (List.mem_of_getElem? (i := 187) rfl)
theorem tw2_189 : Cond.instanceMethod yX9_changeThaw ∈ lw_tbl := tm2 (List.mem_of_getElem? (i := 189) rfl)
theorem tw2_190 : Cond.code yX9_changeThaw cX9_changeThaw 3 (some FieldType.int) ∈ lw_tbl := tm2 (List.mem_of_getElem? (i := 190) rfl)
theorem tw2_191 : Cond.methodLink RL 27 yX9_hindrance ∈ lw_tbl := tm2 (List.mem_of_getElem? (i := 191) rfl)
theorem tw2_192 : Cond.instanceMethod yX9_hindrance ∈ lw_tbl := tm2 (List.mem_of_getElem? (i := 192) rfl)
theorem tw2_193 : Cond.selects RX9 yX9_hindrance yX9_hindrance ∈ lw_tbl := tm2 (List.mem_of_getElem? (i := 193) rfl)
theorem tw2_194 : Cond.code yX9_hindrance cX9_hindrance 3 (some FieldType.int) ∈ lw_tbl := tm2 (List.mem_of_getElem? (i := 194) rfl)
theorem tw2_195 : Cond.methodLink RX9 113 yX7_addHindrance ∈ lw_tbl := tm2 (List.mem_of_getElem? (i := 195) rfl)
theorem tw2_196 : Cond.instanceMethod yX7_addHindrance ∈ lw_tbl := tm2 (List.mem_of_getElem? (i := 196) rfl)
theorem tw2_197 : Cond.selects RX7 yX7_addHindrance yX7_addHindrance ∈ lw_tbl := tm2 (List.mem_of_getElem? (i := 197) rfl)
theorem tw2_198 : Cond.code yX7_addHindrance cX7_addHindrance 3 (none : Option FieldType) ∈ lw_tbl := tm2 (List.mem_of_getElem? (i := 198) rfl)
theorem tw2_199 : Cond.methodLink RL 31 yX9_oath ∈ lw_tbl := tm2 (List.mem_of_getElem? (i := 199) rfl)
theorem tw2_200 : Cond.instanceMethod yX9_oath ∈ lw_tbl := tm2 (List.mem_of_getElem? (i := 200) rfl)
theorem tw2_201 : Cond.selects RX9 yX9_oath yX9_oath ∈ lw_tbl := tm2 (List.mem_of_getElem? (i := 201) rfl)
theorem tw2_202 : Cond.code yX9_oath cX9_oath 4 (some FieldType.int) ∈ lw_tbl := tm2 (List.mem_of_getElem? (i := 202) rfl)
theorem tw2_203 : Cond.methodLink RL 35 yX9_type ∈ lw_tbl := tm2 (List.mem_of_getElem? (i := 203) rfl)
theorem tw2_204 : Cond.instanceMethod yX9_type ∈ lw_tbl := tm2 (List.mem_of_getElem? (i := 204) rfl)
theorem tw2_205 : Cond.selects RX9 yX9_type yX9_type ∈ lw_tbl := tm2 (List.mem_of_getElem? (i := 205) rfl)
theorem tw2_206 : Cond.code yX9_type cX9_type 2 (some FieldType.int) ∈ lw_tbl := tm2 (List.mem_of_getElem? (i := 206) rfl)
theorem tw2_207 : Cond.methodLink RX9 123 yX8_append ∈ lw_tbl := tm2 (List.mem_of_getElem? (i := 207) rfl)
theorem tw2_208 : Cond.instanceMethod yX8_append ∈ lw_tbl := tm2 (List.mem_of_getElem? (i := 208) rfl)
theorem tw2_209 : Cond.selects RX8 yX8_append yX8_append ∈ lw_tbl := tm2 (List.mem_of_getElem? (i := 209) rfl)
theorem tw2_210 : Cond.code yX8_append cX8_append 2 (none : Option FieldType) ∈ lw_tbl := tm2 (List.mem_of_getElem? (i := 210) rfl)
theorem tw2_211 : Cond.methodLink RL 40 yX9_bargain ∈ lw_tbl := tm2 (List.mem_of_getElem? (i := 211) rfl)
theorem tw2_212 : Cond.instanceMethod yX9_bargain ∈ lw_tbl := tm2 (List.mem_of_getElem? (i := 212) rfl)
theorem tw2_213 : Cond.selects RX9 yX9_bargain yX9_bargain ∈ lw_tbl := tm2 (List.mem_of_getElem? (i := 213) rfl)
theorem tw2_214 : Cond.code yX9_bargain cX9_bargain 2 (some FieldType.int) ∈ lw_tbl := tm2 (List.mem_of_getElem? (i := 214) rfl)
theorem tw2_215 : Cond.methodLink RX9 127 yX8_read ∈ lw_tbl := tm2 (List.mem_of_getElem? (i := 215) rfl)
theorem tw2_216 : Cond.instanceMethod yX8_read ∈ lw_tbl := tm2 (List.mem_of_getElem? (i := 216) rfl)
theorem tw2_217 : Cond.selects RX8 yX8_read yX8_read ∈ lw_tbl := tm2 (List.mem_of_getElem? (i := 217) rfl)
theorem tw2_218 : Cond.code yX8_read cX8_read 1 (some FieldType.boolean) ∈ lw_tbl := tm2 (List.mem_of_getElem? (i := 218) rfl)
theorem tw2_219 : Cond.methodLink RX8 44 yX8_readNumber ∈ lw_tbl := tm2 (List.mem_of_getElem? (i := 219) rfl)
theorem tw2_221 : Cond.instanceMethod yX8_readNumber ∈ lw_tbl := tm2 (List.mem_of_getElem? (i := 221) rfl)
theorem tw2_222 : Cond.code yX8_readNumber cX8_readNumber 4 (some FieldType.int) ∈ lw_tbl := tm2 (List.mem_of_getElem? (i := 222) rfl)
theorem tw2_223 : Cond.methodLink RX8 62 yX8_next ∈ lw_tbl := tm2 (List.mem_of_getElem? (i := 223) rfl)
theorem tw2_225 : Cond.instanceMethod yX8_next ∈ lw_tbl := tm2 (List.mem_of_getElem? (i := 225) rfl)
theorem tw2_226 : Cond.code yX8_next cX8_next 1 (some FieldType.char) ∈ lw_tbl := tm2 (List.mem_of_getElem? (i := 226) rfl)
theorem tw2_227 : Cond.methodLink RX8 90 yX8_isDigit ∈ lw_tbl := tm2 (List.mem_of_getElem? (i := 227) rfl)
theorem tw2_228 : Cond.static yX8_isDigit ∈ lw_tbl := tm2 (List.mem_of_getElem? (i := 228) rfl)
theorem tw2_229 : Cond.code yX8_isDigit cX8_isDigit 1 (some FieldType.boolean) ∈ lw_tbl := tm2 (List.mem_of_getElem? (i := 229) rfl)
theorem tw2_230 : Cond.methodLinkNest RX8 86 yX9_within "SummerWall" ∈ lw_tbl := tm2 (List.mem_of_getElem? (i := 230) rfl)
theorem tw2_231 : Cond.methodLink RX8 76 yX8_failAt ∈ lw_tbl := tm2 (List.mem_of_getElem? (i := 231) rfl)
theorem tw2_233 : Cond.instanceMethod yX8_failAt ∈ lw_tbl := tm2 (List.mem_of_getElem? (i := 233) rfl)
theorem tw2_234 : Cond.code yX8_failAt cX8_failAt 2 (some FieldType.boolean) ∈ lw_tbl := tm2 (List.mem_of_getElem? (i := 234) rfl)
theorem tw2_235 : Cond.methodLink RX8 51 yX8_readSign ∈ lw_tbl := tm2 (List.mem_of_getElem? (i := 235) rfl)
theorem tw2_237 : Cond.instanceMethod yX8_readSign ∈ lw_tbl := tm2 (List.mem_of_getElem? (i := 237) rfl)
theorem tw2_238 : Cond.code yX8_readSign cX8_readSign 2 (some FieldType.boolean) ∈ lw_tbl := tm2 (List.mem_of_getElem? (i := 238) rfl)
theorem tw2_239 : Cond.methodLink RX8 58 yX8_readBuilders ∈ lw_tbl := tm2 (List.mem_of_getElem? (i := 239) rfl)
theorem tw3_1 : Cond.instanceMethod yX8_readBuilders ∈ lw_tbl := tm3 (List.mem_of_getElem? (i := 1) rfl)
theorem tw3_2 : Cond.code yX8_readBuilders cX8_readBuilders 2 (some FieldType.boolean) ∈ lw_tbl := tm3 (List.mem_of_getElem? (i := 2) rfl)
theorem tw3_3 : Cond.methodLink RX8 69 yX8_readBuilder ∈ lw_tbl := tm3 (List.mem_of_getElem? (i := 3) rfl)
theorem tw3_5 : Cond.instanceMethod yX8_readBuilder ∈ lw_tbl := tm3 (List.mem_of_getElem? (i := 5) rfl)
theorem tw3_6 : Cond.code yX8_readBuilder cX8_readBuilder 4 (some FieldType.boolean) ∈ lw_tbl := tm3 (List.mem_of_getElem? (i := 6) rfl)
theorem tw3_7 : Cond.methodLink RX8 72 yX8_kindOf ∈ lw_tbl := tm3 (List.mem_of_getElem? (i := 7) rfl)
theorem tw3_8 : Cond.static yX8_kindOf ∈ lw_tbl := tm3 (List.mem_of_getElem? (i := 8) rfl)
theorem tw3_9 : Cond.code yX8_kindOf cX8_kindOf 1 (some FieldType.int) ∈ lw_tbl := tm3 (List.mem_of_getElem? (i := 9) rfl)
theorem tw3_10 : Cond.methodLink RX8 80 yX8_readDigit ∈ lw_tbl := tm3 (List.mem_of_getElem? (i := 10) rfl)
theorem tw3_12 : Cond.instanceMethod yX8_readDigit ∈ lw_tbl := tm3 (List.mem_of_getElem? (i := 12) rfl)
theorem tw3_13 : Cond.code yX8_readDigit cX8_readDigit 3 (some FieldType.int) ∈ lw_tbl := tm3 (List.mem_of_getElem? (i := 13) rfl)
theorem tw3_14 : Cond.methodLink RX8 66 yX8_readHindrances ∈ lw_tbl := tm3 (List.mem_of_getElem? (i := 14) rfl)
theorem tw3_16 : Cond.instanceMethod yX8_readHindrances ∈ lw_tbl := tm3 (List.mem_of_getElem? (i := 16) rfl)
theorem tw3_17 : Cond.code yX8_readHindrances cX8_readHindrances 2 (some FieldType.boolean) ∈ lw_tbl := tm3 (List.mem_of_getElem? (i := 17) rfl)
theorem tw3_18 : Cond.methodLink RX8 83 yX8_readHindrance ∈ lw_tbl := tm3 (List.mem_of_getElem? (i := 18) rfl)
theorem tw3_20 : Cond.instanceMethod yX8_readHindrance ∈ lw_tbl := tm3 (List.mem_of_getElem? (i := 20) rfl)
theorem tw3_21 : Cond.code yX8_readHindrance cX8_readHindrance 4 (some FieldType.boolean) ∈ lw_tbl := tm3 (List.mem_of_getElem? (i := 21) rfl)
theorem tw3_22 : Cond.methodLink RX9 134 yX7_begin ∈ lw_tbl := tm3 (List.mem_of_getElem? (i := 22) rfl)
theorem tw3_23 : Cond.instanceMethod yX7_begin ∈ lw_tbl := tm3 (List.mem_of_getElem? (i := 23) rfl)
theorem tw3_24 : Cond.selects RX7 yX7_begin yX7_begin ∈ lw_tbl := tm3 (List.mem_of_getElem? (i := 24) rfl)
theorem tw3_25 : Cond.code yX7_begin cX7_begin 3 (none : Option FieldType) ∈ lw_tbl := tm3 (List.mem_of_getElem? (i := 25) rfl)
theorem tw3_26 : Cond.methodLink RX7 130 yX7_addBuilder ∈ lw_tbl := tm3 (List.mem_of_getElem? (i := 26) rfl)
theorem tw3_27 : Cond.methodLink RX7 137 yX7_addHindrance ∈ lw_tbl := tm3 (List.mem_of_getElem? (i := 27) rfl)
theorem tw3_28 : Cond.methodLink RL 45 yX9_count ∈ lw_tbl := tm3 (List.mem_of_getElem? (i := 28) rfl)
theorem tw3_29 : Cond.instanceMethod yX9_count ∈ lw_tbl := tm3 (List.mem_of_getElem? (i := 29) rfl)
theorem tw3_30 : Cond.selects RX9 yX9_count yX9_count ∈ lw_tbl := tm3 (List.mem_of_getElem? (i := 30) rfl)
theorem tw3_31 : Cond.code yX9_count cX9_count 2 (some FieldType.int) ∈ lw_tbl := tm3 (List.mem_of_getElem? (i := 31) rfl)
theorem tw3_32 : Cond.methodLink RX9 141 yX7_costToday ∈ lw_tbl := tm3 (List.mem_of_getElem? (i := 32) rfl)
theorem tw3_33 : Cond.instanceMethod yX7_costToday ∈ lw_tbl := tm3 (List.mem_of_getElem? (i := 33) rfl)
theorem tw3_34 : Cond.selects RX7 yX7_costToday yX7_costToday ∈ lw_tbl := tm3 (List.mem_of_getElem? (i := 34) rfl)
theorem tw3_35 : Cond.code yX7_costToday cX7_costToday 1 (some FieldType.int) ∈ lw_tbl := tm3 (List.mem_of_getElem? (i := 35) rfl)
theorem tw3_36 : Cond.methodLink RX7 79 yX7_costOf ∈ lw_tbl := tm3 (List.mem_of_getElem? (i := 36) rfl)
theorem tw3_37 : Cond.instanceMethod yX7_costOf ∈ lw_tbl := tm3 (List.mem_of_getElem? (i := 37) rfl)
theorem tw3_38 : Cond.selects RX7 yX7_costOf yX7_costOf ∈ lw_tbl := tm3 (List.mem_of_getElem? (i := 38) rfl)
theorem tw3_39 : Cond.code yX7_costOf cX7_costOf 4 (some FieldType.int) ∈ lw_tbl := tm3 (List.mem_of_getElem? (i := 39) rfl)
theorem tw3_40 : Cond.methodLink RL 49 yX9_day ∈ lw_tbl := tm3 (List.mem_of_getElem? (i := 40) rfl)
theorem tw3_41 : Cond.instanceMethod yX9_day ∈ lw_tbl := tm3 (List.mem_of_getElem? (i := 41) rfl)
theorem tw3_42 : Cond.selects RX9 yX9_day yX9_day ∈ lw_tbl := tm3 (List.mem_of_getElem? (i := 42) rfl)
theorem tw3_43 : Cond.code yX9_day cX9_day 2 (some FieldType.int) ∈ lw_tbl := tm3 (List.mem_of_getElem? (i := 43) rfl)
theorem tw3_44 : Cond.methodLink RX9 147 yX7_isSummer ∈ lw_tbl := tm3 (List.mem_of_getElem? (i := 44) rfl)
theorem tw3_45 : Cond.instanceMethod yX7_isSummer ∈ lw_tbl := tm3 (List.mem_of_getElem? (i := 45) rfl)
theorem tw3_46 : Cond.selects RX7 yX7_isSummer yX7_isSummer ∈ lw_tbl := tm3 (List.mem_of_getElem? (i := 46) rfl)
theorem tw3_47 : Cond.code yX7_isSummer cX7_isSummer 1 (some FieldType.boolean) ∈ lw_tbl := tm3 (List.mem_of_getElem? (i := 47) rfl)
theorem tw3_48 : Cond.methodLink RX9 150 yX7_remember ∈ lw_tbl := tm3 (List.mem_of_getElem? (i := 48) rfl)
theorem tw3_49 : Cond.instanceMethod yX7_remember ∈ lw_tbl := tm3 (List.mem_of_getElem? (i := 49) rfl)
theorem tw3_50 : Cond.selects RX7 yX7_remember yX7_remember ∈ lw_tbl := tm3 (List.mem_of_getElem? (i := 50) rfl)
theorem tw3_51 : Cond.code yX7_remember cX7_remember 2 (none : Option FieldType) ∈ lw_tbl := tm3 (List.mem_of_getElem? (i := 51) rfl)
theorem tw3_52 : Cond.methodLink RX7 110 arraycopyName ∈ lw_tbl := tm3 (List.mem_of_getElem? (i := 52) rfl)
theorem tw3_53 : Cond.static arraycopyName ∈ lw_tbl := tm3 (List.mem_of_getElem? (i := 53) rfl)
theorem tw3_54 : Cond.native arraycopyName ∈ lw_tbl := tm3 (List.mem_of_getElem? (i := 54) rfl)
theorem tw3_55 : Cond.methodLink RX9 153 yX7_pass ∈ lw_tbl := tm3 (List.mem_of_getElem? (i := 55) rfl)
theorem tw3_56 : Cond.instanceMethod yX7_pass ∈ lw_tbl := tm3 (List.mem_of_getElem? (i := 56) rfl)
theorem tw3_57 : Cond.selects RX7 yX7_pass yX7_pass ∈ lw_tbl := tm3 (List.mem_of_getElem? (i := 57) rfl)
theorem tw3_58 : Cond.code yX7_pass cX7_pass 3 (some FieldType.int) ∈ lw_tbl := tm3 (List.mem_of_getElem? (i := 58) rfl)
theorem tw3_59 : Cond.methodLink RX7 93 yX7_costToday ∈ lw_tbl := tm3 (List.mem_of_getElem? (i := 59) rfl)
theorem tw3_60 : Cond.methodLink RX7 97 yX7_laidBehind ∈ lw_tbl := tm3 (List.mem_of_getElem? (i := 60) rfl)
theorem tw3_61 : Cond.instanceMethod yX7_laidBehind ∈ lw_tbl := tm3 (List.mem_of_getElem? (i := 61) rfl)
theorem tw3_62 : Cond.selects RX7 yX7_laidBehind yX7_laidBehind ∈ lw_tbl := tm3 (List.mem_of_getElem? (i := 62) rfl)
theorem tw3_63 : Cond.code yX7_laidBehind cX7_laidBehind 5 (some FieldType.int) ∈ lw_tbl := tm3 (List.mem_of_getElem? (i := 63) rfl)
theorem tw3_64 : Cond.methodLink RX7 66 yX7_layTogether ∈ lw_tbl := tm3 (List.mem_of_getElem? (i := 64) rfl)
theorem tw3_65 : Cond.instanceMethod yX7_layTogether ∈ lw_tbl := tm3 (List.mem_of_getElem? (i := 65) rfl)
theorem tw3_66 : Cond.selects RX7 yX7_layTogether yX7_layTogether ∈ lw_tbl := tm3 (List.mem_of_getElem? (i := 66) rfl)
theorem tw3_67 : Cond.code yX7_layTogether cX7_layTogether 8 (some FieldType.int) ∈ lw_tbl := tm3 (List.mem_of_getElem? (i := 67) rfl)
theorem tw3_68 : Cond.methodLink RX7 62 yX5_lays ∈ lw_tbl := tm3 (List.mem_of_getElem? (i := 68) rfl)
theorem tw3_69 : Cond.methodLink RX7 70 yJ9_min_7cf53 ∈ lw_tbl := tm3 (List.mem_of_getElem? (i := 69) rfl)
theorem tw3_70 : Cond.static yJ9_min_7cf53 ∈ lw_tbl := tm3 (List.mem_of_getElem? (i := 70) rfl)
theorem tw3_71 : Cond.code yJ9_min_7cf53 cJ9_min_7cf53 2 (some FieldType.int) ∈ lw_tbl := tm3 (List.mem_of_getElem? (i := 71) rfl)
theorem tw3_72 : Cond.methodLink RL 53 yX9_use ∈ lw_tbl := tm3 (List.mem_of_getElem? (i := 72) rfl)
theorem tw3_73 : Cond.instanceMethod yX9_use ∈ lw_tbl := tm3 (List.mem_of_getElem? (i := 73) rfl)
theorem tw3_74 : Cond.selects RX9 yX9_use yX9_use ∈ lw_tbl := tm3 (List.mem_of_getElem? (i := 74) rfl)
theorem tw3_75 : Cond.code yX9_use cX9_use 2 (some FieldType.int) ∈ lw_tbl := tm3 (List.mem_of_getElem? (i := 75) rfl)
theorem tw3_76 : Cond.methodLink RX9 156 yX7_isUsed ∈ lw_tbl := tm3 (List.mem_of_getElem? (i := 76) rfl)
theorem tw3_77 : Cond.instanceMethod yX7_isUsed ∈ lw_tbl := tm3 (List.mem_of_getElem? (i := 77) rfl)
theorem tw3_78 : Cond.selects RX7 yX7_isUsed yX7_isUsed ∈ lw_tbl := tm3 (List.mem_of_getElem? (i := 78) rfl)
theorem tw3_79 : Cond.code yX7_isUsed cX7_isUsed 2 (some FieldType.boolean) ∈ lw_tbl := tm3 (List.mem_of_getElem? (i := 79) rfl)
theorem tw3_80 : Cond.methodLink RX9 160 yX7_hinder ∈ lw_tbl := tm3 (List.mem_of_getElem? (i := 80) rfl)
theorem tw3_81 : Cond.instanceMethod yX7_hinder ∈ lw_tbl := tm3 (List.mem_of_getElem? (i := 81) rfl)
theorem tw3_82 : Cond.selects RX7 yX7_hinder yX7_hinder ∈ lw_tbl := tm3 (List.mem_of_getElem? (i := 82) rfl)
theorem tw3_83 : Cond.code yX7_hinder cX7_hinder 2 (none : Option FieldType) ∈ lw_tbl := tm3 (List.mem_of_getElem? (i := 83) rfl)
theorem tw3_84 : Cond.methodLink RX7 83 yX7_breaksSworn ∈ lw_tbl := tm3 (List.mem_of_getElem? (i := 84) rfl)
theorem tw3_85 : Cond.instanceMethod yX7_breaksSworn ∈ lw_tbl := tm3 (List.mem_of_getElem? (i := 85) rfl)
theorem tw3_86 : Cond.selects RX7 yX7_breaksSworn yX7_breaksSworn ∈ lw_tbl := tm3 (List.mem_of_getElem? (i := 86) rfl)
theorem tw3_87 : Cond.code yX7_breaksSworn cX7_breaksSworn 3 (some FieldType.boolean) ∈ lw_tbl := tm3 (List.mem_of_getElem? (i := 87) rfl)
theorem tw3_88 : Cond.methodLink RL 57 yX9_drift ∈ lw_tbl := tm3 (List.mem_of_getElem? (i := 88) rfl)
theorem tw3_89 : Cond.instanceMethod yX9_drift ∈ lw_tbl := tm3 (List.mem_of_getElem? (i := 89) rfl)
theorem tw3_90 : Cond.selects RX9 yX9_drift yX9_drift ∈ lw_tbl := tm3 (List.mem_of_getElem? (i := 90) rfl)
theorem tw3_91 : Cond.code yX9_drift cX9_drift 4 (some FieldType.int) ∈ lw_tbl := tm3 (List.mem_of_getElem? (i := 91) rfl)
theorem tw3_92 : Cond.methodLink RX9 164 yX7_drawWeather ∈ lw_tbl := tm3 (List.mem_of_getElem? (i := 92) rfl)
theorem tw3_93 : Cond.instanceMethod yX7_drawWeather ∈ lw_tbl := tm3 (List.mem_of_getElem? (i := 93) rfl)
theorem tw3_94 : Cond.selects RX7 yX7_drawWeather yX7_drawWeather ∈ lw_tbl := tm3 (List.mem_of_getElem? (i := 94) rfl)
theorem tw3_95 : Cond.code yX7_drawWeather cX7_drawWeather 2 (some FieldType.int) ∈ lw_tbl := tm3 (List.mem_of_getElem? (i := 95) rfl)
theorem tw3_96 : Cond.constantLong RX7 100 (1103515245) ∈ lw_tbl := tm3 (List.mem_of_getElem? (i := 96) rfl)
theorem tw3_97 : Cond.constantLong RX7 102 (12345) ∈ lw_tbl := tm3 (List.mem_of_getElem? (i := 97) rfl)
theorem tw3_98 : Cond.constantLong RX7 104 (2147483647) ∈ lw_tbl := tm3 (List.mem_of_getElem? (i := 98) rfl)
theorem tw3_99 : Cond.constant RX7 106 (65536) ∈ lw_tbl := tm3 (List.mem_of_getElem? (i := 99) rfl)
theorem tw3_100 : Cond.methodLink RL 61 yX9_undo ∈ lw_tbl := tm3 (List.mem_of_getElem? (i := 100) rfl)
theorem tw3_101 : Cond.instanceMethod yX9_undo ∈ lw_tbl := tm3 (List.mem_of_getElem? (i := 101) rfl)
theorem tw3_102 : Cond.selects RX9 yX9_undo yX9_undo ∈ lw_tbl := tm3 (List.mem_of_getElem? (i := 102) rfl)
theorem tw3_103 : Cond.code yX9_undo cX9_undo 1 (some FieldType.int) ∈ lw_tbl := tm3 (List.mem_of_getElem? (i := 103) rfl)
theorem tw3_104 : Cond.methodLink RX9 167 yX7_recall ∈ lw_tbl := tm3 (List.mem_of_getElem? (i := 104) rfl)
theorem tw3_105 : Cond.instanceMethod yX7_recall ∈ lw_tbl := tm3 (List.mem_of_getElem? (i := 105) rfl)
theorem tw3_106 : Cond.selects RX7 yX7_recall yX7_recall ∈ lw_tbl := tm3 (List.mem_of_getElem? (i := 106) rfl)
theorem tw3_107 : Cond.code yX7_recall cX7_recall 2 (none : Option FieldType) ∈ lw_tbl := tm3 (List.mem_of_getElem? (i := 107) rfl)
theorem tw3_108 : Cond.methodLink RL 65 yX9_seed ∈ lw_tbl := tm3 (List.mem_of_getElem? (i := 108) rfl)
theorem tw3_109 : Cond.instanceMethod yX9_seed ∈ lw_tbl := tm3 (List.mem_of_getElem? (i := 109) rfl)
theorem tw3_110 : Cond.selects RX9 yX9_seed yX9_seed ∈ lw_tbl := tm3 (List.mem_of_getElem? (i := 110) rfl)
theorem tw3_111 : Cond.code yX9_seed cX9_seed 3 (some FieldType.int) ∈ lw_tbl := tm3 (List.mem_of_getElem? (i := 111) rfl)
theorem tw3_112 : Cond.methodLink RL 69 yX9_odds ∈ lw_tbl := tm3 (List.mem_of_getElem? (i := 112) rfl)
theorem tw3_113 : Cond.instanceMethod yX9_odds ∈ lw_tbl := tm3 (List.mem_of_getElem? (i := 113) rfl)
theorem tw3_114 : Cond.selects RX9 yX9_odds yX9_odds ∈ lw_tbl := tm3 (List.mem_of_getElem? (i := 114) rfl)
theorem tw3_115 : Cond.code yX9_odds cX9_odds 1 (some FieldType.int) ∈ lw_tbl := tm3 (List.mem_of_getElem? (i := 115) rfl)
theorem tw3_116 : Cond.methodLink RX9 173 yX1_oddsNow ∈ lw_tbl := tm3 (List.mem_of_getElem? (i := 116) rfl)
theorem tw3_117 : Cond.instanceMethod yX1_oddsNow ∈ lw_tbl := tm3 (List.mem_of_getElem? (i := 117) rfl)
theorem tw3_118 : Cond.selects RX1 yX1_oddsNow yX1_oddsNow ∈ lw_tbl := tm3 (List.mem_of_getElem? (i := 118) rfl)
theorem tw3_119 : Cond.code yX1_oddsNow cX1_oddsNow 4 (some FieldType.int) ∈ lw_tbl := tm3 (List.mem_of_getElem? (i := 119) rfl)
theorem tw3_120 : Cond.methodLink RX1 42 yX7_costToday ∈ lw_tbl := tm3 (List.mem_of_getElem? (i := 120) rfl)
theorem tw3_121 : Cond.methodLink RX1 46 yX1_look ∈ lw_tbl := tm3 (List.mem_of_getElem? (i := 121) rfl)
theorem tw3_123 : Cond.instanceMethod yX1_look ∈ lw_tbl := tm3 (List.mem_of_getElem? (i := 123) rfl)
theorem tw3_124 : Cond.code yX1_look cX1_look 5 (none : Option FieldType) ∈ lw_tbl := tm3 (List.mem_of_getElem? (i := 124) rfl)
theorem tw3_125 : Cond.methodLink RX1 50 yX1_reckonLays ∈ lw_tbl := tm3 (List.mem_of_getElem? (i := 125) rfl)
theorem tw3_127 : Cond.instanceMethod yX1_reckonLays ∈ lw_tbl := tm3 (List.mem_of_getElem? (i := 127) rfl)
theorem tw3_128 : Cond.code yX1_reckonLays cX1_reckonLays 6 (none : Option FieldType) ∈ lw_tbl := tm3 (List.mem_of_getElem? (i := 128) rfl)
theorem tw3_129 : Cond.methodLink RX1 135 yX7_layTogether ∈ lw_tbl := tm3 (List.mem_of_getElem? (i := 129) rfl)
theorem tw3_130 : Cond.methodLink RX1 93 yX1_fillBehind ∈ lw_tbl := tm3 (List.mem_of_getElem? (i := 130) rfl)
theorem tw3_132 : Cond.instanceMethod yX1_fillBehind ∈ lw_tbl := tm3 (List.mem_of_getElem? (i := 132) rfl)
theorem tw3_133 : Cond.code yX1_fillBehind cX1_fillBehind 5 (none : Option FieldType) ∈ lw_tbl := tm3 (List.mem_of_getElem? (i := 133) rfl)
theorem tw3_134 : Cond.methodLink RX1 121 yX1_laidBehind ∈ lw_tbl := tm3 (List.mem_of_getElem? (i := 134) rfl)
theorem tw3_136 : Cond.instanceMethod yX1_laidBehind ∈ lw_tbl := tm3 (List.mem_of_getElem? (i := 136) rfl)
theorem tw3_137 : Cond.code yX1_laidBehind cX1_laidBehind 5 (some FieldType.int) ∈ lw_tbl := tm3 (List.mem_of_getElem? (i := 137) rfl)
theorem tw3_138 : Cond.methodLink RX1 139 yJ9_min_7cf53 ∈ lw_tbl := tm3 (List.mem_of_getElem? (i := 138) rfl)
theorem tw3_139 : Cond.methodLink RX1 54 yX1_goBackToTomorrow ∈ lw_tbl := tm3 (List.mem_of_getElem? (i := 139) rfl)
theorem tw3_141 : Cond.instanceMethod yX1_goBackToTomorrow ∈ lw_tbl := tm3 (List.mem_of_getElem? (i := 141) rfl)
theorem tw3_142 : Cond.code yX1_goBackToTomorrow cX1_goBackToTomorrow 2 (none : Option FieldType) ∈ lw_tbl := tm3 (List.mem_of_getElem? (i := 142) rfl)
theorem tw3_143 : Cond.methodLink RX1 64 yX1_startAtSummer ∈ lw_tbl := tm3 (List.mem_of_getElem? (i := 143) rfl)
theorem tw3_145 : Cond.instanceMethod yX1_startAtSummer ∈ lw_tbl := tm3 (List.mem_of_getElem? (i := 145) rfl)
theorem tw3_146 : Cond.code yX1_startAtSummer cX1_startAtSummer 2 (none : Option FieldType) ∈ lw_tbl := tm3 (List.mem_of_getElem? (i := 146) rfl)
theorem tw3_147 : Cond.constant RX1 100 (1000000) ∈ lw_tbl := tm3 (List.mem_of_getElem? (i := 147) rfl)
theorem tw3_148 : Cond.methodLink RX1 71 yX1_stepBack ∈ lw_tbl := tm3 (List.mem_of_getElem? (i := 148) rfl)
theorem tw3_150 : Cond.instanceMethod yX1_stepBack ∈ lw_tbl := tm3 (List.mem_of_getElem? (i := 150) rfl)
theorem tw3_151 : Cond.code yX1_stepBack cX1_stepBack 7 (none : Option FieldType) ∈ lw_tbl := tm3 (List.mem_of_getElem? (i := 151) rfl)
theorem tw3_152 : Cond.methodLink RX1 60 yX1_oddsToday ∈ lw_tbl := tm3 (List.mem_of_getElem? (i := 152) rfl)
theorem tw3_154 : Cond.instanceMethod yX1_oddsToday ∈ lw_tbl := tm3 (List.mem_of_getElem? (i := 154) rfl)
theorem tw3_155 : Cond.code yX1_oddsToday cX1_oddsToday 3 (some FieldType.int) ∈ lw_tbl := tm3 (List.mem_of_getElem? (i := 155) rfl)
theorem tw3_156 : Cond.methodLink RL 73 yX9_oddsAt ∈ lw_tbl := tm3 (List.mem_of_getElem? (i := 156) rfl)
theorem tw3_157 : Cond.instanceMethod yX9_oddsAt ∈ lw_tbl := tm3 (List.mem_of_getElem? (i := 157) rfl)
theorem tw3_158 : Cond.selects RX9 yX9_oddsAt yX9_oddsAt ∈ lw_tbl := tm3 (List.mem_of_getElem? (i := 158) rfl)
theorem tw3_159 : Cond.code yX9_oddsAt cX9_oddsAt 3 (some FieldType.int) ∈ lw_tbl := tm3 (List.mem_of_getElem? (i := 159) rfl)
theorem tw3_160 : Cond.methodLink RX9 177 yX1_oddsFrom ∈ lw_tbl := tm3 (List.mem_of_getElem? (i := 160) rfl)
theorem tw3_161 : Cond.instanceMethod yX1_oddsFrom ∈ lw_tbl := tm3 (List.mem_of_getElem? (i := 161) rfl)
theorem tw3_162 : Cond.selects RX1 yX1_oddsFrom yX1_oddsFrom ∈ lw_tbl := tm3 (List.mem_of_getElem? (i := 162) rfl)
theorem tw3_163 : Cond.code yX1_oddsFrom cX1_oddsFrom 4 (some FieldType.int) ∈ lw_tbl := tm3 (List.mem_of_getElem? (i := 163) rfl)
theorem tw3_164 : Cond.methodLink RL 77 yX9_sure ∈ lw_tbl := tm3 (List.mem_of_getElem? (i := 164) rfl)
theorem tw3_165 : Cond.instanceMethod yX9_sure ∈ lw_tbl := tm3 (List.mem_of_getElem? (i := 165) rfl)
theorem tw3_166 : Cond.selects RX9 yX9_sure yX9_sure ∈ lw_tbl := tm3 (List.mem_of_getElem? (i := 166) rfl)
theorem tw3_167 : Cond.code yX9_sure cX9_sure 2 (some FieldType.int) ∈ lw_tbl := tm3 (List.mem_of_getElem? (i := 167) rfl)
theorem tw3_168 : Cond.constant RX9 180 (1000000) ∈ lw_tbl := tm3 (List.mem_of_getElem? (i := 168) rfl)
theorem tw3_169 : Cond.methodLink RX9 181 yX1_firstSureDay ∈ lw_tbl := tm3 (List.mem_of_getElem? (i := 169) rfl)
theorem tw3_170 : Cond.instanceMethod yX1_firstSureDay ∈ lw_tbl := tm3 (List.mem_of_getElem? (i := 170) rfl)
theorem tw3_171 : Cond.selects RX1 yX1_firstSureDay yX1_firstSureDay ∈ lw_tbl := tm3 (List.mem_of_getElem? (i := 171) rfl)
theorem tw3_172 : Cond.code yX1_firstSureDay cX1_firstSureDay 5 (some FieldType.int) ∈ lw_tbl := tm3 (List.mem_of_getElem? (i := 172) rfl)
theorem tw3_173 : Cond.methodLink RL 81 yX9_pace ∈ lw_tbl := tm3 (List.mem_of_getElem? (i := 173) rfl)
theorem tw3_174 : Cond.instanceMethod yX9_pace ∈ lw_tbl := tm3 (List.mem_of_getElem? (i := 174) rfl)
theorem tw3_175 : Cond.selects RX9 yX9_pace yX9_pace ∈ lw_tbl := tm3 (List.mem_of_getElem? (i := 175) rfl)
theorem tw3_176 : Cond.code yX9_pace cX9_pace 6 (some FieldType.int) ∈ lw_tbl := tm3 (List.mem_of_getElem? (i := 176) rfl)
theorem tw3_177 : Cond.methodLink RL 85 yX9_plan ∈ lw_tbl := tm3 (List.mem_of_getElem? (i := 177) rfl)
theorem tw3_178 : Cond.instanceMethod yX9_plan ∈ lw_tbl := tm3 (List.mem_of_getElem? (i := 178) rfl)
theorem tw3_179 : Cond.selects RX9 yX9_plan yX9_plan ∈ lw_tbl := tm3 (List.mem_of_getElem? (i := 179) rfl)
theorem tw3_180 : Cond.code yX9_plan cX9_plan 4 (some FieldType.int) ∈ lw_tbl := tm3 (List.mem_of_getElem? (i := 180) rfl)
theorem tw3_181 : Cond.methodLink RX9 185 yX1_fewestHindrances ∈ lw_tbl := tm3 (List.mem_of_getElem? (i := 181) rfl)
theorem tw3_182 : Cond.instanceMethod yX1_fewestHindrances ∈ lw_tbl := tm3 (List.mem_of_getElem? (i := 182) rfl)
theorem tw3_183 : Cond.selects RX1 yX1_fewestHindrances yX1_fewestHindrances ∈ lw_tbl := tm3 (List.mem_of_getElem? (i := 183) rfl)
theorem tw3_184 : Cond.code yX1_fewestHindrances cX1_fewestHindrances 7 (some FieldType.int) ∈ lw_tbl := tm3 (List.mem_of_getElem? (i := 184) rfl)
theorem tw3_185 : Cond.methodLink RX1 78 yX7_forbidden ∈ lw_tbl := tm3 (List.mem_of_getElem? (i := 185) rfl)
theorem tw3_186 : Cond.instanceMethod yX7_forbidden ∈ lw_tbl := tm3 (List.mem_of_getElem? (i := 186) rfl)
theorem tw3_187 : Cond.selects RX7 yX7_forbidden yX7_forbidden ∈ lw_tbl := tm3 (List.mem_of_getElem? (i := 187) rfl)
theorem tw3_188 : Cond.code yX7_forbidden cX7_forbidden 3 (some FieldType.int) ∈ lw_tbl := tm3 (List.mem_of_getElem? (i := 188) rfl)
theorem tw3_189 : Cond.methodLink RX1 84 yJ6_bitCount_0f7a4 ∈ lw_tbl := tm3 (List.mem_of_getElem? (i := 189) rfl)
theorem tw3_190 : Cond.static yJ6_bitCount_0f7a4 ∈ lw_tbl := tm3 (List.mem_of_getElem? (i := 190) rfl)
theorem tw3_191 : Cond.code yJ6_bitCount_0f7a4 cJ6_bitCount_0f7a4 1 (some FieldType.int) ∈ lw_tbl := tm3 (List.mem_of_getElem? (i := 191) rfl)
theorem tw3_192 : Cond.constant RJ6 265 (1431655765) ∈ lw_tbl := tm3 (List.mem_of_getElem? (i := 192) rfl)
theorem tw3_193 : Cond.constant RJ6 266 (858993459) ∈ lw_tbl := tm3 (List.mem_of_getElem? (i := 193) rfl)
theorem tw3_194 : Cond.constant RJ6 267 (252645135) ∈ lw_tbl := tm3 (List.mem_of_getElem? (i := 194) rfl)
theorem tw3_195 : Cond.methodLink RX1 90 yX7_costOf ∈ lw_tbl := tm3 (List.mem_of_getElem? (i := 195) rfl)
theorem tw3_196 : Cond.methodLink RX9 188 yJ6_bitCount_0f7a4 ∈ lw_tbl := tm3 (List.mem_of_getElem? (i := 196) rfl)
theorem tw3_197 : Cond.methodLink RL 89 yX9_best ∈ lw_tbl := tm3 (List.mem_of_getElem? (i := 197) rfl)
theorem tw3_198 : Cond.instanceMethod yX9_best ∈ lw_tbl := tm3 (List.mem_of_getElem? (i := 198) rfl)
theorem tw3_199 : Cond.selects RX9 yX9_best yX9_best ∈ lw_tbl := tm3 (List.mem_of_getElem? (i := 199) rfl)
theorem tw3_200 : Cond.code yX9_best cX9_best 3 (some FieldType.int) ∈ lw_tbl := tm3 (List.mem_of_getElem? (i := 200) rfl)
theorem tw3_201 : Cond.methodLink RX9 193 yX7_costOf ∈ lw_tbl := tm3 (List.mem_of_getElem? (i := 201) rfl)
theorem tw3_202 : Cond.methodLink RX9 196 yX1_findBestDay ∈ lw_tbl := tm3 (List.mem_of_getElem? (i := 202) rfl)
theorem tw3_203 : Cond.instanceMethod yX1_findBestDay ∈ lw_tbl := tm3 (List.mem_of_getElem? (i := 203) rfl)
theorem tw3_204 : Cond.selects RX1 yX1_findBestDay yX1_findBestDay ∈ lw_tbl := tm3 (List.mem_of_getElem? (i := 204) rfl)
theorem tw3_205 : Cond.code yX1_findBestDay cX1_findBestDay 5 (none : Option FieldType) ∈ lw_tbl := tm3 (List.mem_of_getElem? (i := 205) rfl)
theorem tw3_206 : Cond.methodLink RX1 104 yX1_oddsIfHindered ∈ lw_tbl := tm3 (List.mem_of_getElem? (i := 206) rfl)
theorem tw3_208 : Cond.instanceMethod yX1_oddsIfHindered ∈ lw_tbl := tm3 (List.mem_of_getElem? (i := 208) rfl)
theorem tw3_209 : Cond.code yX1_oddsIfHindered cX1_oddsIfHindered 3 (some FieldType.int) ∈ lw_tbl := tm3 (List.mem_of_getElem? (i := 209) rfl)
theorem tw3_210 : Cond.methodLink RX1 107 arraycopyName ∈ lw_tbl := tm3 (List.mem_of_getElem? (i := 210) rfl)
theorem tw3_211 : Cond.methodLink RL 93 yX9_soonest ∈ lw_tbl := tm3 (List.mem_of_getElem? (i := 211) rfl)
theorem tw3_212 : Cond.instanceMethod yX9_soonest ∈ lw_tbl := tm3 (List.mem_of_getElem? (i := 212) rfl)
theorem tw3_213 : Cond.selects RX9 yX9_soonest yX9_soonest ∈ lw_tbl := tm3 (List.mem_of_getElem? (i := 213) rfl)
theorem tw3_214 : Cond.code yX9_soonest cX9_soonest 4 (some FieldType.int) ∈ lw_tbl := tm3 (List.mem_of_getElem? (i := 214) rfl)
theorem tw3_215 : Cond.methodLink RX9 206 yX7_laidBehind ∈ lw_tbl := tm3 (List.mem_of_getElem? (i := 215) rfl)
theorem tw3_216 : Cond.methodLink RL 97 yX9_mean ∈ lw_tbl := tm3 (List.mem_of_getElem? (i := 216) rfl)
theorem tw3_217 : Cond.instanceMethod yX9_mean ∈ lw_tbl := tm3 (List.mem_of_getElem? (i := 217) rfl)
theorem tw3_218 : Cond.selects RX9 yX9_mean yX9_mean ∈ lw_tbl := tm3 (List.mem_of_getElem? (i := 218) rfl)
theorem tw3_219 : Cond.code yX9_mean cX9_mean 6 (some FieldType.int) ∈ lw_tbl := tm3 (List.mem_of_getElem? (i := 219) rfl)
theorem tw3_220 : Cond.methodLink RX9 209 yX1_sumOfLaid ∈ lw_tbl := tm3 (List.mem_of_getElem? (i := 220) rfl)
theorem tw3_221 : Cond.instanceMethod yX1_sumOfLaid ∈ lw_tbl := tm3 (List.mem_of_getElem? (i := 221) rfl)
theorem tw3_222 : Cond.selects RX1 yX1_sumOfLaid yX1_sumOfLaid ∈ lw_tbl := tm3 (List.mem_of_getElem? (i := 222) rfl)
theorem tw3_223 : Cond.code yX1_sumOfLaid cX1_sumOfLaid 5 (some FieldType.int) ∈ lw_tbl := tm3 (List.mem_of_getElem? (i := 223) rfl)
theorem tw3_224 : Cond.methodLink RX1 114 yX1_spread ∈ lw_tbl := tm3 (List.mem_of_getElem? (i := 224) rfl)
theorem tw3_226 : Cond.instanceMethod yX1_spread ∈ lw_tbl := tm3 (List.mem_of_getElem? (i := 226) rfl)
theorem tw3_227 : Cond.code yX1_spread cX1_spread 4 (none : Option FieldType) ∈ lw_tbl := tm3 (List.mem_of_getElem? (i := 227) rfl)
theorem tw3_228 : Cond.methodLink RX9 212 yX9_commonDivisor ∈ lw_tbl := tm3 (List.mem_of_getElem? (i := 228) rfl)
theorem tw3_229 : Cond.static yX9_commonDivisor ∈ lw_tbl := tm3 (List.mem_of_getElem? (i := 229) rfl)
theorem tw3_230 : Cond.code yX9_commonDivisor cX9_commonDivisor 6 (some FieldType.int) ∈ lw_tbl := tm3 (List.mem_of_getElem? (i := 230) rfl)
theorem tw3_231 : Cond.methodLink RL 101 yX9_image ∈ lw_tbl := tm3 (List.mem_of_getElem? (i := 231) rfl)
theorem tw3_232 : Cond.instanceMethod yX9_image ∈ lw_tbl := tm3 (List.mem_of_getElem? (i := 232) rfl)
theorem tw3_233 : Cond.selects RX9 yX9_image yX9_image ∈ lw_tbl := tm3 (List.mem_of_getElem? (i := 233) rfl)
theorem tw3_234 : Cond.code yX9_image cX9_image 1 (some FieldType.int) ∈ lw_tbl := tm3 (List.mem_of_getElem? (i := 234) rfl)
theorem tw3_235 : Cond.methodLink RX9 215 yX7_becomes ∈ lw_tbl := tm3 (List.mem_of_getElem? (i := 235) rfl)
theorem tw3_236 : Cond.instanceMethod yX7_becomes ∈ lw_tbl := tm3 (List.mem_of_getElem? (i := 236) rfl)
theorem tw3_237 : Cond.selects RX7 yX7_becomes yX7_becomes ∈ lw_tbl := tm3 (List.mem_of_getElem? (i := 237) rfl)
theorem tw3_238 : Cond.code yX7_becomes cX7_becomes 3 (none : Option FieldType) ∈ lw_tbl := tm3 (List.mem_of_getElem? (i := 238) rfl)
theorem tw3_239 : Cond.methodLink RL 105 yX9_restore ∈ lw_tbl := tm3 (List.mem_of_getElem? (i := 239) rfl)
theorem tw4_0 : Cond.instanceMethod yX9_restore ∈ lw_tbl := tm4 (List.mem_of_getElem? (i := 0) rfl)
theorem tw4_1 : Cond.selects RX9 yX9_restore yX9_restore ∈ lw_tbl := tm4 (List.mem_of_getElem? (i := 1) rfl)
theorem tw4_2 : Cond.code yX9_restore cX9_restore 1 (some FieldType.int) ∈ lw_tbl := tm4 (List.mem_of_getElem? (i := 2) rfl)
theorem tw4_3 : Cond.methodLink RL 109 yX9_weather ∈ lw_tbl := tm4 (List.mem_of_getElem? (i := 3) rfl)
theorem tw4_4 : Cond.instanceMethod yX9_weather ∈ lw_tbl := tm4 (List.mem_of_getElem? (i := 4) rfl)
theorem tw4_5 : Cond.selects RX9 yX9_weather yX9_weather ∈ lw_tbl := tm4 (List.mem_of_getElem? (i := 5) rfl)
theorem tw4_6 : Cond.code yX9_weather cX9_weather 7 (some FieldType.int) ∈ lw_tbl := tm4 (List.mem_of_getElem? (i := 6) rfl)
theorem tw4_7 : Cond.methodLink RX9 223 yX9_isSheet ∈ lw_tbl := tm4 (List.mem_of_getElem? (i := 7) rfl)
theorem tw4_8 : Cond.static yX9_isSheet ∈ lw_tbl := tm4 (List.mem_of_getElem? (i := 8) rfl)
theorem tw4_9 : Cond.code yX9_isSheet cX9_isSheet 1 (some FieldType.boolean) ∈ lw_tbl := tm4 (List.mem_of_getElem? (i := 9) rfl)
theorem tw4_10 : Cond.methodLink RX9 226 yX9_isLane ∈ lw_tbl := tm4 (List.mem_of_getElem? (i := 10) rfl)
theorem tw4_11 : Cond.static yX9_isLane ∈ lw_tbl := tm4 (List.mem_of_getElem? (i := 11) rfl)
theorem tw4_12 : Cond.code yX9_isLane cX9_isLane 1 (some FieldType.boolean) ∈ lw_tbl := tm4 (List.mem_of_getElem? (i := 12) rfl)
theorem tw4_13 : Cond.methodLink RX9 229 yX6_find ∈ lw_tbl := tm4 (List.mem_of_getElem? (i := 13) rfl)
theorem tw4_14 : Cond.instanceMethod yX6_find ∈ lw_tbl := tm4 (List.mem_of_getElem? (i := 14) rfl)
theorem tw4_15 : Cond.selects RX6 yX6_find yX6_find ∈ lw_tbl := tm4 (List.mem_of_getElem? (i := 15) rfl)
theorem tw4_16 : Cond.code yX6_find cX6_find 4 (some FieldType.int) ∈ lw_tbl := tm4 (List.mem_of_getElem? (i := 16) rfl)
theorem tw4_17 : Cond.methodLink RX6 26 yX6_has ∈ lw_tbl := tm4 (List.mem_of_getElem? (i := 17) rfl)
theorem tw4_18 : Cond.instanceMethod yX6_has ∈ lw_tbl := tm4 (List.mem_of_getElem? (i := 18) rfl)
theorem tw4_19 : Cond.selects RX6 yX6_has yX6_has ∈ lw_tbl := tm4 (List.mem_of_getElem? (i := 19) rfl)
theorem tw4_20 : Cond.code yX6_has cX6_has 3 (some FieldType.boolean) ∈ lw_tbl := tm4 (List.mem_of_getElem? (i := 20) rfl)
theorem tw4_21 : Cond.methodLink RX9 236 yX9_weatherOf ∈ lw_tbl := tm4 (List.mem_of_getElem? (i := 21) rfl)
theorem tw4_23 : Cond.instanceMethod yX9_weatherOf ∈ lw_tbl := tm4 (List.mem_of_getElem? (i := 23) rfl)
theorem tw4_24 : Cond.code yX9_weatherOf cX9_weatherOf 10 (some FieldType.int) ∈ lw_tbl := tm4 (List.mem_of_getElem? (i := 24) rfl)
theorem tw4_25 : Cond.methodLink RX9 240 yX9_fittingWeathers ∈ lw_tbl := tm4 (List.mem_of_getElem? (i := 25) rfl)
theorem tw4_27 : Cond.instanceMethod yX9_fittingWeathers ∈ lw_tbl := tm4 (List.mem_of_getElem? (i := 27) rfl)
theorem tw4_28 : Cond.code yX9_fittingWeathers cX9_fittingWeathers 7 (some FieldType.int) ∈ lw_tbl := tm4 (List.mem_of_getElem? (i := 28) rfl)
theorem tw4_29 : Cond.methodLink RL 114 yX9_film ∈ lw_tbl := tm4 (List.mem_of_getElem? (i := 29) rfl)
theorem tw4_30 : Cond.instanceMethod yX9_film ∈ lw_tbl := tm4 (List.mem_of_getElem? (i := 30) rfl)
theorem tw4_31 : Cond.selects RX9 yX9_film yX9_film ∈ lw_tbl := tm4 (List.mem_of_getElem? (i := 31) rfl)
theorem tw4_32 : Cond.code yX9_film cX9_film 9 (some FieldType.int) ∈ lw_tbl := tm4 (List.mem_of_getElem? (i := 32) rfl)
theorem tw4_33 : Cond.methodLink RX9 244 yX6_put ∈ lw_tbl := tm4 (List.mem_of_getElem? (i := 33) rfl)
theorem tw4_34 : Cond.instanceMethod yX6_put ∈ lw_tbl := tm4 (List.mem_of_getElem? (i := 34) rfl)
theorem tw4_35 : Cond.selects RX6 yX6_put yX6_put ∈ lw_tbl := tm4 (List.mem_of_getElem? (i := 35) rfl)
theorem tw4_36 : Cond.code yX6_put cX6_put 4 (none : Option FieldType) ∈ lw_tbl := tm4 (List.mem_of_getElem? (i := 36) rfl)
theorem tw4_37 : Cond.methodLinkNest RX6 30 yX9_within "SummerWall" ∈ lw_tbl := tm4 (List.mem_of_getElem? (i := 37) rfl)
theorem tw4_38 : Cond.methodLink RX6 34 yX6_cut ∈ lw_tbl := tm4 (List.mem_of_getElem? (i := 38) rfl)
theorem tw4_40 : Cond.instanceMethod yX6_cut ∈ lw_tbl := tm4 (List.mem_of_getElem? (i := 40) rfl)
theorem tw4_41 : Cond.code yX6_cut cX6_cut 3 (some FieldType.long) ∈ lw_tbl := tm4 (List.mem_of_getElem? (i := 41) rfl)
theorem tw4_42 : Cond.methodLink RL 118 yX9_sheet ∈ lw_tbl := tm4 (List.mem_of_getElem? (i := 42) rfl)
theorem tw4_43 : Cond.instanceMethod yX9_sheet ∈ lw_tbl := tm4 (List.mem_of_getElem? (i := 43) rfl)
theorem tw4_44 : Cond.selects RX9 yX9_sheet yX9_sheet ∈ lw_tbl := tm4 (List.mem_of_getElem? (i := 44) rfl)
theorem tw4_45 : Cond.code yX9_sheet cX9_sheet 4 (some FieldType.int) ∈ lw_tbl := tm4 (List.mem_of_getElem? (i := 45) rfl)
theorem tw4_46 : Cond.methodLink RX9 248 yX6_renew ∈ lw_tbl := tm4 (List.mem_of_getElem? (i := 46) rfl)
theorem tw4_47 : Cond.instanceMethod yX6_renew ∈ lw_tbl := tm4 (List.mem_of_getElem? (i := 47) rfl)
theorem tw4_48 : Cond.selects RX6 yX6_renew yX6_renew ∈ lw_tbl := tm4 (List.mem_of_getElem? (i := 48) rfl)
theorem tw4_49 : Cond.code yX6_renew cX6_renew 4 (none : Option FieldType) ∈ lw_tbl := tm4 (List.mem_of_getElem? (i := 49) rfl)
theorem tw4_50 : Cond.methodLink RL 122 yX9_drop ∈ lw_tbl := tm4 (List.mem_of_getElem? (i := 50) rfl)
theorem tw4_51 : Cond.instanceMethod yX9_drop ∈ lw_tbl := tm4 (List.mem_of_getElem? (i := 51) rfl)
theorem tw4_52 : Cond.selects RX9 yX9_drop yX9_drop ∈ lw_tbl := tm4 (List.mem_of_getElem? (i := 52) rfl)
theorem tw4_53 : Cond.code yX9_drop cX9_drop 2 (some FieldType.int) ∈ lw_tbl := tm4 (List.mem_of_getElem? (i := 53) rfl)
theorem tw4_54 : Cond.methodLink RL 128 yX9_item ∈ lw_tbl := tm4 (List.mem_of_getElem? (i := 54) rfl)
theorem tw4_55 : Cond.instanceMethod yX9_item ∈ lw_tbl := tm4 (List.mem_of_getElem? (i := 55) rfl)
theorem tw4_56 : Cond.selects RX9 yX9_item yX9_item ∈ lw_tbl := tm4 (List.mem_of_getElem? (i := 56) rfl)
theorem tw4_57 : Cond.code yX9_item cX9_item 7 (some FieldType.int) ∈ lw_tbl := tm4 (List.mem_of_getElem? (i := 57) rfl)
theorem tw4_58 : Cond.methodLink RL 133 yX9_copy ∈ lw_tbl := tm4 (List.mem_of_getElem? (i := 58) rfl)
theorem tw4_59 : Cond.instanceMethod yX9_copy ∈ lw_tbl := tm4 (List.mem_of_getElem? (i := 59) rfl)
theorem tw4_60 : Cond.selects RX9 yX9_copy yX9_copy ∈ lw_tbl := tm4 (List.mem_of_getElem? (i := 60) rfl)
theorem tw4_61 : Cond.code yX9_copy cX9_copy 8 (some FieldType.int) ∈ lw_tbl := tm4 (List.mem_of_getElem? (i := 61) rfl)
theorem tw4_62 : Cond.methodLink RX9 260 yX6_has ∈ lw_tbl := tm4 (List.mem_of_getElem? (i := 62) rfl)
theorem tw4_63 : Cond.methodLink RX9 264 arraycopyName ∈ lw_tbl := tm4 (List.mem_of_getElem? (i := 63) rfl)
theorem tw4_64 : Cond.classLink RL 10 "SummerWallModel" ∈ lw_tbl := tm4 (List.mem_of_getElem? (i := 64) rfl)
theorem tw4_65 : Cond.instantiable RX10 20 ∈ lw_tbl := tm4 (List.mem_of_getElem? (i := 65) rfl)
theorem tw4_66 : Cond.methodLink RL 12 yX10_init ∈ lw_tbl := tm4 (List.mem_of_getElem? (i := 66) rfl)
theorem tw4_67 : Cond.instanceMethod yX10_init ∈ lw_tbl := tm4 (List.mem_of_getElem? (i := 67) rfl)
theorem tw4_68 : Cond.code yX10_init cX10_init 2 (none : Option FieldType) ∈ lw_tbl := tm4 (List.mem_of_getElem? (i := 68) rfl)
theorem tw4_69 : Cond.methodLink RX10 1 objectInit ∈ lw_tbl := tm4 (List.mem_of_getElem? (i := 69) rfl)
theorem tw4_70 : Cond.fieldLink RX10 7 "SummerWallModel" "now" "[I" ∈ lw_tbl := tm4 (List.mem_of_getElem? (i := 70) rfl)
theorem tw4_71 : Cond.fieldLink RX10 13 "SummerWallModel" "faster" "I" ∈ lw_tbl := tm4 (List.mem_of_getElem? (i := 71) rfl)
theorem tw4_72 : Cond.fieldLink RX10 57 "SummerWallModel" "by" "I" ∈ lw_tbl := tm4 (List.mem_of_getElem? (i := 72) rfl)
theorem tw4_73 : Cond.fieldLink RX10 17 "SummerWallModel" "tape" "[I" ∈ lw_tbl := tm4 (List.mem_of_getElem? (i := 73) rfl)
theorem tw4_74 : Cond.fieldLink RX10 95 "SummerWallModel" "typed" "I" ∈ lw_tbl := tm4 (List.mem_of_getElem? (i := 74) rfl)
theorem tw4_75 : Cond.fieldLink RX10 98 "SummerWallModel" "place" "I" ∈ lw_tbl := tm4 (List.mem_of_getElem? (i := 75) rfl)
theorem tw4_76 : Cond.fieldLink RX10 101 "SummerWallModel" "isFault" "Z" ∈ lw_tbl := tm4 (List.mem_of_getElem? (i := 76) rfl)
theorem tw4_77 : Cond.fieldLink RX10 20 "SummerWallModel" "read" "[I" ∈ lw_tbl := tm4 (List.mem_of_getElem? (i := 77) rfl)
theorem tw4_78 : Cond.fieldLink RX10 23 "SummerWallModel" "undone" "[I" ∈ lw_tbl := tm4 (List.mem_of_getElem? (i := 78) rfl)
theorem tw4_79 : Cond.fieldLink RX10 72 "SummerWallModel" "undos" "I" ∈ lw_tbl := tm4 (List.mem_of_getElem? (i := 79) rfl)
theorem tw4_80 : Cond.fieldLink RX10 26 "SummerWallModel" "chances" "[I" ∈ lw_tbl := tm4 (List.mem_of_getElem? (i := 80) rfl)
theorem tw4_81 : Cond.fieldLink RX10 29 "SummerWallModel" "parts" "[I" ∈ lw_tbl := tm4 (List.mem_of_getElem? (i := 81) rfl)
theorem tw4_82 : Cond.fieldLink RX10 32 "SummerWallModel" "nexts" "[I" ∈ lw_tbl := tm4 (List.mem_of_getElem? (i := 82) rfl)
theorem tw4_83 : Cond.fieldLink RX10 35 "SummerWallModel" "kept" "[I" ∈ lw_tbl := tm4 (List.mem_of_getElem? (i := 83) rfl)
theorem tw4_84 : Cond.fieldLink RX10 201 "SummerWallModel" "keptUndos" "I" ∈ lw_tbl := tm4 (List.mem_of_getElem? (i := 84) rfl)
theorem tw4_85 : Cond.fieldLink RX10 204 "SummerWallModel" "isKept" "Z" ∈ lw_tbl := tm4 (List.mem_of_getElem? (i := 85) rfl)
theorem tw4_86 : Cond.fieldLink RX10 38 "SummerWallModel" "lanes" "[I" ∈ lw_tbl := tm4 (List.mem_of_getElem? (i := 86) rfl)
theorem tw4_87 : Cond.fieldLink RX10 41 "SummerWallModel" "sizes" "[I" ∈ lw_tbl := tm4 (List.mem_of_getElem? (i := 87) rfl)
theorem tw4_88 : Cond.fieldLink RX10 44 "SummerWallModel" "items" "[J" ∈ lw_tbl := tm4 (List.mem_of_getElem? (i := 88) rfl)
theorem tw4_89 : Cond.fieldLink RX10 48 "SummerWallModel" "moved" "[J" ∈ lw_tbl := tm4 (List.mem_of_getElem? (i := 89) rfl)
theorem tw4_90 : Cond.laysFinal RX10 "SummerWallModel" "now" "[I" ∈ lw_tbl := tm4 (List.mem_of_getElem? (i := 90) rfl)
theorem tw4_92 : Cond.lays RX10 "SummerWallModel" "faster" "I" ∈ lw_tbl := tm4 (List.mem_of_getElem? (i := 92) rfl)
theorem tw4_94 : Cond.lays RX10 "SummerWallModel" "by" "I" ∈ lw_tbl := tm4 (List.mem_of_getElem? (i := 94) rfl)
theorem tw4_96 : Cond.laysFinal RX10 "SummerWallModel" "tape" "[I" ∈ lw_tbl := tm4 (List.mem_of_getElem? (i := 96) rfl)
theorem tw4_98 : Cond.lays RX10 "SummerWallModel" "typed" "I" ∈ lw_tbl := tm4 (List.mem_of_getElem? (i := 98) rfl)
theorem tw4_100 : Cond.lays RX10 "SummerWallModel" "place" "I" ∈ lw_tbl := tm4 (List.mem_of_getElem? (i := 100) rfl)
theorem tw4_102 : Cond.lays RX10 "SummerWallModel" "isFault" "Z" ∈ lw_tbl := tm4 (List.mem_of_getElem? (i := 102) rfl)
theorem tw4_104 : Cond.laysFinal RX10 "SummerWallModel" "read" "[I" ∈ lw_tbl := tm4 (List.mem_of_getElem? (i := 104) rfl)
theorem tw4_106 : Cond.laysFinal RX10 "SummerWallModel" "undone" "[I" ∈ lw_tbl := tm4 (List.mem_of_getElem? (i := 106) rfl)
theorem tw4_108 : Cond.lays RX10 "SummerWallModel" "undos" "I" ∈ lw_tbl := tm4 (List.mem_of_getElem? (i := 108) rfl)
theorem tw4_110 : Cond.laysFinal RX10 "SummerWallModel" "chances" "[I" ∈ lw_tbl := tm4 (List.mem_of_getElem? (i := 110) rfl)
theorem tw4_112 : Cond.laysFinal RX10 "SummerWallModel" "parts" "[I" ∈ lw_tbl := tm4 (List.mem_of_getElem? (i := 112) rfl)
theorem tw4_114 : Cond.laysFinal RX10 "SummerWallModel" "nexts" "[I" ∈ lw_tbl := tm4 (List.mem_of_getElem? (i := 114) rfl)
theorem tw4_116 : Cond.laysFinal RX10 "SummerWallModel" "kept" "[I" ∈ lw_tbl := tm4 (List.mem_of_getElem? (i := 116) rfl)
theorem tw4_118 : Cond.lays RX10 "SummerWallModel" "keptUndos" "I" ∈ lw_tbl := tm4 (List.mem_of_getElem? (i := 118) rfl)
theorem tw4_120 : Cond.lays RX10 "SummerWallModel" "isKept" "Z" ∈ lw_tbl := tm4 (List.mem_of_getElem? (i := 120) rfl)
theorem tw4_122 : Cond.laysFinal RX10 "SummerWallModel" "lanes" "[I" ∈ lw_tbl := tm4 (List.mem_of_getElem? (i := 122) rfl)
theorem tw4_124 : Cond.laysFinal RX10 "SummerWallModel" "sizes" "[I" ∈ lw_tbl := tm4 (List.mem_of_getElem? (i := 124) rfl)
theorem tw4_126 : Cond.laysFinal RX10 "SummerWallModel" "items" "[J" ∈ lw_tbl := tm4 (List.mem_of_getElem? (i := 126) rfl)
theorem tw4_128 : Cond.laysFinal RX10 "SummerWallModel" "moved" "[J" ∈ lw_tbl := tm4 (List.mem_of_getElem? (i := 128) rfl)
theorem tw4_131 : Cond.methodLink RL 17 yX10_builder ∈ lw_tbl := tm4 (List.mem_of_getElem? (i := 131) rfl)
theorem tw4_132 : Cond.instanceMethod yX10_builder ∈ lw_tbl := tm4 (List.mem_of_getElem? (i := 132) rfl)
theorem tw4_133 : Cond.selects RX10 yX10_builder yX10_builder ∈ lw_tbl := tm4 (List.mem_of_getElem? (i := 133) rfl)
theorem tw4_134 : Cond.code yX10_builder cX10_builder 5 (some FieldType.int) ∈ lw_tbl := tm4 (List.mem_of_getElem? (i := 134) rfl)
theorem tw4_135 : Cond.constantLong RX10 68 (4) ∈ lw_tbl := tm4 (List.mem_of_getElem? (i := 135) rfl)
theorem tw4_136 : Cond.methodLink RX10 51 yX10_in ∈ lw_tbl := tm4 (List.mem_of_getElem? (i := 136) rfl)
theorem tw4_137 : Cond.static yX10_in ∈ lw_tbl := tm4 (List.mem_of_getElem? (i := 137) rfl)
theorem tw4_138 : Cond.code yX10_in cX10_in 6 (some FieldType.boolean) ∈ lw_tbl := tm4 (List.mem_of_getElem? (i := 138) rfl)
theorem tw4_139 : Cond.constantLong RX10 70 (9) ∈ lw_tbl := tm4 (List.mem_of_getElem? (i := 139) rfl)
theorem tw4_140 : Cond.methodLink RL 22 yX10_of ∈ lw_tbl := tm4 (List.mem_of_getElem? (i := 140) rfl)
theorem tw4_141 : Cond.instanceMethod yX10_of ∈ lw_tbl := tm4 (List.mem_of_getElem? (i := 141) rfl)
theorem tw4_142 : Cond.selects RX10 yX10_of yX10_of ∈ lw_tbl := tm4 (List.mem_of_getElem? (i := 142) rfl)
theorem tw4_143 : Cond.code yX10_of cX10_of 3 (some FieldType.int) ∈ lw_tbl := tm4 (List.mem_of_getElem? (i := 143) rfl)
theorem tw4_144 : Cond.methodLink RX10 75 yX10_isBuilder ∈ lw_tbl := tm4 (List.mem_of_getElem? (i := 144) rfl)
theorem tw4_146 : Cond.instanceMethod yX10_isBuilder ∈ lw_tbl := tm4 (List.mem_of_getElem? (i := 146) rfl)
theorem tw4_147 : Cond.code yX10_isBuilder cX10_isBuilder 2 (some FieldType.boolean) ∈ lw_tbl := tm4 (List.mem_of_getElem? (i := 147) rfl)
theorem tw4_148 : Cond.constantLong RX10 79 (6) ∈ lw_tbl := tm4 (List.mem_of_getElem? (i := 148) rfl)
theorem tw4_149 : Cond.methodLink RX10 60 yX10_haulsOf ∈ lw_tbl := tm4 (List.mem_of_getElem? (i := 149) rfl)
theorem tw4_151 : Cond.instanceMethod yX10_haulsOf ∈ lw_tbl := tm4 (List.mem_of_getElem? (i := 151) rfl)
theorem tw4_152 : Cond.code yX10_haulsOf cX10_haulsOf 5 (some FieldType.int) ∈ lw_tbl := tm4 (List.mem_of_getElem? (i := 152) rfl)
theorem tw4_153 : Cond.methodLink RX10 64 yX10_laysOf ∈ lw_tbl := tm4 (List.mem_of_getElem? (i := 153) rfl)
theorem tw4_155 : Cond.instanceMethod yX10_laysOf ∈ lw_tbl := tm4 (List.mem_of_getElem? (i := 155) rfl)
theorem tw4_156 : Cond.code yX10_laysOf cX10_laysOf 7 (some FieldType.int) ∈ lw_tbl := tm4 (List.mem_of_getElem? (i := 156) rfl)
theorem tw4_157 : Cond.methodLink RL 26 yX10_wall ∈ lw_tbl := tm4 (List.mem_of_getElem? (i := 157) rfl)
theorem tw4_158 : Cond.instanceMethod yX10_wall ∈ lw_tbl := tm4 (List.mem_of_getElem? (i := 158) rfl)
theorem tw4_159 : Cond.selects RX10 yX10_wall yX10_wall ∈ lw_tbl := tm4 (List.mem_of_getElem? (i := 159) rfl)
theorem tw4_160 : Cond.code yX10_wall cX10_wall 7 (some FieldType.int) ∈ lw_tbl := tm4 (List.mem_of_getElem? (i := 160) rfl)
theorem tw4_161 : Cond.constantLong RX10 81 (200) ∈ lw_tbl := tm4 (List.mem_of_getElem? (i := 161) rfl)
theorem tw4_162 : Cond.constantLong RX10 83 (40) ∈ lw_tbl := tm4 (List.mem_of_getElem? (i := 162) rfl)
theorem tw4_163 : Cond.constantLong RX10 85 (10) ∈ lw_tbl := tm4 (List.mem_of_getElem? (i := 163) rfl)
theorem tw4_164 : Cond.methodLink RL 30 yX10_hindrance ∈ lw_tbl := tm4 (List.mem_of_getElem? (i := 164) rfl)
theorem tw4_165 : Cond.instanceMethod yX10_hindrance ∈ lw_tbl := tm4 (List.mem_of_getElem? (i := 165) rfl)
theorem tw4_166 : Cond.selects RX10 yX10_hindrance yX10_hindrance ∈ lw_tbl := tm4 (List.mem_of_getElem? (i := 166) rfl)
theorem tw4_167 : Cond.code yX10_hindrance cX10_hindrance 3 (some FieldType.int) ∈ lw_tbl := tm4 (List.mem_of_getElem? (i := 167) rfl)
theorem tw4_168 : Cond.constantLong RX10 87 (3) ∈ lw_tbl := tm4 (List.mem_of_getElem? (i := 168) rfl)
theorem tw4_169 : Cond.methodLink RL 34 yX10_oath ∈ lw_tbl := tm4 (List.mem_of_getElem? (i := 169) rfl)
theorem tw4_170 : Cond.instanceMethod yX10_oath ∈ lw_tbl := tm4 (List.mem_of_getElem? (i := 170) rfl)
theorem tw4_171 : Cond.selects RX10 yX10_oath yX10_oath ∈ lw_tbl := tm4 (List.mem_of_getElem? (i := 171) rfl)
theorem tw4_172 : Cond.code yX10_oath cX10_oath 4 (some FieldType.int) ∈ lw_tbl := tm4 (List.mem_of_getElem? (i := 172) rfl)
theorem tw4_173 : Cond.methodLink RL 48 yX10_count ∈ lw_tbl := tm4 (List.mem_of_getElem? (i := 173) rfl)
theorem tw4_174 : Cond.instanceMethod yX10_count ∈ lw_tbl := tm4 (List.mem_of_getElem? (i := 174) rfl)
theorem tw4_175 : Cond.selects RX10 yX10_count yX10_count ∈ lw_tbl := tm4 (List.mem_of_getElem? (i := 175) rfl)
theorem tw4_176 : Cond.code yX10_count cX10_count 2 (some FieldType.int) ∈ lw_tbl := tm4 (List.mem_of_getElem? (i := 176) rfl)
theorem tw4_177 : Cond.constantLong RX10 89 (11) ∈ lw_tbl := tm4 (List.mem_of_getElem? (i := 177) rfl)
theorem tw4_178 : Cond.methodLink RL 39 yX10_type ∈ lw_tbl := tm4 (List.mem_of_getElem? (i := 178) rfl)
theorem tw4_179 : Cond.instanceMethod yX10_type ∈ lw_tbl := tm4 (List.mem_of_getElem? (i := 179) rfl)
theorem tw4_180 : Cond.selects RX10 yX10_type yX10_type ∈ lw_tbl := tm4 (List.mem_of_getElem? (i := 180) rfl)
theorem tw4_181 : Cond.code yX10_type cX10_type 2 (some FieldType.int) ∈ lw_tbl := tm4 (List.mem_of_getElem? (i := 181) rfl)
theorem tw4_182 : Cond.constantLong RX10 91 (32) ∈ lw_tbl := tm4 (List.mem_of_getElem? (i := 182) rfl)
theorem tw4_183 : Cond.constantLong RX10 93 (126) ∈ lw_tbl := tm4 (List.mem_of_getElem? (i := 183) rfl)
theorem tw4_184 : Cond.methodLink RL 44 yX10_bargain ∈ lw_tbl := tm4 (List.mem_of_getElem? (i := 184) rfl)
theorem tw4_185 : Cond.instanceMethod yX10_bargain ∈ lw_tbl := tm4 (List.mem_of_getElem? (i := 185) rfl)
theorem tw4_186 : Cond.selects RX10 yX10_bargain yX10_bargain ∈ lw_tbl := tm4 (List.mem_of_getElem? (i := 186) rfl)
theorem tw4_187 : Cond.code yX10_bargain cX10_bargain 6 (some FieldType.int) ∈ lw_tbl := tm4 (List.mem_of_getElem? (i := 187) rfl)
theorem tw4_188 : Cond.methodLink RX10 124 yX10_number ∈ lw_tbl := tm4 (List.mem_of_getElem? (i := 188) rfl)
theorem tw4_190 : Cond.instanceMethod yX10_number ∈ lw_tbl := tm4 (List.mem_of_getElem? (i := 190) rfl)
theorem tw4_191 : Cond.code yX10_number cX10_number 6 (some FieldType.int) ∈ lw_tbl := tm4 (List.mem_of_getElem? (i := 191) rfl)
theorem tw4_192 : Cond.methodLink RX10 105 yX10_here ∈ lw_tbl := tm4 (List.mem_of_getElem? (i := 192) rfl)
theorem tw4_194 : Cond.instanceMethod yX10_here ∈ lw_tbl := tm4 (List.mem_of_getElem? (i := 194) rfl)
theorem tw4_195 : Cond.code yX10_here cX10_here 1 (some FieldType.int) ∈ lw_tbl := tm4 (List.mem_of_getElem? (i := 195) rfl)
theorem tw4_196 : Cond.constantLong RX10 113 (48) ∈ lw_tbl := tm4 (List.mem_of_getElem? (i := 196) rfl)
theorem tw4_197 : Cond.constantLong RX10 115 (57) ∈ lw_tbl := tm4 (List.mem_of_getElem? (i := 197) rfl)
theorem tw4_198 : Cond.methodLink RX10 109 yX10_must ∈ lw_tbl := tm4 (List.mem_of_getElem? (i := 198) rfl)
theorem tw4_200 : Cond.instanceMethod yX10_must ∈ lw_tbl := tm4 (List.mem_of_getElem? (i := 200) rfl)
theorem tw4_201 : Cond.code yX10_must cX10_must 2 (none : Option FieldType) ∈ lw_tbl := tm4 (List.mem_of_getElem? (i := 201) rfl)
theorem tw4_202 : Cond.methodLink RX10 127 yX10_takes ∈ lw_tbl := tm4 (List.mem_of_getElem? (i := 202) rfl)
theorem tw4_204 : Cond.instanceMethod yX10_takes ∈ lw_tbl := tm4 (List.mem_of_getElem? (i := 204) rfl)
theorem tw4_205 : Cond.code yX10_takes cX10_takes 2 (none : Option FieldType) ∈ lw_tbl := tm4 (List.mem_of_getElem? (i := 205) rfl)
theorem tw4_206 : Cond.methodLink RX10 131 yX10_readBuilders ∈ lw_tbl := tm4 (List.mem_of_getElem? (i := 206) rfl)
theorem tw4_208 : Cond.instanceMethod yX10_readBuilders ∈ lw_tbl := tm4 (List.mem_of_getElem? (i := 208) rfl)
theorem tw4_209 : Cond.code yX10_readBuilders cX10_readBuilders 6 (some FieldType.int) ∈ lw_tbl := tm4 (List.mem_of_getElem? (i := 209) rfl)
theorem tw4_210 : Cond.methodLink RX10 117 yX10_digit ∈ lw_tbl := tm4 (List.mem_of_getElem? (i := 210) rfl)
theorem tw4_212 : Cond.instanceMethod yX10_digit ∈ lw_tbl := tm4 (List.mem_of_getElem? (i := 212) rfl)
theorem tw4_213 : Cond.code yX10_digit cX10_digit 4 (some FieldType.int) ∈ lw_tbl := tm4 (List.mem_of_getElem? (i := 213) rfl)
theorem tw4_214 : Cond.methodLink RX10 134 yX10_readHindrances ∈ lw_tbl := tm4 (List.mem_of_getElem? (i := 214) rfl)
theorem tw4_216 : Cond.instanceMethod yX10_readHindrances ∈ lw_tbl := tm4 (List.mem_of_getElem? (i := 216) rfl)
theorem tw4_217 : Cond.code yX10_readHindrances cX10_readHindrances 5 (some FieldType.int) ∈ lw_tbl := tm4 (List.mem_of_getElem? (i := 217) rfl)
theorem tw4_218 : Cond.constantLong RX10 120 (97) ∈ lw_tbl := tm4 (List.mem_of_getElem? (i := 218) rfl)
theorem tw4_219 : Cond.constantLong RX10 122 (100) ∈ lw_tbl := tm4 (List.mem_of_getElem? (i := 219) rfl)
theorem tw4_220 : Cond.methodLink RL 52 yX10_day ∈ lw_tbl := tm4 (List.mem_of_getElem? (i := 220) rfl)
theorem tw4_221 : Cond.instanceMethod yX10_day ∈ lw_tbl := tm4 (List.mem_of_getElem? (i := 221) rfl)
theorem tw4_222 : Cond.selects RX10 yX10_day yX10_day ∈ lw_tbl := tm4 (List.mem_of_getElem? (i := 222) rfl)
theorem tw4_223 : Cond.code yX10_day cX10_day 2 (some FieldType.int) ∈ lw_tbl := tm4 (List.mem_of_getElem? (i := 223) rfl)
theorem tw4_224 : Cond.methodLink RX10 140 yX10_isWeather ∈ lw_tbl := tm4 (List.mem_of_getElem? (i := 224) rfl)
theorem tw4_225 : Cond.static yX10_isWeather ∈ lw_tbl := tm4 (List.mem_of_getElem? (i := 225) rfl)
theorem tw4_226 : Cond.code yX10_isWeather cX10_isWeather 1 (some FieldType.boolean) ∈ lw_tbl := tm4 (List.mem_of_getElem? (i := 226) rfl)
theorem tw4_227 : Cond.constantLong RX10 55 (2) ∈ lw_tbl := tm4 (List.mem_of_getElem? (i := 227) rfl)
theorem tw4_228 : Cond.methodLink RX10 143 yX10_isSummer ∈ lw_tbl := tm4 (List.mem_of_getElem? (i := 228) rfl)
theorem tw4_230 : Cond.instanceMethod yX10_isSummer ∈ lw_tbl := tm4 (List.mem_of_getElem? (i := 230) rfl)
theorem tw4_231 : Cond.code yX10_isSummer cX10_isSummer 1 (some FieldType.boolean) ∈ lw_tbl := tm4 (List.mem_of_getElem? (i := 231) rfl)
theorem tw4_232 : Cond.methodLink RX10 147 yX10_notes ∈ lw_tbl := tm4 (List.mem_of_getElem? (i := 232) rfl)
theorem tw4_234 : Cond.instanceMethod yX10_notes ∈ lw_tbl := tm4 (List.mem_of_getElem? (i := 234) rfl)
theorem tw4_235 : Cond.code yX10_notes cX10_notes 2 (none : Option FieldType) ∈ lw_tbl := tm4 (List.mem_of_getElem? (i := 235) rfl)
theorem tw4_236 : Cond.methodLink RX10 150 yX10_goesBy ∈ lw_tbl := tm4 (List.mem_of_getElem? (i := 236) rfl)
theorem tw4_238 : Cond.instanceMethod yX10_goesBy ∈ lw_tbl := tm4 (List.mem_of_getElem? (i := 238) rfl)
theorem tw4_239 : Cond.code yX10_goesBy cX10_goesBy 3 (some FieldType.int) ∈ lw_tbl := tm4 (List.mem_of_getElem? (i := 239) rfl)
theorem tw5_0 : Cond.methodLink RX10 137 yX10_behind ∈ lw_tbl := tm5 (List.mem_of_getElem? (i := 0) rfl)
theorem tw5_2 : Cond.instanceMethod yX10_behind ∈ lw_tbl := tm5 (List.mem_of_getElem? (i := 2) rfl)
theorem tw5_3 : Cond.code yX10_behind cX10_behind 6 (some FieldType.int) ∈ lw_tbl := tm5 (List.mem_of_getElem? (i := 3) rfl)
theorem tw5_4 : Cond.methodLink RL 56 yX10_use ∈ lw_tbl := tm5 (List.mem_of_getElem? (i := 4) rfl)
theorem tw5_5 : Cond.instanceMethod yX10_use ∈ lw_tbl := tm5 (List.mem_of_getElem? (i := 5) rfl)
theorem tw5_6 : Cond.selects RX10 yX10_use yX10_use ∈ lw_tbl := tm5 (List.mem_of_getElem? (i := 6) rfl)
theorem tw5_7 : Cond.code yX10_use cX10_use 2 (some FieldType.int) ∈ lw_tbl := tm5 (List.mem_of_getElem? (i := 7) rfl)
theorem tw5_8 : Cond.methodLink RX10 157 yX10_isHindrance ∈ lw_tbl := tm5 (List.mem_of_getElem? (i := 8) rfl)
theorem tw5_10 : Cond.instanceMethod yX10_isHindrance ∈ lw_tbl := tm5 (List.mem_of_getElem? (i := 10) rfl)
theorem tw5_11 : Cond.code yX10_isHindrance cX10_isHindrance 2 (some FieldType.boolean) ∈ lw_tbl := tm5 (List.mem_of_getElem? (i := 11) rfl)
theorem tw5_12 : Cond.methodLink RX10 160 yX10_isUsed ∈ lw_tbl := tm5 (List.mem_of_getElem? (i := 12) rfl)
theorem tw5_14 : Cond.instanceMethod yX10_isUsed ∈ lw_tbl := tm5 (List.mem_of_getElem? (i := 14) rfl)
theorem tw5_15 : Cond.code yX10_isUsed cX10_isUsed 2 (some FieldType.boolean) ∈ lw_tbl := tm5 (List.mem_of_getElem? (i := 15) rfl)
theorem tw5_16 : Cond.methodLink RX10 163 yX10_costOf ∈ lw_tbl := tm5 (List.mem_of_getElem? (i := 16) rfl)
theorem tw5_18 : Cond.instanceMethod yX10_costOf ∈ lw_tbl := tm5 (List.mem_of_getElem? (i := 18) rfl)
theorem tw5_19 : Cond.code yX10_costOf cX10_costOf 2 (some FieldType.int) ∈ lw_tbl := tm5 (List.mem_of_getElem? (i := 19) rfl)
theorem tw5_20 : Cond.methodLink RX10 166 yX10_breaks ∈ lw_tbl := tm5 (List.mem_of_getElem? (i := 20) rfl)
theorem tw5_22 : Cond.instanceMethod yX10_breaks ∈ lw_tbl := tm5 (List.mem_of_getElem? (i := 22) rfl)
theorem tw5_23 : Cond.code yX10_breaks cX10_breaks 2 (some FieldType.boolean) ∈ lw_tbl := tm5 (List.mem_of_getElem? (i := 23) rfl)
theorem tw5_24 : Cond.methodLink RX10 154 yX10_oathOf ∈ lw_tbl := tm5 (List.mem_of_getElem? (i := 24) rfl)
theorem tw5_26 : Cond.instanceMethod yX10_oathOf ∈ lw_tbl := tm5 (List.mem_of_getElem? (i := 26) rfl)
theorem tw5_27 : Cond.code yX10_oathOf cX10_oathOf 2 (some FieldType.int) ∈ lw_tbl := tm5 (List.mem_of_getElem? (i := 27) rfl)
theorem tw5_28 : Cond.methodLink RL 60 yX10_drift ∈ lw_tbl := tm5 (List.mem_of_getElem? (i := 28) rfl)
theorem tw5_29 : Cond.instanceMethod yX10_drift ∈ lw_tbl := tm5 (List.mem_of_getElem? (i := 29) rfl)
theorem tw5_30 : Cond.selects RX10 yX10_drift yX10_drift ∈ lw_tbl := tm5 (List.mem_of_getElem? (i := 30) rfl)
theorem tw5_31 : Cond.code yX10_drift cX10_drift 5 (some FieldType.int) ∈ lw_tbl := tm5 (List.mem_of_getElem? (i := 31) rfl)
theorem tw5_32 : Cond.constantLong RX10 169 (1103515245) ∈ lw_tbl := tm5 (List.mem_of_getElem? (i := 32) rfl)
theorem tw5_33 : Cond.constantLong RX10 171 (12345) ∈ lw_tbl := tm5 (List.mem_of_getElem? (i := 33) rfl)
theorem tw5_34 : Cond.constantLong RX10 173 (2147483647) ∈ lw_tbl := tm5 (List.mem_of_getElem? (i := 34) rfl)
theorem tw5_35 : Cond.constant RX10 175 (65536) ∈ lw_tbl := tm5 (List.mem_of_getElem? (i := 35) rfl)
theorem tw5_36 : Cond.methodLink RL 64 yX10_undo ∈ lw_tbl := tm5 (List.mem_of_getElem? (i := 36) rfl)
theorem tw5_37 : Cond.instanceMethod yX10_undo ∈ lw_tbl := tm5 (List.mem_of_getElem? (i := 37) rfl)
theorem tw5_38 : Cond.selects RX10 yX10_undo yX10_undo ∈ lw_tbl := tm5 (List.mem_of_getElem? (i := 38) rfl)
theorem tw5_39 : Cond.code yX10_undo cX10_undo 2 (some FieldType.int) ∈ lw_tbl := tm5 (List.mem_of_getElem? (i := 39) rfl)
theorem tw5_40 : Cond.methodLink RL 68 yX10_seed ∈ lw_tbl := tm5 (List.mem_of_getElem? (i := 40) rfl)
theorem tw5_41 : Cond.instanceMethod yX10_seed ∈ lw_tbl := tm5 (List.mem_of_getElem? (i := 41) rfl)
theorem tw5_42 : Cond.selects RX10 yX10_seed yX10_seed ∈ lw_tbl := tm5 (List.mem_of_getElem? (i := 42) rfl)
theorem tw5_43 : Cond.code yX10_seed cX10_seed 3 (some FieldType.int) ∈ lw_tbl := tm5 (List.mem_of_getElem? (i := 43) rfl)
theorem tw5_44 : Cond.methodLink RL 72 yX10_odds ∈ lw_tbl := tm5 (List.mem_of_getElem? (i := 44) rfl)
theorem tw5_45 : Cond.instanceMethod yX10_odds ∈ lw_tbl := tm5 (List.mem_of_getElem? (i := 45) rfl)
theorem tw5_46 : Cond.selects RX10 yX10_odds yX10_odds ∈ lw_tbl := tm5 (List.mem_of_getElem? (i := 46) rfl)
theorem tw5_47 : Cond.code yX10_odds cX10_odds 1 (some FieldType.int) ∈ lw_tbl := tm5 (List.mem_of_getElem? (i := 47) rfl)
theorem tw5_48 : Cond.methodLink RX10 184 yX10_oddsBy ∈ lw_tbl := tm5 (List.mem_of_getElem? (i := 48) rfl)
theorem tw5_50 : Cond.instanceMethod yX10_oddsBy ∈ lw_tbl := tm5 (List.mem_of_getElem? (i := 50) rfl)
theorem tw5_51 : Cond.code yX10_oddsBy cX10_oddsBy 3 (some FieldType.int) ∈ lw_tbl := tm5 (List.mem_of_getElem? (i := 51) rfl)
theorem tw5_52 : Cond.methodLink RX10 180 yX10_fills ∈ lw_tbl := tm5 (List.mem_of_getElem? (i := 52) rfl)
theorem tw5_54 : Cond.instanceMethod yX10_fills ∈ lw_tbl := tm5 (List.mem_of_getElem? (i := 54) rfl)
theorem tw5_55 : Cond.code yX10_fills cX10_fills 10 (none : Option FieldType) ∈ lw_tbl := tm5 (List.mem_of_getElem? (i := 55) rfl)
theorem tw5_56 : Cond.constant RX10 176 (1000000) ∈ lw_tbl := tm5 (List.mem_of_getElem? (i := 56) rfl)
theorem tw5_57 : Cond.methodLink RX10 177 yX10_mixed ∈ lw_tbl := tm5 (List.mem_of_getElem? (i := 57) rfl)
theorem tw5_59 : Cond.instanceMethod yX10_mixed ∈ lw_tbl := tm5 (List.mem_of_getElem? (i := 59) rfl)
theorem tw5_60 : Cond.code yX10_mixed cX10_mixed 4 (some FieldType.int) ∈ lw_tbl := tm5 (List.mem_of_getElem? (i := 60) rfl)
theorem tw5_61 : Cond.methodLink RL 76 yX10_oddsAt ∈ lw_tbl := tm5 (List.mem_of_getElem? (i := 61) rfl)
theorem tw5_62 : Cond.instanceMethod yX10_oddsAt ∈ lw_tbl := tm5 (List.mem_of_getElem? (i := 62) rfl)
theorem tw5_63 : Cond.selects RX10 yX10_oddsAt yX10_oddsAt ∈ lw_tbl := tm5 (List.mem_of_getElem? (i := 63) rfl)
theorem tw5_64 : Cond.code yX10_oddsAt cX10_oddsAt 3 (some FieldType.int) ∈ lw_tbl := tm5 (List.mem_of_getElem? (i := 64) rfl)
theorem tw5_65 : Cond.methodLink RL 80 yX10_sure ∈ lw_tbl := tm5 (List.mem_of_getElem? (i := 65) rfl)
theorem tw5_66 : Cond.instanceMethod yX10_sure ∈ lw_tbl := tm5 (List.mem_of_getElem? (i := 66) rfl)
theorem tw5_67 : Cond.selects RX10 yX10_sure yX10_sure ∈ lw_tbl := tm5 (List.mem_of_getElem? (i := 67) rfl)
theorem tw5_68 : Cond.code yX10_sure cX10_sure 4 (some FieldType.int) ∈ lw_tbl := tm5 (List.mem_of_getElem? (i := 68) rfl)
theorem tw5_69 : Cond.methodLink RX10 189 yX10_isPart ∈ lw_tbl := tm5 (List.mem_of_getElem? (i := 69) rfl)
theorem tw5_70 : Cond.static yX10_isPart ∈ lw_tbl := tm5 (List.mem_of_getElem? (i := 70) rfl)
theorem tw5_71 : Cond.code yX10_isPart cX10_isPart 1 (some FieldType.boolean) ∈ lw_tbl := tm5 (List.mem_of_getElem? (i := 71) rfl)
theorem tw5_72 : Cond.constantLong RX10 187 (1000000) ∈ lw_tbl := tm5 (List.mem_of_getElem? (i := 72) rfl)
theorem tw5_73 : Cond.methodLink RL 84 yX10_pace ∈ lw_tbl := tm5 (List.mem_of_getElem? (i := 73) rfl)
theorem tw5_74 : Cond.instanceMethod yX10_pace ∈ lw_tbl := tm5 (List.mem_of_getElem? (i := 74) rfl)
theorem tw5_75 : Cond.selects RX10 yX10_pace yX10_pace ∈ lw_tbl := tm5 (List.mem_of_getElem? (i := 75) rfl)
theorem tw5_76 : Cond.code yX10_pace cX10_pace 5 (some FieldType.int) ∈ lw_tbl := tm5 (List.mem_of_getElem? (i := 76) rfl)
theorem tw5_77 : Cond.methodLink RX10 192 yX10_odds ∈ lw_tbl := tm5 (List.mem_of_getElem? (i := 77) rfl)
theorem tw5_78 : Cond.methodLink RL 88 yX10_plan ∈ lw_tbl := tm5 (List.mem_of_getElem? (i := 78) rfl)
theorem tw5_79 : Cond.instanceMethod yX10_plan ∈ lw_tbl := tm5 (List.mem_of_getElem? (i := 79) rfl)
theorem tw5_80 : Cond.selects RX10 yX10_plan yX10_plan ∈ lw_tbl := tm5 (List.mem_of_getElem? (i := 80) rfl)
theorem tw5_81 : Cond.code yX10_plan cX10_plan 9 (some FieldType.int) ∈ lw_tbl := tm5 (List.mem_of_getElem? (i := 81) rfl)
theorem tw5_82 : Cond.methodLink RX10 195 yX10_many ∈ lw_tbl := tm5 (List.mem_of_getElem? (i := 82) rfl)
theorem tw5_83 : Cond.static yX10_many ∈ lw_tbl := tm5 (List.mem_of_getElem? (i := 83) rfl)
theorem tw5_84 : Cond.code yX10_many cX10_many 3 (some FieldType.int) ∈ lw_tbl := tm5 (List.mem_of_getElem? (i := 84) rfl)
theorem tw5_85 : Cond.methodLink RL 92 yX10_best ∈ lw_tbl := tm5 (List.mem_of_getElem? (i := 85) rfl)
theorem tw5_86 : Cond.instanceMethod yX10_best ∈ lw_tbl := tm5 (List.mem_of_getElem? (i := 86) rfl)
theorem tw5_87 : Cond.selects RX10 yX10_best yX10_best ∈ lw_tbl := tm5 (List.mem_of_getElem? (i := 87) rfl)
theorem tw5_88 : Cond.code yX10_best cX10_best 8 (some FieldType.int) ∈ lw_tbl := tm5 (List.mem_of_getElem? (i := 88) rfl)
theorem tw5_89 : Cond.methodLink RL 96 yX10_soonest ∈ lw_tbl := tm5 (List.mem_of_getElem? (i := 89) rfl)
theorem tw5_90 : Cond.instanceMethod yX10_soonest ∈ lw_tbl := tm5 (List.mem_of_getElem? (i := 90) rfl)
theorem tw5_91 : Cond.selects RX10 yX10_soonest yX10_soonest ∈ lw_tbl := tm5 (List.mem_of_getElem? (i := 91) rfl)
theorem tw5_92 : Cond.code yX10_soonest cX10_soonest 4 (some FieldType.int) ∈ lw_tbl := tm5 (List.mem_of_getElem? (i := 92) rfl)
theorem tw5_93 : Cond.methodLink RL 100 yX10_mean ∈ lw_tbl := tm5 (List.mem_of_getElem? (i := 93) rfl)
theorem tw5_94 : Cond.instanceMethod yX10_mean ∈ lw_tbl := tm5 (List.mem_of_getElem? (i := 94) rfl)
theorem tw5_95 : Cond.selects RX10 yX10_mean yX10_mean ∈ lw_tbl := tm5 (List.mem_of_getElem? (i := 95) rfl)
theorem tw5_96 : Cond.code yX10_mean cX10_mean 8 (some FieldType.int) ∈ lw_tbl := tm5 (List.mem_of_getElem? (i := 96) rfl)
theorem tw5_97 : Cond.methodLink RX10 198 yX10_shares ∈ lw_tbl := tm5 (List.mem_of_getElem? (i := 97) rfl)
theorem tw5_99 : Cond.instanceMethod yX10_shares ∈ lw_tbl := tm5 (List.mem_of_getElem? (i := 99) rfl)
theorem tw5_100 : Cond.code yX10_shares cX10_shares 5 (none : Option FieldType) ∈ lw_tbl := tm5 (List.mem_of_getElem? (i := 100) rfl)
theorem tw5_101 : Cond.methodLink RL 104 yX10_image ∈ lw_tbl := tm5 (List.mem_of_getElem? (i := 101) rfl)
theorem tw5_102 : Cond.instanceMethod yX10_image ∈ lw_tbl := tm5 (List.mem_of_getElem? (i := 102) rfl)
theorem tw5_103 : Cond.selects RX10 yX10_image yX10_image ∈ lw_tbl := tm5 (List.mem_of_getElem? (i := 103) rfl)
theorem tw5_104 : Cond.code yX10_image cX10_image 2 (some FieldType.int) ∈ lw_tbl := tm5 (List.mem_of_getElem? (i := 104) rfl)
theorem tw5_105 : Cond.methodLink RL 108 yX10_restore ∈ lw_tbl := tm5 (List.mem_of_getElem? (i := 105) rfl)
theorem tw5_106 : Cond.instanceMethod yX10_restore ∈ lw_tbl := tm5 (List.mem_of_getElem? (i := 106) rfl)
theorem tw5_107 : Cond.selects RX10 yX10_restore yX10_restore ∈ lw_tbl := tm5 (List.mem_of_getElem? (i := 107) rfl)
theorem tw5_108 : Cond.code yX10_restore cX10_restore 2 (some FieldType.int) ∈ lw_tbl := tm5 (List.mem_of_getElem? (i := 108) rfl)
theorem tw5_109 : Cond.methodLink RL 113 yX10_weather ∈ lw_tbl := tm5 (List.mem_of_getElem? (i := 109) rfl)
theorem tw5_110 : Cond.instanceMethod yX10_weather ∈ lw_tbl := tm5 (List.mem_of_getElem? (i := 110) rfl)
theorem tw5_111 : Cond.selects RX10 yX10_weather yX10_weather ∈ lw_tbl := tm5 (List.mem_of_getElem? (i := 111) rfl)
theorem tw5_112 : Cond.code yX10_weather cX10_weather 15 (some FieldType.int) ∈ lw_tbl := tm5 (List.mem_of_getElem? (i := 112) rfl)
theorem tw5_113 : Cond.methodLink RX10 207 yX10_isSheet ∈ lw_tbl := tm5 (List.mem_of_getElem? (i := 113) rfl)
theorem tw5_114 : Cond.static yX10_isSheet ∈ lw_tbl := tm5 (List.mem_of_getElem? (i := 114) rfl)
theorem tw5_115 : Cond.code yX10_isSheet cX10_isSheet 1 (some FieldType.boolean) ∈ lw_tbl := tm5 (List.mem_of_getElem? (i := 115) rfl)
theorem tw5_116 : Cond.methodLink RX10 210 yX10_isLane ∈ lw_tbl := tm5 (List.mem_of_getElem? (i := 116) rfl)
theorem tw5_117 : Cond.static yX10_isLane ∈ lw_tbl := tm5 (List.mem_of_getElem? (i := 117) rfl)
theorem tw5_118 : Cond.code yX10_isLane cX10_isLane 1 (some FieldType.boolean) ∈ lw_tbl := tm5 (List.mem_of_getElem? (i := 118) rfl)
theorem tw5_119 : Cond.constantLong RX10 213 (8) ∈ lw_tbl := tm5 (List.mem_of_getElem? (i := 119) rfl)
theorem tw5_120 : Cond.constantLong RX10 215 (-1) ∈ lw_tbl := tm5 (List.mem_of_getElem? (i := 120) rfl)
theorem tw5_121 : Cond.methodLink RX10 217 yX10_why ∈ lw_tbl := tm5 (List.mem_of_getElem? (i := 121) rfl)
theorem tw5_123 : Cond.instanceMethod yX10_why ∈ lw_tbl := tm5 (List.mem_of_getElem? (i := 123) rfl)
theorem tw5_124 : Cond.code yX10_why cX10_why 5 (some FieldType.int) ∈ lw_tbl := tm5 (List.mem_of_getElem? (i := 124) rfl)
theorem tw5_125 : Cond.methodLink RL 117 yX10_film ∈ lw_tbl := tm5 (List.mem_of_getElem? (i := 125) rfl)
theorem tw5_126 : Cond.instanceMethod yX10_film ∈ lw_tbl := tm5 (List.mem_of_getElem? (i := 126) rfl)
theorem tw5_127 : Cond.selects RX10 yX10_film yX10_film ∈ lw_tbl := tm5 (List.mem_of_getElem? (i := 127) rfl)
theorem tw5_128 : Cond.code yX10_film cX10_film 9 (some FieldType.int) ∈ lw_tbl := tm5 (List.mem_of_getElem? (i := 128) rfl)
theorem tw5_129 : Cond.constantLong RX10 221 (24) ∈ lw_tbl := tm5 (List.mem_of_getElem? (i := 129) rfl)
theorem tw5_130 : Cond.methodLink RL 121 yX10_sheet ∈ lw_tbl := tm5 (List.mem_of_getElem? (i := 130) rfl)
theorem tw5_131 : Cond.instanceMethod yX10_sheet ∈ lw_tbl := tm5 (List.mem_of_getElem? (i := 131) rfl)
theorem tw5_132 : Cond.selects RX10 yX10_sheet yX10_sheet ∈ lw_tbl := tm5 (List.mem_of_getElem? (i := 132) rfl)
theorem tw5_133 : Cond.code yX10_sheet cX10_sheet 5 (some FieldType.int) ∈ lw_tbl := tm5 (List.mem_of_getElem? (i := 133) rfl)
theorem tw5_134 : Cond.methodLink RL 125 yX10_drop ∈ lw_tbl := tm5 (List.mem_of_getElem? (i := 134) rfl)
theorem tw5_135 : Cond.instanceMethod yX10_drop ∈ lw_tbl := tm5 (List.mem_of_getElem? (i := 135) rfl)
theorem tw5_136 : Cond.selects RX10 yX10_drop yX10_drop ∈ lw_tbl := tm5 (List.mem_of_getElem? (i := 136) rfl)
theorem tw5_137 : Cond.code yX10_drop cX10_drop 2 (some FieldType.int) ∈ lw_tbl := tm5 (List.mem_of_getElem? (i := 137) rfl)
theorem tw5_138 : Cond.methodLink RL 132 yX10_item ∈ lw_tbl := tm5 (List.mem_of_getElem? (i := 138) rfl)
theorem tw5_139 : Cond.instanceMethod yX10_item ∈ lw_tbl := tm5 (List.mem_of_getElem? (i := 139) rfl)
theorem tw5_140 : Cond.selects RX10 yX10_item yX10_item ∈ lw_tbl := tm5 (List.mem_of_getElem? (i := 140) rfl)
theorem tw5_141 : Cond.code yX10_item cX10_item 7 (some FieldType.int) ∈ lw_tbl := tm5 (List.mem_of_getElem? (i := 141) rfl)
theorem tw5_142 : Cond.methodLink RL 136 yX10_copy ∈ lw_tbl := tm5 (List.mem_of_getElem? (i := 142) rfl)
theorem tw5_143 : Cond.instanceMethod yX10_copy ∈ lw_tbl := tm5 (List.mem_of_getElem? (i := 143) rfl)
theorem tw5_144 : Cond.selects RX10 yX10_copy yX10_copy ∈ lw_tbl := tm5 (List.mem_of_getElem? (i := 144) rfl)
theorem tw5_145 : Cond.code yX10_copy cX10_copy 8 (some FieldType.int) ∈ lw_tbl := tm5 (List.mem_of_getElem? (i := 145) rfl)
theorem tw5_146 : Cond.constantLong RL 126 (4294967295) ∈ lw_tbl := tm5 (List.mem_of_getElem? (i := 146) rfl)
theorem tw5_147 : Cond.sameMethod RX3 "SummerWall$Horsed" "hauls" "(II)I" ∈ lw_tbl := tm5 (List.mem_of_getElem? (i := 147) rfl)
theorem tw5_148 : Cond.castable RX3 "SummerWall$Plain" ∈ lw_tbl := tm5 (List.mem_of_getElem? (i := 148) rfl)
theorem tw5_149 : Cond.castable RX0 "SummerWall$Plain" ∈ lw_tbl := tm5 (List.mem_of_getElem? (i := 149) rfl)
theorem tw5_150 : Cond.castable RX2 "SummerWall$Plain" ∈ lw_tbl := tm5 (List.mem_of_getElem? (i := 150) rfl)
theorem tw5_151 : Cond.castable RX4 "SummerWall$Plain" ∈ lw_tbl := tm5 (List.mem_of_getElem? (i := 151) rfl)
theorem tp_yX9_changeStones : Cond.selects RX9 yX9_changeStones yX9_changeStones ∈ lw_tbl := List.mem_append_left _ (List.mem_of_getElem? (i := 0) rfl)
theorem tp_yX9_changeDays : Cond.selects RX9 yX9_changeDays yX9_changeDays ∈ lw_tbl := List.mem_append_left _ (List.mem_of_getElem? (i := 1) rfl)
theorem tp_yX9_changeFrost : Cond.selects RX9 yX9_changeFrost yX9_changeFrost ∈ lw_tbl := List.mem_append_left _ (List.mem_of_getElem? (i := 2) rfl)
theorem tp_yX9_changeThaw : Cond.selects RX9 yX9_changeThaw yX9_changeThaw ∈ lw_tbl := List.mem_append_left _ (List.mem_of_getElem? (i := 3) rfl)
theorem tp_yX8_readNumber : Cond.selects RX8 yX8_readNumber yX8_readNumber ∈ lw_tbl := List.mem_append_left _ (List.mem_of_getElem? (i := 4) rfl)
theorem tp_yX8_next : Cond.selects RX8 yX8_next yX8_next ∈ lw_tbl := List.mem_append_left _ (List.mem_of_getElem? (i := 5) rfl)
theorem tp_yX8_failAt : Cond.selects RX8 yX8_failAt yX8_failAt ∈ lw_tbl := List.mem_append_left _ (List.mem_of_getElem? (i := 6) rfl)
theorem tp_yX8_readSign : Cond.selects RX8 yX8_readSign yX8_readSign ∈ lw_tbl := List.mem_append_left _ (List.mem_of_getElem? (i := 7) rfl)
theorem tp_yX8_readBuilders : Cond.selects RX8 yX8_readBuilders yX8_readBuilders ∈ lw_tbl := List.mem_append_left _ (List.mem_of_getElem? (i := 8) rfl)
theorem tp_yX8_readBuilder : Cond.selects RX8 yX8_readBuilder yX8_readBuilder ∈ lw_tbl := List.mem_append_left _ (List.mem_of_getElem? (i := 9) rfl)
theorem tp_yX8_readDigit : Cond.selects RX8 yX8_readDigit yX8_readDigit ∈ lw_tbl := List.mem_append_left _ (List.mem_of_getElem? (i := 10) rfl)
theorem tp_yX8_readHindrances : Cond.selects RX8 yX8_readHindrances yX8_readHindrances ∈ lw_tbl := List.mem_append_left _ (List.mem_of_getElem? (i := 11) rfl)
theorem tp_yX8_readHindrance : Cond.selects RX8 yX8_readHindrance yX8_readHindrance ∈ lw_tbl := List.mem_append_left _ (List.mem_of_getElem? (i := 12) rfl)
theorem tp_yX1_look : Cond.selects RX1 yX1_look yX1_look ∈ lw_tbl := List.mem_append_left _ (List.mem_of_getElem? (i := 13) rfl)
theorem tp_yX1_reckonLays : Cond.selects RX1 yX1_reckonLays yX1_reckonLays ∈ lw_tbl := List.mem_append_left _ (List.mem_of_getElem? (i := 14) rfl)
theorem tp_yX1_fillBehind : Cond.selects RX1 yX1_fillBehind yX1_fillBehind ∈ lw_tbl := List.mem_append_left _ (List.mem_of_getElem? (i := 15) rfl)
theorem tp_yX1_laidBehind : Cond.selects RX1 yX1_laidBehind yX1_laidBehind ∈ lw_tbl := List.mem_append_left _ (List.mem_of_getElem? (i := 16) rfl)
theorem tp_yX1_goBackToTomorrow : Cond.selects RX1 yX1_goBackToTomorrow yX1_goBackToTomorrow ∈ lw_tbl := List.mem_append_left _ (List.mem_of_getElem? (i := 17) rfl)
theorem tp_yX1_startAtSummer : Cond.selects RX1 yX1_startAtSummer yX1_startAtSummer ∈ lw_tbl := List.mem_append_left _ (List.mem_of_getElem? (i := 18) rfl)
theorem tp_yX1_stepBack : Cond.selects RX1 yX1_stepBack yX1_stepBack ∈ lw_tbl := List.mem_append_left _ (List.mem_of_getElem? (i := 19) rfl)
theorem tp_yX1_oddsToday : Cond.selects RX1 yX1_oddsToday yX1_oddsToday ∈ lw_tbl := List.mem_append_left _ (List.mem_of_getElem? (i := 20) rfl)
theorem tp_yX1_oddsIfHindered : Cond.selects RX1 yX1_oddsIfHindered yX1_oddsIfHindered ∈ lw_tbl := List.mem_append_left _ (List.mem_of_getElem? (i := 21) rfl)
theorem tp_yX1_spread : Cond.selects RX1 yX1_spread yX1_spread ∈ lw_tbl := List.mem_append_left _ (List.mem_of_getElem? (i := 22) rfl)
theorem tp_yX9_weatherOf : Cond.selects RX9 yX9_weatherOf yX9_weatherOf ∈ lw_tbl := List.mem_append_left _ (List.mem_of_getElem? (i := 23) rfl)
theorem tp_yX9_fittingWeathers : Cond.selects RX9 yX9_fittingWeathers yX9_fittingWeathers ∈ lw_tbl := List.mem_append_left _ (List.mem_of_getElem? (i := 24) rfl)
theorem tp_yX6_cut : Cond.selects RX6 yX6_cut yX6_cut ∈ lw_tbl := List.mem_append_left _ (List.mem_of_getElem? (i := 25) rfl)
theorem tp_yX10_isBuilder : Cond.selects RX10 yX10_isBuilder yX10_isBuilder ∈ lw_tbl := List.mem_append_left _ (List.mem_of_getElem? (i := 26) rfl)
theorem tp_yX10_haulsOf : Cond.selects RX10 yX10_haulsOf yX10_haulsOf ∈ lw_tbl := List.mem_append_left _ (List.mem_of_getElem? (i := 27) rfl)
theorem tp_yX10_laysOf : Cond.selects RX10 yX10_laysOf yX10_laysOf ∈ lw_tbl := List.mem_append_left _ (List.mem_of_getElem? (i := 28) rfl)
theorem tp_yX10_number : Cond.selects RX10 yX10_number yX10_number ∈ lw_tbl := List.mem_append_left _ (List.mem_of_getElem? (i := 29) rfl)
theorem tp_yX10_here : Cond.selects RX10 yX10_here yX10_here ∈ lw_tbl := List.mem_append_left _ (List.mem_of_getElem? (i := 30) rfl)
theorem tp_yX10_must : Cond.selects RX10 yX10_must yX10_must ∈ lw_tbl := List.mem_append_left _ (List.mem_of_getElem? (i := 31) rfl)
theorem tp_yX10_takes : Cond.selects RX10 yX10_takes yX10_takes ∈ lw_tbl := List.mem_append_left _ (List.mem_of_getElem? (i := 32) rfl)
theorem tp_yX10_readBuilders : Cond.selects RX10 yX10_readBuilders yX10_readBuilders ∈ lw_tbl := List.mem_append_left _ (List.mem_of_getElem? (i := 33) rfl)
theorem tp_yX10_digit : Cond.selects RX10 yX10_digit yX10_digit ∈ lw_tbl := List.mem_append_left _ (List.mem_of_getElem? (i := 34) rfl)
theorem tp_yX10_readHindrances : Cond.selects RX10 yX10_readHindrances yX10_readHindrances ∈ lw_tbl := List.mem_append_left _ (List.mem_of_getElem? (i := 35) rfl)
theorem tp_yX10_isSummer : Cond.selects RX10 yX10_isSummer yX10_isSummer ∈ lw_tbl := List.mem_append_left _ (List.mem_of_getElem? (i := 36) rfl)
theorem tp_yX10_notes : Cond.selects RX10 yX10_notes yX10_notes ∈ lw_tbl := List.mem_append_left _ (List.mem_of_getElem? (i := 37) rfl)
theorem tp_yX10_goesBy : Cond.selects RX10 yX10_goesBy yX10_goesBy ∈ lw_tbl := List.mem_append_left _ (List.mem_of_getElem? (i := 38) rfl)
theorem tp_yX10_behind : Cond.selects RX10 yX10_behind yX10_behind ∈ lw_tbl := List.mem_append_left _ (List.mem_of_getElem? (i := 39) rfl)
theorem tp_yX10_isHindrance : Cond.selects RX10 yX10_isHindrance yX10_isHindrance ∈ lw_tbl := List.mem_append_left _ (List.mem_of_getElem? (i := 40) rfl)
theorem tp_yX10_isUsed : Cond.selects RX10 yX10_isUsed yX10_isUsed ∈ lw_tbl := List.mem_append_left _ (List.mem_of_getElem? (i := 41) rfl)
theorem tp_yX10_costOf : Cond.selects RX10 yX10_costOf yX10_costOf ∈ lw_tbl := List.mem_append_left _ (List.mem_of_getElem? (i := 42) rfl)
theorem tp_yX10_breaks : Cond.selects RX10 yX10_breaks yX10_breaks ∈ lw_tbl := List.mem_append_left _ (List.mem_of_getElem? (i := 43) rfl)
theorem tp_yX10_oathOf : Cond.selects RX10 yX10_oathOf yX10_oathOf ∈ lw_tbl := List.mem_append_left _ (List.mem_of_getElem? (i := 44) rfl)
theorem tp_yX10_oddsBy : Cond.selects RX10 yX10_oddsBy yX10_oddsBy ∈ lw_tbl := List.mem_append_left _ (List.mem_of_getElem? (i := 45) rfl)
theorem tp_yX10_fills : Cond.selects RX10 yX10_fills yX10_fills ∈ lw_tbl := List.mem_append_left _ (List.mem_of_getElem? (i := 46) rfl)
theorem tp_yX10_mixed : Cond.selects RX10 yX10_mixed yX10_mixed ∈ lw_tbl := List.mem_append_left _ (List.mem_of_getElem? (i := 47) rfl)
theorem tp_yX10_shares : Cond.selects RX10 yX10_shares yX10_shares ∈ lw_tbl := List.mem_append_left _ (List.mem_of_getElem? (i := 48) rfl)
theorem tp_yX10_why : Cond.selects RX10 yX10_why yX10_why ∈ lw_tbl := List.mem_append_left _ (List.mem_of_getElem? (i := 49) rfl)
end
section
/-! ===== the engine: one judgement G over a world of cells, a row an instruction ===== -/
/-- the words that stay through calls -/
def gw : List Cond := lw_tbl.filter goodWord
theorem gw_of {w : Cond} (h : w ∈ lw_tbl) (g : goodWord w = true) : w ∈ gw := List.mem_filter.mpr ⟨h, g⟩
theorem gw_good : ∀ w ∈ gw, (w.onTables && w.keeps) = true ∨ ∃ ty, w = .arrayClass ty := fun _ h => good_of_word (List.mem_filter.mp h).2
/-- what no word of gw says: casts and a declared method, which stay too -/
def Ex (U : State) : Prop := va_Nw (.castable RX3 RX5) U ∧ va_Nw (.castable RX0 RX5) U ∧ va_Nw (.castable RX2 RX5) U ∧ va_Nw (.castable RX4 RX5) U ∧ va_Nw (.declares ⟨"SummerWall$Plain", "laysInThaw", "(I)I"⟩) U
theorem Ex.warm {s U : State} (hW : s.WarmedH U.vm) (h : Ex s) : Ex U := ⟨va_Nw.warmC hW h.1, va_Nw.warmC hW h.2.1, va_Nw.warmC hW h.2.2.1, va_Nw.warmC hW h.2.2.2.1, va_Nw.warmD hW h.2.2.2.2⟩
theorem Ex.same {s U : State} (hv : s.vm = U.vm) (h : Ex s) : Ex U := ⟨va_Nw.same rfl hv h.1, va_Nw.same rfl hv h.2.1, va_Nw.same rfl hv h.2.2.1, va_Nw.same rfl hv h.2.2.2.1, va_Nw.same rfl hv h.2.2.2.2⟩
def tyK (ka : Nat → ClassId) : List (ClassId × FieldType) := [(ka 0, .int), (ka 1, .long), (ka 2, .char), (ka 3, .object "SummerWall$Plain"), (ka 4, .object "SummerWall$Sheet")]
abbrev XT : Type := Program × Launch × Env × Room × State × MethodId × Array Value × List Frame × Method × Code × va_G × (Nat → Prop) × (State → Prop)
abbrev xP (X : XT) : Program := X.1
abbrev xL (X : XT) : Launch := X.2.1
abbrev xE (X : XT) : Env := X.2.2.1
abbrev xR (X : XT) : Room := X.2.2.2.1
abbrev xS (X : XT) : State := X.2.2.2.2.1
abbrev xM (X : XT) : MethodId := X.2.2.2.2.2.1
abbrev xA (X : XT) : Array Value := X.2.2.2.2.2.2.1
abbrev xB (X : XT) : List Frame := X.2.2.2.2.2.2.2.1
abbrev xMe (X : XT) : Method := X.2.2.2.2.2.2.2.2.1
abbrev xC (X : XT) : Code := X.2.2.2.2.2.2.2.2.2.1
abbrev xD (X : XT) : va_G := X.2.2.2.2.2.2.2.2.2.2.1
abbrev xF (X : XT) : Nat → Prop := X.2.2.2.2.2.2.2.2.2.2.2.1
abbrev xQ (X : XT) : State → Prop := X.2.2.2.2.2.2.2.2.2.2.2.2
def Cx (X : XT) (cc : ByteArray) (nL : Nat) (own : String) (rt : Option FieldType) (ka : Nat → ClassId) (lvl : Nat) : Prop :=
  (xP X).tables.exec = Jvm.exec ∧ (xC X).code = cc ∧ (xC X).maxLocals = nL ∧ (xS X).vm.findClass own = some (xM X).cls ∧ (∀ w ∈ gw, w.before (xA X) (xS X) = true) ∧
  va_K (xD X) vwCl (tyK ka) (xS X) ∧ (∀ q : Nat, (xS X).heap.size ≤ q → xF X q) ∧ (xMe X).sig.returnType = rt ∧ (xMe X).locks = false ∧ lvl ≤ (xR X).frames ∧ 40 * lvl ≤ (xR X).locals ∧ Ex (xS X)
def G (X : XT) (cells slots : Nat) (ws : va_W) (pc : Nat) (lv : List (Nat × Value)) (st : List Value) : Prop :=
  ∀ (H : Heap) (locs : List Loc) (ls : Array Slot), va_P (xD X) vwCl ws H → va_D (xF X) ws → va_S (xF X) (xS X).heap H locs → lv_has ls (xC X).maxLocals lv →
    W (xP X) (xL X) (xE X) (xR X) (xS X) (xM X) (xA X) (xB X) (xMe X) (xC X) H locs cells slots (xQ X) (F0 (xM X) pc ls st)
section EK
variable {X : XT} {cc : ByteArray} {nL : Nat} {own : String} {rt : Option FieldType} {ka : Nat → ClassId} {lvl cells slots : Nat} {ws : va_W} {pc : Nat} {lv : List (Nat × Value)} {st : List Value}
theorem Cx.ex (C : Cx X cc nL own rt ka lvl) : (xP X).tables.exec = Jvm.exec := C.1
theorem Cx.co (C : Cx X cc nL own rt ka lvl) : (xC X).code = cc := C.2.1
theorem Cx.ml (C : Cx X cc nL own rt ka lvl) : (xC X).maxLocals = nL := C.2.2.1
theorem Cx.ow (C : Cx X cc nL own rt ka lvl) : (xS X).vm.findClass own = some (xM X).cls := C.2.2.2.1
theorem Cx.ts (C : Cx X cc nL own rt ka lvl) : ∀ w ∈ gw, w.before (xA X) (xS X) = true := C.2.2.2.2.1
theorem Cx.ks (C : Cx X cc nL own rt ka lvl) : va_K (xD X) vwCl (tyK ka) (xS X) := C.2.2.2.2.2.1
theorem Cx.fr (C : Cx X cc nL own rt ka lvl) : ∀ q : Nat, (xS X).heap.size ≤ q → xF X q := C.2.2.2.2.2.2.1
theorem Cx.rty (C : Cx X cc nL own rt ka lvl) : (xMe X).sig.returnType = rt := C.2.2.2.2.2.2.2.1
theorem Cx.lk (C : Cx X cc nL own rt ka lvl) : (xMe X).locks = false := C.2.2.2.2.2.2.2.2.1
theorem Cx.rf (C : Cx X cc nL own rt ka lvl) : lvl ≤ (xR X).frames := C.2.2.2.2.2.2.2.2.2.1
theorem Cx.rl (C : Cx X cc nL own rt ka lvl) : 40 * lvl ≤ (xR X).locals := C.2.2.2.2.2.2.2.2.2.2.1
theorem Cx.ext (C : Cx X cc nL own rt ka lvl) : Ex (xS X) := C.2.2.2.2.2.2.2.2.2.2.2
-- constants, locals, stack
theorem g_iconst (C : Cx X cc nL own rt ka lvl) {n : Int} (v : Int32) (d : decode cc pc = .ok (.iconst n, 1)) (hv : Int32.ofInt n = v) (k : G X cells slots ws (pc + 1) lv (.int v :: st)) : G X cells slots ws pc lv st := fun H locs ls a b s h => lv_iconst C.ex C.co d hv (k H locs ls a b s h)
theorem g_bipush (C : Cx X cc nL own rt ka lvl) {n : Int} (v : Int32) (d : decode cc pc = .ok (.bipush n, 2)) (hv : (Int8.ofInt n).toInt32 = v) (k : G X cells slots ws (pc + 2) lv (.int v :: st)) : G X cells slots ws pc lv st := fun H locs ls a b s h => lv_bipush C.ex C.co d hv (k H locs ls a b s h)
theorem g_sipush (C : Cx X cc nL own rt ka lvl) {n : Int} (v : Int32) (d : decode cc pc = .ok (.sipush n, 3)) (hv : (Int16.ofInt n).toInt32 = v) (k : G X cells slots ws (pc + 3) lv (.int v :: st)) : G X cells slots ws pc lv st := fun H locs ls a b s h => lv_sipush C.ex C.co d hv (k H locs ls a b s h)
theorem g_lconst (C : Cx X cc nL own rt ka lvl) {n : Fin 2} (v : Int64) (d : decode cc pc = .ok (.lconst n, 1)) (hv : Int64.ofNat (n : Nat) = v) (k : G X cells slots ws (pc + 1) lv (.long v :: st)) : G X cells slots ws pc lv st := fun H locs ls a b s h => lv_lconst C.ex C.co d hv (k H locs ls a b s h)
theorem g_ldc (C : Cx X cc nL own rt ka lvl) {index : Nat} {v : Int32} (hc : Cond.constant own index v ∈ gw) (d : decode cc pc = .ok (.ldc index, 2)) (k : G X cells slots ws (pc + 2) lv (.int v :: st)) : G X cells slots ws pc lv st := fun H locs ls a b s h => lv_ldc C.ex C.co C.ow (C.ts _ hc) d (k H locs ls a b s h)
theorem g_ldcw (C : Cx X cc nL own rt ka lvl) {index : Nat} {v : Int32} (hc : Cond.constant own index v ∈ gw) (d : decode cc pc = .ok (.ldc_w index, 3)) (k : G X cells slots ws (pc + 3) lv (.int v :: st)) : G X cells slots ws pc lv st := fun H locs ls a b s h => lv_ldcw C.ex C.co C.ow (C.ts _ hc) d (k H locs ls a b s h)
theorem g_ldc2 (C : Cx X cc nL own rt ka lvl) {index : Nat} {v : Int64} (hc : Cond.constantLong own index v ∈ gw) (d : decode cc pc = .ok (.ldc2_w index, 3)) (k : G X cells slots ws (pc + 3) lv (.long v :: st)) : G X cells slots ws pc lv st := fun H locs ls a b s h => lv_ldc2 C.ex C.co C.ow (C.ts _ hc) d (k H locs ls a b s h)
theorem g_iload_n (C : Cx X cc nL own rt ka lvl) {k : Fin 4} (q : Nat) {x : Int32} (d : decode cc pc = .ok (.iload_n k, 1)) (hl : lv[q]? = some ((k : Nat), .int x)) (kk : G X cells slots ws (pc + 1) lv (.int x :: st)) : G X cells slots ws pc lv st := fun H locs ls a b s h => lv_iload_n C.ex C.co d rfl (lv_at h q hl) (kk H locs ls a b s h)
theorem g_iload (C : Cx X cc nL own rt ka lvl) {i : Nat} (q : Nat) {x : Int32} (d : decode cc pc = .ok (.iload i, 2)) (hl : lv[q]? = some (i, .int x)) (kk : G X cells slots ws (pc + 2) lv (.int x :: st)) : G X cells slots ws pc lv st := fun H locs ls a b s h => lv_iload C.ex C.co d (lv_at h q hl) (kk H locs ls a b s h)
theorem g_lload_n (C : Cx X cc nL own rt ka lvl) {k : Fin 4} (q : Nat) {x : Int64} (d : decode cc pc = .ok (.lload_n k, 1)) (hl : lv[q]? = some ((k : Nat), .long x)) (kk : G X cells slots ws (pc + 1) lv (.long x :: st)) : G X cells slots ws pc lv st := fun H locs ls a b s h => lv_lload_n C.ex C.co d rfl (lv_at h q hl) (kk H locs ls a b s h)
theorem g_lload (C : Cx X cc nL own rt ka lvl) {i : Nat} (q : Nat) {x : Int64} (d : decode cc pc = .ok (.lload i, 2)) (hl : lv[q]? = some (i, .long x)) (kk : G X cells slots ws (pc + 2) lv (.long x :: st)) : G X cells slots ws pc lv st := fun H locs ls a b s h => lv_lload C.ex C.co d (lv_at h q hl) (kk H locs ls a b s h)
theorem g_aload_n (C : Cx X cc nL own rt ka lvl) {k : Fin 4} (q : Nat) {x : Nat} (d : decode cc pc = .ok (.aload_n k, 1)) (hl : lv[q]? = some ((k : Nat), .ref x)) (kk : G X cells slots ws (pc + 1) lv (.ref x :: st)) : G X cells slots ws pc lv st := fun H locs ls a b s h => lv_aload_n C.ex C.co d rfl (lv_at h q hl) (kk H locs ls a b s h)
theorem g_aload (C : Cx X cc nL own rt ka lvl) {i : Nat} (q : Nat) {x : Nat} (d : decode cc pc = .ok (.aload i, 2)) (hl : lv[q]? = some (i, .ref x)) (kk : G X cells slots ws (pc + 2) lv (.ref x :: st)) : G X cells slots ws pc lv st := fun H locs ls a b s h => lv_aload C.ex C.co d (lv_at h q hl) (kk H locs ls a b s h)
theorem g_istore_n (C : Cx X cc nL own rt ka lvl) {k : Fin 4} {x : Int32} (lv' : List (Nat × Value)) (d : decode cc pc = .ok (.istore_n k, 1)) (hn : (k : Nat) < nL) (hl : ((k : Nat), Value.int x) :: lv.filter (fun q => !(q.1 == (k : Nat)) && !(q.1 + 1 == (k : Nat) && q.2.category == 2)) = lv') (kk : G X cells slots ws (pc + 1) lv' st) : G X cells slots ws pc lv (.int x :: st) := fun H locs _ a b s h => lv_istore_n C.ex C.co d rfl h (by rw [C.ml]; exact hn) hl (fun ls' h' => kk H locs ls' a b s h')
theorem g_istore (C : Cx X cc nL own rt ka lvl) {i : Nat} {x : Int32} (lv' : List (Nat × Value)) (d : decode cc pc = .ok (.istore i, 2)) (hn : i < nL) (hl : (i, Value.int x) :: lv.filter (fun q => !(q.1 == i) && !(q.1 + 1 == i && q.2.category == 2)) = lv') (kk : G X cells slots ws (pc + 2) lv' st) : G X cells slots ws pc lv (.int x :: st) := fun H locs _ a b s h => lv_istore C.ex C.co d h (by rw [C.ml]; exact hn) hl (fun ls' h' => kk H locs ls' a b s h')
theorem g_lstore (C : Cx X cc nL own rt ka lvl) {i : Nat} {x : Int64} (lv' : List (Nat × Value)) (d : decode cc pc = .ok (.lstore i, 2)) (hn : i + 1 < nL) (hl : (i, Value.long x) :: lv.filter (fun q => !(q.1 == i) && (!(q.1 == i + 1) && !(q.1 + 1 == i && q.2.category == 2))) = lv') (kk : G X cells slots ws (pc + 2) lv' st) : G X cells slots ws pc lv (.long x :: st) := fun H locs _ a b s h => lv_lstore C.ex C.co d h (by rw [C.ml]; exact hn) hl (fun ls' h' => kk H locs ls' a b s h')
theorem g_astore_n (C : Cx X cc nL own rt ka lvl) {k : Fin 4} {x : Nat} (lv' : List (Nat × Value)) (d : decode cc pc = .ok (.astore_n k, 1)) (hn : (k : Nat) < nL) (hl : ((k : Nat), Value.ref x) :: lv.filter (fun q => !(q.1 == (k : Nat)) && !(q.1 + 1 == (k : Nat) && q.2.category == 2)) = lv') (kk : G X cells slots ws (pc + 1) lv' st) : G X cells slots ws pc lv (.ref x :: st) := fun H locs _ a b s h => lv_astore_n C.ex C.co d rfl h (by rw [C.ml]; exact hn) hl (fun ls' h' => kk H locs ls' a b s h')
theorem g_astore (C : Cx X cc nL own rt ka lvl) {i : Nat} {x : Nat} (lv' : List (Nat × Value)) (d : decode cc pc = .ok (.astore i, 2)) (hn : i < nL) (hl : (i, Value.ref x) :: lv.filter (fun q => !(q.1 == i) && !(q.1 + 1 == i && q.2.category == 2)) = lv') (kk : G X cells slots ws (pc + 2) lv' st) : G X cells slots ws pc lv (.ref x :: st) := fun H locs _ a b s h => lv_astore C.ex C.co d h (by rw [C.ml]; exact hn) hl (fun ls' h' => kk H locs ls' a b s h')
theorem g_iinc (C : Cx X cc nL own rt ka lvl) {i : Nat} (q : Nat) {n : Int} {x : Int32} (v : Int32) (lv' : List (Nat × Value)) (d : decode cc pc = .ok (.iinc i n, 3)) (hk : lv[q]? = some (i, .int x)) (hv : x + Int32.ofInt n = v) (hn : i < nL) (hl : (i, Value.int v) :: lv.filter (fun q => !(q.1 == i) && !(q.1 + 1 == i && q.2.category == 2)) = lv') (kk : G X cells slots ws (pc + 3) lv' st) : G X cells slots ws pc lv st := fun H locs _ a b s h => lv_iinc C.ex C.co d h hk hv (by rw [C.ml]; exact hn) hl (fun ls' h' => kk H locs ls' a b s h')
/-- fewer locals, in another order -/
theorem g_lv {lv' : List (Nat × Value)} (ks : List Nat) (hl : lv_pick lv ks = lv') (k : G X cells slots ws pc lv' st) : G X cells slots ws pc lv st := fun H locs ls a b s h => k H locs ls a b s (lv_sub h ks hl)
-- arithmetic
theorem g_iadd (C : Cx X cc nL own rt ka lvl) {x y : Int32} (d : decode cc pc = .ok (.iadd, 1)) (k : G X cells slots ws (pc + 1) lv (.int (x + y) :: st)) : G X cells slots ws pc lv (.int y :: .int x :: st) := fun H locs ls a b s h => lv_iadd C.ex C.co d (k H locs ls a b s h)
theorem g_isub (C : Cx X cc nL own rt ka lvl) {x y : Int32} (d : decode cc pc = .ok (.isub, 1)) (k : G X cells slots ws (pc + 1) lv (.int (x - y) :: st)) : G X cells slots ws pc lv (.int y :: .int x :: st) := fun H locs ls a b s h => lv_isub C.ex C.co d (k H locs ls a b s h)
theorem g_imul (C : Cx X cc nL own rt ka lvl) {x y : Int32} (d : decode cc pc = .ok (.imul, 1)) (k : G X cells slots ws (pc + 1) lv (.int (x * y) :: st)) : G X cells slots ws pc lv (.int y :: .int x :: st) := fun H locs ls a b s h => lv_imul C.ex C.co d (k H locs ls a b s h)
theorem g_iand (C : Cx X cc nL own rt ka lvl) {x y : Int32} (d : decode cc pc = .ok (.iand, 1)) (k : G X cells slots ws (pc + 1) lv (.int (x &&& y) :: st)) : G X cells slots ws pc lv (.int y :: .int x :: st) := fun H locs ls a b s h => lv_iand C.ex C.co d (k H locs ls a b s h)
theorem g_ior (C : Cx X cc nL own rt ka lvl) {x y : Int32} (d : decode cc pc = .ok (.ior, 1)) (k : G X cells slots ws (pc + 1) lv (.int (x ||| y) :: st)) : G X cells slots ws pc lv (.int y :: .int x :: st) := fun H locs ls a b s h => lv_ior C.ex C.co d (k H locs ls a b s h)
theorem g_ixor (C : Cx X cc nL own rt ka lvl) {x y : Int32} (d : decode cc pc = .ok (.ixor, 1)) (k : G X cells slots ws (pc + 1) lv (.int (x ^^^ y) :: st)) : G X cells slots ws pc lv (.int y :: .int x :: st) := fun H locs ls a b s h => lv_ixor C.ex C.co d (k H locs ls a b s h)
theorem g_idiv (C : Cx X cc nL own rt ka lvl) {x y : Int32} (d : decode cc pc = .ok (.idiv, 1)) (hne : ¬ y = 0) (k : G X cells slots ws (pc + 1) lv (.int (x / y) :: st)) : G X cells slots ws pc lv (.int y :: .int x :: st) := fun H locs ls a b s h => lv_idiv C.ex C.co d hne (k H locs ls a b s h)
theorem g_irem (C : Cx X cc nL own rt ka lvl) {x y : Int32} (d : decode cc pc = .ok (.irem, 1)) (hne : ¬ y = 0) (k : G X cells slots ws (pc + 1) lv (.int (x - x / y * y) :: st)) : G X cells slots ws pc lv (.int y :: .int x :: st) := fun H locs ls a b s h => lv_irem C.ex C.co d hne (k H locs ls a b s h)
theorem g_ishl (C : Cx X cc nL own rt ka lvl) {x y : Int32} (d : decode cc pc = .ok (.ishl, 1)) (k : G X cells slots ws (pc + 1) lv (.int (x <<< (y &&& 31)) :: st)) : G X cells slots ws pc lv (.int y :: .int x :: st) := fun H locs ls a b s h => lv_ishl C.ex C.co d (k H locs ls a b s h)
theorem g_ishr (C : Cx X cc nL own rt ka lvl) {x y : Int32} (d : decode cc pc = .ok (.ishr, 1)) (k : G X cells slots ws (pc + 1) lv (.int (x >>> (y &&& 31)) :: st)) : G X cells slots ws pc lv (.int y :: .int x :: st) := fun H locs ls a b s h => lv_ishr C.ex C.co d (k H locs ls a b s h)
theorem g_iushr (C : Cx X cc nL own rt ka lvl) {x y : Int32} (d : decode cc pc = .ok (.iushr, 1)) (k : G X cells slots ws (pc + 1) lv (.int ((x.toUInt32 >>> (y.toUInt32 &&& Int32.toUInt32 31)).toInt32) :: st)) : G X cells slots ws pc lv (.int y :: .int x :: st) := fun H locs ls a b s h => lv_iushr C.ex C.co d rfl (k H locs ls a b s h)
theorem g_ladd (C : Cx X cc nL own rt ka lvl) {x y : Int64} (d : decode cc pc = .ok (.ladd, 1)) (k : G X cells slots ws (pc + 1) lv (.long (x + y) :: st)) : G X cells slots ws pc lv (.long y :: .long x :: st) := fun H locs ls a b s h => lv_ladd C.ex C.co d (k H locs ls a b s h)
theorem g_lmul (C : Cx X cc nL own rt ka lvl) {x y : Int64} (d : decode cc pc = .ok (.lmul, 1)) (k : G X cells slots ws (pc + 1) lv (.long (x * y) :: st)) : G X cells slots ws pc lv (.long y :: .long x :: st) := fun H locs ls a b s h => lv_lmul C.ex C.co d (k H locs ls a b s h)
theorem g_land (C : Cx X cc nL own rt ka lvl) {x y : Int64} (d : decode cc pc = .ok (.land, 1)) (k : G X cells slots ws (pc + 1) lv (.long (x &&& y) :: st)) : G X cells slots ws pc lv (.long y :: .long x :: st) := fun H locs ls a b s h => lv_land C.ex C.co d (k H locs ls a b s h)
theorem g_lcmp (C : Cx X cc nL own rt ka lvl) {x y : Int64} (d : decode cc pc = .ok (.lcmp, 1)) (k : G X cells slots ws (pc + 1) lv (.int (lg_cmp x y) :: st)) : G X cells slots ws pc lv (.long y :: .long x :: st) := fun H locs ls a b s h => W.lcmp C.ex C.co d (k H locs ls a b s h)
theorem g_i2l (C : Cx X cc nL own rt ka lvl) {x : Int32} (d : decode cc pc = .ok (.i2l, 1)) (k : G X cells slots ws (pc + 1) lv (.long x.toInt64 :: st)) : G X cells slots ws pc lv (.int x :: st) := fun H locs ls a b s h => lv_i2l C.ex C.co d rfl (k H locs ls a b s h)
theorem g_l2i (C : Cx X cc nL own rt ka lvl) {x : Int64} (d : decode cc pc = .ok (.l2i, 1)) (k : G X cells slots ws (pc + 1) lv (.int x.toInt32 :: st)) : G X cells slots ws pc lv (.long x :: st) := fun H locs ls a b s h => lv_l2i C.ex C.co d rfl (k H locs ls a b s h)
theorem g_i2b (C : Cx X cc nL own rt ka lvl) {x : Int32} (d : decode cc pc = .ok (.i2b, 1)) (k : G X cells slots ws (pc + 1) lv (.int x.toInt8.toInt32 :: st)) : G X cells slots ws pc lv (.int x :: st) := fun H locs ls a b s h => lv_i2b C.ex C.co d rfl (k H locs ls a b s h)
theorem g_i2s (C : Cx X cc nL own rt ka lvl) {x : Int32} (d : decode cc pc = .ok (.i2s, 1)) (k : G X cells slots ws (pc + 1) lv (.int x.toInt16.toInt32 :: st)) : G X cells slots ws pc lv (.int x :: st) := fun H locs ls a b s h => lv_i2s C.ex C.co d rfl (k H locs ls a b s h)
theorem g_i2c (C : Cx X cc nL own rt ka lvl) {x : Int32} (d : decode cc pc = .ok (.i2c, 1)) (k : G X cells slots ws (pc + 1) lv (.int (x.toUInt32 % 65536).toInt32 :: st)) : G X cells slots ws pc lv (.int x :: st) := fun H locs ls a b s h => lv_i2c C.ex C.co d rfl (k H locs ls a b s h)
theorem g_dup (C : Cx X cc nL own rt ka lvl) {va : Value} (d : decode cc pc = .ok (.dup, 1)) (hva : va.category = 1) (k : G X cells slots ws (pc + 1) lv (va :: va :: st)) : G X cells slots ws pc lv (va :: st) := fun H locs ls a b s h => lv_dup C.ex C.co d hva (k H locs ls a b s h)
theorem g_pop (C : Cx X cc nL own rt ka lvl) {va : Value} (d : decode cc pc = .ok (.pop, 1)) (hva : va.category = 1) (k : G X cells slots ws (pc + 1) lv st) : G X cells slots ws pc lv (va :: st) := fun H locs ls a b s h => lv_pop C.ex C.co d hva (k H locs ls a b s h)
theorem g_dup2 (C : Cx X cc nL own rt ka lvl) {va vb : Value} (d : decode cc pc = .ok (.dup2, 1)) (hva : va.category = 1) (hvb : vb.category = 1) (k : G X cells slots ws (pc + 1) lv (va :: vb :: va :: vb :: st)) : G X cells slots ws pc lv (va :: vb :: st) := fun H locs ls a b s h => lv_dup2_11 C.ex C.co d hva hvb (k H locs ls a b s h)
-- branches: the hypothesis is a pair
theorem g_goto (C : Cx X cc nL own rt ka lvl) {off : Int} (tgt : Nat) (d : decode cc pc = .ok (.goto off, 3)) (ht : (pc : Int) + off = (tgt : Int)) (k : G X cells slots ws tgt lv st) : G X cells slots ws pc lv st := fun H locs ls a b s h => lv_goto C.ex C.co d ht (k H locs ls a b s h)
theorem g_if_eq (C : Cx X cc nL own rt ka lvl) {x : Int32} {off : Int} (tgt : Nat) (d : decode cc pc = .ok (.ifCond .eq off, 3)) (ht : (pc : Int) + off = (tgt : Int)) (kt : x = 0 → G X cells slots ws tgt lv st) (kf : ¬ x = 0 → G X cells slots ws (pc + 3) lv st) : G X cells slots ws pc lv (.int x :: st) := fun H locs ls a b s h => lv_if_eq C.ex C.co d ht (fun q => kt q H locs ls a b s h) (fun q => kf q H locs ls a b s h)
theorem g_if_ne (C : Cx X cc nL own rt ka lvl) {x : Int32} {off : Int} (tgt : Nat) (d : decode cc pc = .ok (.ifCond .ne off, 3)) (ht : (pc : Int) + off = (tgt : Int)) (kt : ¬ x = 0 → G X cells slots ws tgt lv st) (kf : x = 0 → G X cells slots ws (pc + 3) lv st) : G X cells slots ws pc lv (.int x :: st) := fun H locs ls a b s h => lv_if_ne C.ex C.co d ht (fun q => kt q H locs ls a b s h) (fun q => kf q H locs ls a b s h)
theorem g_if_lt (C : Cx X cc nL own rt ka lvl) {x : Int32} {off : Int} (tgt : Nat) (d : decode cc pc = .ok (.ifCond .lt off, 3)) (ht : (pc : Int) + off = (tgt : Int)) (kt : x < 0 → G X cells slots ws tgt lv st) (kf : ¬ x < 0 → G X cells slots ws (pc + 3) lv st) : G X cells slots ws pc lv (.int x :: st) := fun H locs ls a b s h => lv_if_lt C.ex C.co d ht (fun q => kt q H locs ls a b s h) (fun q => kf q H locs ls a b s h)
theorem g_if_ge (C : Cx X cc nL own rt ka lvl) {x : Int32} {off : Int} (tgt : Nat) (d : decode cc pc = .ok (.ifCond .ge off, 3)) (ht : (pc : Int) + off = (tgt : Int)) (kt : 0 ≤ x → G X cells slots ws tgt lv st) (kf : ¬ 0 ≤ x → G X cells slots ws (pc + 3) lv st) : G X cells slots ws pc lv (.int x :: st) := fun H locs ls a b s h => lv_if_ge C.ex C.co d ht (fun q => kt q H locs ls a b s h) (fun q => kf q H locs ls a b s h)
theorem g_if_gt (C : Cx X cc nL own rt ka lvl) {x : Int32} {off : Int} (tgt : Nat) (d : decode cc pc = .ok (.ifCond .gt off, 3)) (ht : (pc : Int) + off = (tgt : Int)) (kt : 0 < x → G X cells slots ws tgt lv st) (kf : ¬ 0 < x → G X cells slots ws (pc + 3) lv st) : G X cells slots ws pc lv (.int x :: st) := fun H locs ls a b s h => lv_if_gt C.ex C.co d ht (fun q => kt q H locs ls a b s h) (fun q => kf q H locs ls a b s h)
theorem g_if_le (C : Cx X cc nL own rt ka lvl) {x : Int32} {off : Int} (tgt : Nat) (d : decode cc pc = .ok (.ifCond .le off, 3)) (ht : (pc : Int) + off = (tgt : Int)) (kt : x ≤ 0 → G X cells slots ws tgt lv st) (kf : ¬ x ≤ 0 → G X cells slots ws (pc + 3) lv st) : G X cells slots ws pc lv (.int x :: st) := fun H locs ls a b s h => lv_if_le C.ex C.co d ht (fun q => kt q H locs ls a b s h) (fun q => kf q H locs ls a b s h)
theorem g_icmp_eq (C : Cx X cc nL own rt ka lvl) {x y : Int32} {off : Int} (tgt : Nat) (d : decode cc pc = .ok (.if_icmp .eq off, 3)) (ht : (pc : Int) + off = (tgt : Int)) (kt : x = y → G X cells slots ws tgt lv st) (kf : ¬ x = y → G X cells slots ws (pc + 3) lv st) : G X cells slots ws pc lv (.int y :: .int x :: st) := fun H locs ls a b s h => lv_icmp_eq C.ex C.co d ht (fun q => kt q H locs ls a b s h) (fun q => kf q H locs ls a b s h)
theorem g_icmp_ne (C : Cx X cc nL own rt ka lvl) {x y : Int32} {off : Int} (tgt : Nat) (d : decode cc pc = .ok (.if_icmp .ne off, 3)) (ht : (pc : Int) + off = (tgt : Int)) (kt : ¬ x = y → G X cells slots ws tgt lv st) (kf : x = y → G X cells slots ws (pc + 3) lv st) : G X cells slots ws pc lv (.int y :: .int x :: st) := fun H locs ls a b s h => lv_icmp_ne C.ex C.co d ht (fun q => kt q H locs ls a b s h) (fun q => kf q H locs ls a b s h)
theorem g_icmp_lt (C : Cx X cc nL own rt ka lvl) {x y : Int32} {off : Int} (tgt : Nat) (d : decode cc pc = .ok (.if_icmp .lt off, 3)) (ht : (pc : Int) + off = (tgt : Int)) (kt : x < y → G X cells slots ws tgt lv st) (kf : ¬ x < y → G X cells slots ws (pc + 3) lv st) : G X cells slots ws pc lv (.int y :: .int x :: st) := fun H locs ls a b s h => lv_icmp_lt C.ex C.co d ht (fun q => kt q H locs ls a b s h) (fun q => kf q H locs ls a b s h)
theorem g_icmp_ge (C : Cx X cc nL own rt ka lvl) {x y : Int32} {off : Int} (tgt : Nat) (d : decode cc pc = .ok (.if_icmp .ge off, 3)) (ht : (pc : Int) + off = (tgt : Int)) (kt : y ≤ x → G X cells slots ws tgt lv st) (kf : ¬ y ≤ x → G X cells slots ws (pc + 3) lv st) : G X cells slots ws pc lv (.int y :: .int x :: st) := fun H locs ls a b s h => lv_icmp_ge C.ex C.co d ht (fun q => kt q H locs ls a b s h) (fun q => kf q H locs ls a b s h)
theorem g_icmp_gt (C : Cx X cc nL own rt ka lvl) {x y : Int32} {off : Int} (tgt : Nat) (d : decode cc pc = .ok (.if_icmp .gt off, 3)) (ht : (pc : Int) + off = (tgt : Int)) (kt : y < x → G X cells slots ws tgt lv st) (kf : ¬ y < x → G X cells slots ws (pc + 3) lv st) : G X cells slots ws pc lv (.int y :: .int x :: st) := fun H locs ls a b s h => lv_icmp_gt C.ex C.co d ht (fun q => kt q H locs ls a b s h) (fun q => kf q H locs ls a b s h)
theorem g_icmp_le (C : Cx X cc nL own rt ka lvl) {x y : Int32} {off : Int} (tgt : Nat) (d : decode cc pc = .ok (.if_icmp .le off, 3)) (ht : (pc : Int) + off = (tgt : Int)) (kt : x ≤ y → G X cells slots ws tgt lv st) (kf : ¬ x ≤ y → G X cells slots ws (pc + 3) lv st) : G X cells slots ws pc lv (.int y :: .int x :: st) := fun H locs ls a b s h => lv_icmp_le C.ex C.co d ht (fun q => kt q H locs ls a b s h) (fun q => kf q H locs ls a b s h)
theorem g_lookup (C : Cx X cc nL own rt ka lvl) {dflt : Int} {ps : Array (Int × Int)} {len : Nat} {x : Int32} (off : Int) (tgt : Nat) (d : decode cc pc = .ok (.lookupswitch dflt ps, len)) (hp : (ps.toList.zip (ps.toList.drop 1)).all (fun (a, next) => a.1 < next.1) = true) (ho : Op.lookupswitch.offset ps.toList dflt x.toInt = off) (ht : (pc : Int) + off = (tgt : Int)) (k : G X cells slots ws tgt lv st) : G X cells slots ws pc lv (.int x :: st) := fun H locs ls a b s h => lv_lookup C.ex C.co d hp ho ht (k H locs ls a b s h)
theorem g_tableOut (C : Cx X cc nL own rt ka lvl) {dflt lo hi : Int} {offs : Array Int} {len : Nat} {x : Int32} (tgt : Nat) (d : decode cc pc = .ok (.tableswitch dflt lo hi offs, len)) (h : x.toInt < lo ∨ hi < x.toInt) (ht : (pc : Int) + dflt = (tgt : Int)) (k : G X cells slots ws tgt lv st) : G X cells slots ws pc lv (.int x :: st) := fun H locs ls a b s hh => lv_tableOut C.ex C.co d h ht (k H locs ls a b s hh)
theorem g_tableIn (C : Cx X cc nL own rt ka lvl) {dflt lo hi : Int} {offs : Array Int} {len : Nat} {x : Int32} (off : Int) (tgt : Nat) (d : decode cc pc = .ok (.tableswitch dflt lo hi offs, len)) (h1 : ¬ x.toInt < lo) (h2 : ¬ hi < x.toInt) (ho : offs[(x.toInt - lo).toNat]? = some off) (ht : (pc : Int) + off = (tgt : Int)) (k : G X cells slots ws tgt lv st) : G X cells slots ws pc lv (.int x :: st) := fun H locs ls a b s hh => lv_tableIn C.ex C.co d h1 h2 ho ht (k H locs ls a b s hh)
-- cells
/-- a field is read -/
theorem g_get (C : Cx X cc nL own rt ka lvl) {ref Cn : String} {T : u_T} {N ci index : Nat} {a : Nat} (q0 : Nat) {fs : List Value} (he : ws[q0]? = some (a, .inr (ci, fs))) (hc : vwCl[ci]? = some (Cn, T, N)) (hin : ∀ w ∈ u_ws Cn T N, w ∈ gw) (k : Nat) (hk : k < N) (hlink : Cond.fieldLink own index ref (T k).2.1 (T k).2.2.1 ∈ gw) (hsame : (T k).1 = ref) {v : Value} (hv : fs[k]? = some v) (d : decode cc pc = .ok (.getfield index, 3)) (kk : G X cells slots ws (pc + 3) lv (v :: st)) : G X cells slots ws pc lv (.ref a :: st) := fun H locs ls a' b s h => va_get C.ex C.co C.ts hin C.ow C.ks a' q0 he hc k hk (C.ts _ hlink) (fun x hx => by rw [← hsame]; exact hx) hv d (kk H locs ls a' b s h)
/-- a field is written -/
theorem g_put (C : Cx X cc nL own rt ka lvl) {ref Cn : String} {T : u_T} {N ci index : Nat} {a : Nat} (q0 : Nat) {fs : List Value} (he : ws[q0]? = some (a, .inr (ci, fs))) (hc : vwCl[ci]? = some (Cn, T, N)) (hin : ∀ w ∈ u_ws Cn T N, w ∈ gw) (ty0 : Nat → FieldType) (hty : ∀ k, k < N → parseFieldDescriptor (T k).2.2.1 = some (ty0 k)) (hnm : ∀ a, a < N → ∀ b, b < N → a ≠ b → (T a).2.1 ≠ (T b).2.1) (k : Nat) (hk : k < N) (hlink : Cond.fieldLink own index ref (T k).2.1 (T k).2.2.1 ∈ gw) (hsame : (T k).1 = ref) (hfin : (T k).2.2.2 = false) {v : Value} (hn : narrow (ty0 k) v = v) (hfit : fits (ty0 k) v = true) (hl : k < fs.length) (ws' : va_W) (hw : ws.set q0 (a, .inr (ci, fs.set k v)) = ws') (d : decode cc pc = .ok (.putfield index, 3)) (kk : G X cells slots ws' (pc + 3) lv st) : G X cells slots ws pc lv (v :: .ref a :: st) := fun H locs ls a' b s h => va_put C.ex C.co C.ts hin ty0 hty hnm C.ow C.ks a' b s q0 he hc k hk (C.ts _ hlink) (fun x hx => by rw [← hsame]; exact hx) hfin (hty k hk) hn hfit hl d (fun H1 locs1 hP hD hS => kk H1 locs1 ls (by rw [← hw]; exact hP) (by rw [← hw]; exact hD) hS h)
theorem g_iald (C : Cx X cc nL own rt ka lvl) {a n : Nat} {f : Nat → Int32} (q0 : Nat) (ha : ws[q0]? = some (a, .inl (ka 0, n, .inl f))) {i : Int32} (hin : vp_in i n) (d : decode cc pc = .ok (.iaload, 1)) (kk : G X cells slots ws (pc + 1) lv (.int (f i.toNatClampNeg) :: st)) : G X cells slots ws pc lv (.int i :: .ref a :: st) := fun H locs ls a' b s h => va_iald C.ex C.co C.ks a' q0 0 ha rfl hin d (kk H locs ls a' b s h)
theorem g_cald (C : Cx X cc nL own rt ka lvl) {a n : Nat} {f : Nat → Int32} (q0 : Nat) (ha : ws[q0]? = some (a, .inl (ka 2, n, .inl f))) {i : Int32} (hin : vp_in i n) (d : decode cc pc = .ok (.caload, 1)) (kk : G X cells slots ws (pc + 1) lv (.int (f i.toNatClampNeg) :: st)) : G X cells slots ws pc lv (.int i :: .ref a :: st) := fun H locs ls a' b s h => va_cald C.ex C.co C.ks a' q0 2 ha rfl hin d (kk H locs ls a' b s h)
theorem g_lald (C : Cx X cc nL own rt ka lvl) {a n : Nat} {f : Nat → Int64} (q0 : Nat) (ha : ws[q0]? = some (a, .inl (ka 1, n, .inr (.inl f)))) {i : Int32} (hin : vp_in i n) (d : decode cc pc = .ok (.laload, 1)) (kk : G X cells slots ws (pc + 1) lv (.long (f i.toNatClampNeg) :: st)) : G X cells slots ws pc lv (.int i :: .ref a :: st) := fun H locs ls a' b s h => va_lald C.ex C.co C.ks a' q0 1 ha rfl hin d (kk H locs ls a' b s h)
theorem g_iast (C : Cx X cc nL own rt ka lvl) {a n : Nat} {f : Nat → Int32} (q0 : Nat) (ha : ws[q0]? = some (a, .inl (ka 0, n, .inl f))) {i x : Int32} (hin : vp_in i n) (ws' : va_W) (hw : ws.set q0 (a, .inl (ka 0, n, .inl (upd f i.toNatClampNeg x))) = ws') (d : decode cc pc = .ok (.iastore, 1)) (kk : G X cells slots ws' (pc + 1) lv st) : G X cells slots ws pc lv (.int x :: .int i :: .ref a :: st) := fun H locs ls a' b s h => va_iast C.ex C.co C.ks a' b s q0 0 ha rfl hin d (fun H1 locs1 hP hD hS => kk H1 locs1 ls (by rw [← hw]; exact hP) (by rw [← hw]; exact hD) hS h)
theorem g_cast (C : Cx X cc nL own rt ka lvl) {a n : Nat} {f : Nat → Int32} (q0 : Nat) (ha : ws[q0]? = some (a, .inl (ka 2, n, .inl f))) {i x : Int32} (hin : vp_in i n) (ws' : va_W) (hw : ws.set q0 (a, .inl (ka 2, n, .inl (upd f i.toNatClampNeg (vp_nar .char x)))) = ws') (d : decode cc pc = .ok (.castore, 1)) (kk : G X cells slots ws' (pc + 1) lv st) : G X cells slots ws pc lv (.int x :: .int i :: .ref a :: st) := fun H locs ls a' b s h => va_cast C.ex C.co C.ks a' b s q0 2 ha rfl hin d (fun H1 locs1 hP hD hS => kk H1 locs1 ls (by rw [← hw]; exact hP) (by rw [← hw]; exact hD) hS h)
theorem g_last (C : Cx X cc nL own rt ka lvl) {a n : Nat} {f : Nat → Int64} (q0 : Nat) (ha : ws[q0]? = some (a, .inl (ka 1, n, .inr (.inl f)))) {i : Int32} {x : Int64} (hin : vp_in i n) (ws' : va_W) (hw : ws.set q0 (a, .inl (ka 1, n, .inr (.inl (vp_updL f i.toNatClampNeg x)))) = ws') (d : decode cc pc = .ok (.lastore, 1)) (kk : G X cells slots ws' (pc + 1) lv st) : G X cells slots ws pc lv (.long x :: .int i :: .ref a :: st) := fun H locs ls a' b s h => va_last C.ex C.co C.ks a' b s q0 1 ha rfl hin d (fun H1 locs1 hP hD hS => kk H1 locs1 ls (by rw [← hw]; exact hP) (by rw [← hw]; exact hD) hS h)
end EK
-- contracts
def wg (y : MethodName) (b : ByteArray) (n : Nat) (r : Option FieldType) : List Cond := Cond.code y b n r :: gw
def rmv (lvl mc ms : Nat) : Room := { frames := lvl, cells := mc, slots := ms, locals := 40 * lvl }
def PreW (D : va_G) (ka : Nat → ClassId) (sz : Nat) (ws : va_W) (U : State) : Prop := U.heap.size = sz ∧ va_P D vwCl ws U.heap ∧ va_K D vwCl (tyK ka) U ∧ va_D (fun _ => True) ws ∧ Ex U
def PosW (D : va_G) (ka : Nat → ClassId) (ws0 : va_W) (sz : Nat) (w : va_W) (t : State) : Prop := va_P D vwCl w t.heap ∧ va_K D vwCl (tyK ka) t ∧ va_D (va_A ws0 sz) w
def MI (l : Launch) (D : va_G) (ka : Nat → ClassId) (y : MethodName) (b : ByteArray) (n : Nat) (rt : Option FieldType) (lvl mc ms : Nat) (as : List Value) (ws : va_W) (post : Int32 → va_W → Prop) : Prop :=
  ∀ sz : Nat, Met l y (wg y b n rt) (rmv lvl mc ms) (va_Pc as (PreW D ka sz ws)) (va_Qi post (PosW D ka ws sz) (va_A ws sz)) mc ms (va_A ws sz)
def ML (l : Launch) (D : va_G) (ka : Nat → ClassId) (y : MethodName) (b : ByteArray) (n : Nat) (rt : Option FieldType) (lvl mc ms : Nat) (as : List Value) (ws : va_W) (post : Int64 → va_W → Prop) : Prop :=
  ∀ sz : Nat, Met l y (wg y b n rt) (rmv lvl mc ms) (va_Pc as (PreW D ka sz ws)) (va_Ql post (PosW D ka ws sz) (va_A ws sz)) mc ms (va_A ws sz)
def MV (l : Launch) (D : va_G) (ka : Nat → ClassId) (y : MethodName) (b : ByteArray) (n : Nat) (rt : Option FieldType) (lvl mc ms : Nat) (as : List Value) (ws : va_W) (post : va_W → Prop) : Prop :=
  ∀ sz : Nat, Met l y (wg y b n rt) (rmv lvl mc ms) (va_Pc as (PreW D ka sz ws)) (va_Qv post (PosW D ka ws sz) (va_A ws sz)) mc ms (va_A ws sz)
/-- a method's own words: an instance method, chosen by its own class -/
def MInf (y : MethodName) (b : ByteArray) (n : Nat) (r : Option FieldType) (k : Nat) : Prop := Cond.instanceMethod y ∈ gw ∧ Cond.selects y.cls y y ∈ gw ∧ Cond.initialized y.cls ∈ gw ∧ Cond.code y b n r ∈ gw ∧ (y.cls ≠ "java/lang/invoke/MethodHandle" ∧ y.cls ≠ "java/lang/invoke/VarHandle" ∧ (parseMethodDescriptor y.desc).map (fun d => d.parameters.length) = some k) ∧ n ≤ 20
def SInf (y : MethodName) (b : ByteArray) (n : Nat) (r : Option FieldType) (k : Nat) : Prop := Cond.static y ∈ gw ∧ Cond.initialized y.cls ∈ gw ∧ Cond.code y b n r ∈ gw ∧ (y.cls ≠ "java/lang/invoke/MethodHandle" ∧ y.cls ≠ "java/lang/invoke/VarHandle" ∧ (parseMethodDescriptor y.desc).map (fun d => d.parameters.length) = some k) ∧ n ≤ 20
theorem wg_good {y : MethodName} {b : ByteArray} {n : Nat} {r : Option FieldType} (h : Cond.code y b n r ∈ gw) : GoodIn gw (wg y b n r) := fun w hw => by
  have hm : w ∈ gw := by
    rcases List.mem_cons.mp hw with rfl | h1
    · exact h
    · exact h1
  exact ⟨hm, gw_good w hm⟩
theorem PreW.blind {D : va_G} {ka : Nat → ClassId} {sz : Nat} {ws : va_W} {as : List Value} : FrameBlind (va_Pc as (PreW D ka sz ws)) := by
  intro a U g mk q
  obtain ⟨q0, q1, qP, qK, qD, qE⟩ := q
  exact ⟨q0, q1, qP, va_K.moved (u := U) (U := U.calling g mk a) (Vm.Alike.refl U.vm) qK, qD, Ex.same (U := U.calling g mk a) rfl qE⟩
section EC
variable {X : XT} {cc : ByteArray} {nL : Nat} {own : String} {rt : Option FieldType} {ka : Nat → ClassId} {lvl cells slots : Nat} {ws : va_W} {pc : Nat} {lv : List (Nat × Value)} {st st0 : List Value}
variable {y : MethodName} {b : ByteArray} {n lc mc ms np index : Nat} {r : Option FieldType} {As : List Value} {a : Nat} {q ci : Nat} {fs : List Value} {T : u_T} {N : Nat}
theorem callB_gw (C : Cx X cc nL own rt ka lvl) (hlink : Cond.methodLink own index y ∈ gw) (hini : Cond.initialized y.cls ∈ gw) (hcode : Cond.code y b n r ∈ gw) (hd : y.cls ≠ "java/lang/invoke/MethodHandle" ∧ y.cls ≠ "java/lang/invoke/VarHandle" ∧ (parseMethodDescriptor y.desc).map (fun d => d.parameters.length) = some np) (hn : n ≤ 20) (hlc : lc < lvl) :
    CallB (xR X) (xS X) (xA X) own index y b n r (wg y b n r) (rmv lc mc ms) mc ms np :=
  callB_of (Ts := gw) np C.ts (wg_good hcode) rfl rfl rfl (C.ts _ hini) (C.ts _ hlink) hd ⟨Nat.le_trans hlc C.rf, by have := C.rl; show 8 + (n + 11) + 40 * lc ≤ (xR X).locals; omega⟩
theorem va_freeA {A0 : Nat → Prop} {ws : va_W} {H0 H : Heap} {locs : List Loc} (hD : va_D A0 ws) (hS : va_S A0 H0 H locs) (hA : ∀ q, H0.size ≤ q → A0 q) : ∀ q, va_A ws H.size q → A0 q := by
  intro q h
  rcases h with ⟨k, e, h⟩ | h
  · exact hD.2 k (q, e) h
  · exact hA q (Nat.le_trans hS.1 h)
theorem pre_ws (C : Cx X cc nL own rt ka lvl) {H : Heap} (hP : va_P (xD X) vwCl ws H) (hD : va_D (xF X) ws) {as : List Value} : ∀ U : State, U.heap = H → (xS X).WarmedH U.vm → va_Pc as (PreW (xD X) ka H.size ws) as.toArray U := fun U hU hW =>
  ⟨rfl, by rw [hU], by rw [hU]; exact hP, va_K.moved hW.alike C.ks, hD.weaken (fun _ _ _ _ => trivial), Ex.warm hW C.ext⟩
theorem g_callVi (C : Cx X cc nL own rt ka lvl) {post : Int32 → va_W → Prop} (hM : MI (xL X) (xD X) ka y b n r lc mc ms (.ref a :: As) ws post) (mi : MInf y b n r np) (hlink : Cond.methodLink own index y ∈ gw) (hlc : lc < lvl) (he : ws[q]? = some (a, .inr (ci, fs))) (hc : vwCl[ci]? = some (y.cls, T, N)) (hn : As.length = np) (hst : st0 = As.reverse ++ .ref a :: st) (hsum : (st.map fun v => v.category).sum ≤ 8) (hcs : cells + mc ≤ (xR X).cells ∧ slots + ms ≤ (xR X).slots) (d : decode cc pc = .ok (.invokevirtual index, 3)) (k : ∀ (z : Int32) (w : va_W), post z w → G X (cells + mc) (slots + ms) w (pc + 3) lv (.int z :: st)) : G X cells slots ws pc lv st0 := by
  intro H locs ls hP hD hS hl
  subst hst
  have hF := va_freeA hD hS C.fr
  refine va_calli (va_runV (As := As) (rest := st) (Ts := gw) ⟨C.ex, C.co, rfl, C.ow, C.ts⟩ (hM H.size) ⟨callB_gw C hlink mi.2.2.1 mi.2.2.2.1 mi.2.2.2.2.1 mi.2.2.2.2.2 hlc, C.ts _ mi.1, C.ts _ mi.2.1⟩ ⟨PreW.blind, va_recv C.ks hP hc he, pre_ws C hP hD⟩ rfl hn hl.1 rfl (by show 2 * 0 + _ ≤ 8; omega) d hcs) hS (fun q _ h => hF q h) hF (fun z w t H1 locs1 ht hvm hw hB hz1 hk1 hS1 => ?_)
  obtain ⟨hP1, -, hD1⟩ := hB
  rw [ht] at hP1
  exact k z w hw H1 locs1 ls hP1 (hD1.weaken (fun _ q _ h => hF q.1 h)) hS1 hl
theorem g_callVv (C : Cx X cc nL own rt ka lvl) {post : va_W → Prop} (hM : MV (xL X) (xD X) ka y b n r lc mc ms (.ref a :: As) ws post) (mi : MInf y b n r np) (hlink : Cond.methodLink own index y ∈ gw) (hlc : lc < lvl) (he : ws[q]? = some (a, .inr (ci, fs))) (hc : vwCl[ci]? = some (y.cls, T, N)) (hn : As.length = np) (hst : st0 = As.reverse ++ .ref a :: st) (hsum : (st.map fun v => v.category).sum ≤ 8) (hcs : cells + mc ≤ (xR X).cells ∧ slots + ms ≤ (xR X).slots) (d : decode cc pc = .ok (.invokevirtual index, 3)) (k : ∀ (w : va_W), post w → G X (cells + mc) (slots + ms) w (pc + 3) lv st) : G X cells slots ws pc lv st0 := by
  intro H locs ls hP hD hS hl
  subst hst
  have hF := va_freeA hD hS C.fr
  refine va_callv (va_runV (As := As) (rest := st) (Ts := gw) ⟨C.ex, C.co, rfl, C.ow, C.ts⟩ (hM H.size) ⟨callB_gw C hlink mi.2.2.1 mi.2.2.2.1 mi.2.2.2.2.1 mi.2.2.2.2.2 hlc, C.ts _ mi.1, C.ts _ mi.2.1⟩ ⟨PreW.blind, va_recv C.ks hP hc he, pre_ws C hP hD⟩ rfl hn hl.1 rfl (by show 2 * 0 + _ ≤ 8; omega) d hcs) hS (fun q _ h => hF q h) hF (fun w t H1 locs1 ht hvm hw hB hz1 hk1 hS1 => ?_)
  obtain ⟨hP1, -, hD1⟩ := hB
  rw [ht] at hP1
  exact k w hw H1 locs1 ls hP1 (hD1.weaken (fun _ q _ h => hF q.1 h)) hS1 hl
theorem g_callSi (C : Cx X cc nL own rt ka lvl) {post : Int32 → va_W → Prop} (hM : MI (xL X) (xD X) ka y b n r lc mc ms As ws post) (mi : SInf y b n r np) (hlink : Cond.methodLink own index y ∈ gw) (hlc : lc < lvl) (hn : As.length = np) (hst : st0 = As.reverse ++ st) (hsum : (st.map fun v => v.category).sum ≤ 8) (hcs : cells + mc ≤ (xR X).cells ∧ slots + ms ≤ (xR X).slots) (d : decode cc pc = .ok (.invokestatic index, 3)) (k : ∀ (z : Int32) (w : va_W), post z w → G X (cells + mc) (slots + ms) w (pc + 3) lv (.int z :: st)) : G X cells slots ws pc lv st0 := by
  intro H locs ls hP hD hS hl
  subst hst
  have hF := va_freeA hD hS C.fr
  refine va_calli (va_runS (As := As) (rest := st) (Ts := gw) ⟨C.ex, C.co, rfl, C.ow, C.ts⟩ (hM H.size) ⟨callB_gw C hlink mi.2.1 mi.2.2.1 mi.2.2.2.1 mi.2.2.2.2 hlc, C.ts _ mi.1⟩ ⟨PreW.blind, pre_ws C hP hD⟩ rfl hn hl.1 rfl (by show 2 * 0 + _ ≤ 8; omega) d hcs) hS (fun q _ h => hF q h) hF (fun z w t H1 locs1 ht hvm hw hB hz1 hk1 hS1 => ?_)
  obtain ⟨hP1, -, hD1⟩ := hB
  rw [ht] at hP1
  exact k z w hw H1 locs1 ls hP1 (hD1.weaken (fun _ q _ h => hF q.1 h)) hS1 hl
end EC
/-- what an end is worth, at a method's end -/
def RetI (X : XT) (b : ByteArray) (ty : FieldType) (mc ms : Nat) (post : Int32 → va_W → Prop) : Prop := ∀ (z : Int32) (w : va_W) (pc : Nat) (lv : List (Nat × Value)), post z w → narrow ty (.int z) = .int z → decode b pc = .ok (.ireturn, 1) → G X mc ms w pc lv [.int z]
def RetL (X : XT) (b : ByteArray) (mc ms : Nat) (post : Int64 → va_W → Prop) : Prop := ∀ (z : Int64) (w : va_W) (pc : Nat) (lv : List (Nat × Value)), post z w → decode b pc = .ok (.lreturn, 1) → G X mc ms w pc lv [.long z]
def RetV (X : XT) (b : ByteArray) (mc ms : Nat) (post : va_W → Prop) : Prop := ∀ (w : va_W) (pc : Nat) (lv : List (Nat × Value)), post w → decode b pc = .ok (.return_, 1) → G X mc ms w pc lv []
section EM
variable {l : Launch} {D : va_G} {ka : Nat → ClassId} {y : MethodName} {b : ByteArray} {n : Nat} {ty : FieldType} {lvl mc ms : Nat} {as : List Value} {ws : va_W}
theorem MI_of {post : Int32 → va_W → Prop} (hy : plainName y.cls = true) (hla : (lg_sl as).length ≤ n) (body : ∀ X : XT, Cx X b n y.cls (some ty) ka lvl → (xR X).cells = mc ∧ (xR X).slots = ms → RetI X b ty mc ms post → G X 0 0 ws 0 (lv_args 0 as) []) : MI l D ka y b n (some ty) lvl mc ms as ws post := by
  intro sz
  refine Met.ofW (cc := b) (maxL := n) (ret := some ty) hy rfl ?_
  intro p e s m args below meth c s₁ B hml hv
  obtain ⟨rfl, hsz, hP, hK, hD0, hE⟩ := hv
  subst hsz
  have hts := atoms_spec (ws := wg y b n (some ty)) B.pre
  have hown : s.vm.findClass y.cls = some m.cls := findClass_of_methodNamed B.named
  have hl := lv_entry as (n := n) hla
  rw [lg_entry_eq]
  have CX : Cx (p, l, e, rmv lvl mc ms, s, m, as.toArray, below, meth, c, D, va_A ws s.heap.size, MQ below (va_Qi post (PosW D ka ws s.heap.size) (va_A ws s.heap.size)) as.toArray s mc ms (va_A ws s.heap.size)) b n y.cls (some ty) ka lvl :=
    ⟨B.exec, B.bytes, hml, hown, fun w hw => hts w (List.mem_cons_of_mem _ hw), hK, fun q h => Or.inr h, B.returns, B.notSynchronized, Nat.le_refl _, Nat.le_refl _, hE⟩
  refine body (p, l, e, rmv lvl mc ms, s, m, as.toArray, below, meth, c, D, va_A ws s.heap.size, MQ below (va_Qi post (PosW D ka ws s.heap.size) (va_A ws s.heap.size)) as.toArray s mc ms (va_A ws s.heap.size)) CX ⟨rfl, rfl⟩ ?_ s.heap [] _ hP hD0.self va_S.rf (by rw [show ((xC (p, l, e, rmv lvl mc ms, s, m, as.toArray, below, meth, c, D, va_A ws s.heap.size, MQ below (va_Qi post (PosW D ka ws s.heap.size) (va_A ws s.heap.size)) as.toArray s mc ms (va_A ws s.heap.size))).maxLocals) = n from hml]; exact hl)
  intro z w pc lv hz hn hd H locs ls hP1 hD1 hS1 _
  exact W.zret B.exec B.bytes B.returns hn (fun t ht hW => ⟨⟨z, w, rfl, hz, by rw [ht]; exact hP1, va_K.moved hW.alike hK, hD1⟩, va_S.F hS1 ht⟩) hS1.2.2 hd B.notSynchronized
theorem MV_of {post : va_W → Prop} (hy : plainName y.cls = true) (hla : (lg_sl as).length ≤ n) (body : ∀ X : XT, Cx X b n y.cls none ka lvl → (xR X).cells = mc ∧ (xR X).slots = ms → RetV X b mc ms post → G X 0 0 ws 0 (lv_args 0 as) []) : MV l D ka y b n none lvl mc ms as ws post := by
  intro sz
  refine Met.ofW (cc := b) (maxL := n) (ret := none) hy rfl ?_
  intro p e s m args below meth c s₁ B hml hv
  obtain ⟨rfl, hsz, hP, hK, hD0, hE⟩ := hv
  subst hsz
  have hts := atoms_spec (ws := wg y b n none) B.pre
  have hown : s.vm.findClass y.cls = some m.cls := findClass_of_methodNamed B.named
  have hl := lv_entry as (n := n) hla
  rw [lg_entry_eq]
  have CX : Cx (p, l, e, rmv lvl mc ms, s, m, as.toArray, below, meth, c, D, va_A ws s.heap.size, MQ below (va_Qv post (PosW D ka ws s.heap.size) (va_A ws s.heap.size)) as.toArray s mc ms (va_A ws s.heap.size)) b n y.cls none ka lvl :=
    ⟨B.exec, B.bytes, hml, hown, fun w hw => hts w (List.mem_cons_of_mem _ hw), hK, fun q h => Or.inr h, B.returns, B.notSynchronized, Nat.le_refl _, Nat.le_refl _, hE⟩
  refine body (p, l, e, rmv lvl mc ms, s, m, as.toArray, below, meth, c, D, va_A ws s.heap.size, MQ below (va_Qv post (PosW D ka ws s.heap.size) (va_A ws s.heap.size)) as.toArray s mc ms (va_A ws s.heap.size)) CX ⟨rfl, rfl⟩ ?_ s.heap [] _ hP hD0.self va_S.rf (by rw [show ((xC (p, l, e, rmv lvl mc ms, s, m, as.toArray, below, meth, c, D, va_A ws s.heap.size, MQ below (va_Qv post (PosW D ka ws s.heap.size) (va_A ws s.heap.size)) as.toArray s mc ms (va_A ws s.heap.size))).maxLocals) = n from hml]; exact hl)
  intro w pc lv hz hd H locs ls hP1 hD1 hS1 _
  exact W.vret B.exec B.bytes B.returns (fun t ht hW => ⟨⟨w, rfl, hz, by rw [ht]; exact hP1, va_K.moved hW.alike hK, hD1⟩, va_S.F hS1 ht⟩) hS1.2.2 hd B.notSynchronized
end EM
end
