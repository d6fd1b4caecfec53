section
-- ===== PART A: goes FIRST, ahead of the names: the tables' words, and 'selects' of the private methods out of them =====
/-- a private method of a class that the tables say can be made, by its rows of tables_1 -/
def lw_okq (q : MethodName × Nat) : Prop := (q.1.cls ≠ "java/lang/invoke/MethodHandle" ∧ q.1.cls ≠ "java/lang/invoke/VarHandle") ∧ Cond.instantiable q.1.cls q.2 ∈ tables_1 ∧ Cond.privateMethod q.1 ∈ tables_1 ∧ Cond.instanceMethod q.1 ∈ tables_1
theorem lw_p0 : lw_okq (⟨"SummerWall", "changeStones", "(I)I"⟩, 6) := ⟨⟨by decide +kernel, by decide +kernel⟩, List.mem_of_getElem? (i := 16) (by decide +kernel), List.mem_of_getElem? (i := 416) (by decide +kernel), List.mem_of_getElem? (i := 417) (by decide +kernel)⟩
theorem lw_p1 : lw_okq (⟨"SummerWall", "changeDays", "(I)I"⟩, 6) := ⟨⟨by decide +kernel, by decide +kernel⟩, List.mem_of_getElem? (i := 16) (by decide +kernel), List.mem_of_getElem? (i := 420) (by decide +kernel), List.mem_of_getElem? (i := 421) (by decide +kernel)⟩
theorem lw_p2 : lw_okq (⟨"SummerWall", "changeFrost", "(I)I"⟩, 6) := ⟨⟨by decide +kernel, by decide +kernel⟩, List.mem_of_getElem? (i := 16) (by decide +kernel), List.mem_of_getElem? (i := 424) (by decide +kernel), List.mem_of_getElem? (i := 425) (by decide +kernel)⟩
theorem lw_p3 : lw_okq (⟨"SummerWall", "changeThaw", "(I)I"⟩, 6) := ⟨⟨by decide +kernel, by decide +kernel⟩, List.mem_of_getElem? (i := 16) (by decide +kernel), List.mem_of_getElem? (i := 428) (by decide +kernel), List.mem_of_getElem? (i := 429) (by decide +kernel)⟩
theorem lw_p4 : lw_okq (⟨"SummerWall$Tape", "readNumber", "(I)I"⟩, 13) := ⟨⟨by decide +kernel, by decide +kernel⟩, List.mem_of_getElem? (i := 110) (by decide +kernel), List.mem_of_getElem? (i := 460) (by decide +kernel), List.mem_of_getElem? (i := 461) (by decide +kernel)⟩
theorem lw_p5 : lw_okq (⟨"SummerWall$Tape", "next", "()C"⟩, 13) := ⟨⟨by decide +kernel, by decide +kernel⟩, List.mem_of_getElem? (i := 110) (by decide +kernel), List.mem_of_getElem? (i := 464) (by decide +kernel), List.mem_of_getElem? (i := 465) (by decide +kernel)⟩
theorem lw_p6 : lw_okq (⟨"SummerWall$Tape", "failAt", "(I)Z"⟩, 13) := ⟨⟨by decide +kernel, by decide +kernel⟩, List.mem_of_getElem? (i := 110) (by decide +kernel), List.mem_of_getElem? (i := 472) (by decide +kernel), List.mem_of_getElem? (i := 473) (by decide +kernel)⟩
theorem lw_p7 : lw_okq (⟨"SummerWall$Tape", "readSign", "(C)Z"⟩, 13) := ⟨⟨by decide +kernel, by decide +kernel⟩, List.mem_of_getElem? (i := 110) (by decide +kernel), List.mem_of_getElem? (i := 476) (by decide +kernel), List.mem_of_getElem? (i := 477) (by decide +kernel)⟩
theorem lw_p8 : lw_okq (⟨"SummerWall$Tape", "readBuilders", "()Z"⟩, 13) := ⟨⟨by decide +kernel, by decide +kernel⟩, List.mem_of_getElem? (i := 110) (by decide +kernel), List.mem_of_getElem? (i := 480) (by decide +kernel), List.mem_of_getElem? (i := 481) (by decide +kernel)⟩
theorem lw_p9 : lw_okq (⟨"SummerWall$Tape", "readBuilder", "()Z"⟩, 13) := ⟨⟨by decide +kernel, by decide +kernel⟩, List.mem_of_getElem? (i := 110) (by decide +kernel), List.mem_of_getElem? (i := 484) (by decide +kernel), List.mem_of_getElem? (i := 485) (by decide +kernel)⟩
theorem lw_p10 : lw_okq (⟨"SummerWall$Tape", "readDigit", "(I)I"⟩, 13) := ⟨⟨by decide +kernel, by decide +kernel⟩, List.mem_of_getElem? (i := 110) (by decide +kernel), List.mem_of_getElem? (i := 491) (by decide +kernel), List.mem_of_getElem? (i := 492) (by decide +kernel)⟩
theorem lw_p11 : lw_okq (⟨"SummerWall$Tape", "readHindrances", "()Z"⟩, 13) := ⟨⟨by decide +kernel, by decide +kernel⟩, List.mem_of_getElem? (i := 110) (by decide +kernel), List.mem_of_getElem? (i := 495) (by decide +kernel), List.mem_of_getElem? (i := 496) (by decide +kernel)⟩
theorem lw_p12 : lw_okq (⟨"SummerWall$Tape", "readHindrance", "()Z"⟩, 13) := ⟨⟨by decide +kernel, by decide +kernel⟩, List.mem_of_getElem? (i := 110) (by decide +kernel), List.mem_of_getElem? (i := 499) (by decide +kernel), List.mem_of_getElem? (i := 500) (by decide +kernel)⟩
theorem lw_p13 : lw_okq (⟨"SummerWall$Foretold", "look", "(LSummerWall$Site;III)V"⟩, 16) := ⟨⟨by decide +kernel, by decide +kernel⟩, List.mem_of_getElem? (i := 168) (by decide +kernel), List.mem_of_getElem? (i := 602) (by decide +kernel), List.mem_of_getElem? (i := 603) (by decide +kernel)⟩
theorem lw_p14 : lw_okq (⟨"SummerWall$Foretold", "reckonLays", "(LSummerWall$Site;II)V"⟩, 16) := ⟨⟨by decide +kernel, by decide +kernel⟩, List.mem_of_getElem? (i := 168) (by decide +kernel), List.mem_of_getElem? (i := 606) (by decide +kernel), List.mem_of_getElem? (i := 607) (by decide +kernel)⟩
theorem lw_p15 : lw_okq (⟨"SummerWall$Foretold", "fillBehind", "([II)V"⟩, 16) := ⟨⟨by decide +kernel, by decide +kernel⟩, List.mem_of_getElem? (i := 168) (by decide +kernel), List.mem_of_getElem? (i := 611) (by decide +kernel), List.mem_of_getElem? (i := 612) (by decide +kernel)⟩
def lw_privs_1 : List (MethodName × Nat) := [(⟨"SummerWall", "changeStones", "(I)I"⟩, 6), (⟨"SummerWall", "changeDays", "(I)I"⟩, 6), (⟨"SummerWall", "changeFrost", "(I)I"⟩, 6), (⟨"SummerWall", "changeThaw", "(I)I"⟩, 6), (⟨"SummerWall$Tape", "readNumber", "(I)I"⟩, 13), (⟨"SummerWall$Tape", "next", "()C"⟩, 13), (⟨"SummerWall$Tape", "failAt", "(I)Z"⟩, 13), (⟨"SummerWall$Tape", "readSign", "(C)Z"⟩, 13), (⟨"SummerWall$Tape", "readBuilders", "()Z"⟩, 13), (⟨"SummerWall$Tape", "readBuilder", "()Z"⟩, 13), (⟨"SummerWall$Tape", "readDigit", "(I)I"⟩, 13), (⟨"SummerWall$Tape", "readHindrances", "()Z"⟩, 13), (⟨"SummerWall$Tape", "readHindrance", "()Z"⟩, 13), (⟨"SummerWall$Foretold", "look", "(LSummerWall$Site;III)V"⟩, 16), (⟨"SummerWall$Foretold", "reckonLays", "(LSummerWall$Site;II)V"⟩, 16), (⟨"SummerWall$Foretold", "fillBehind", "([II)V"⟩, 16)]
theorem lw_r1 : ∀ q ∈ lw_privs_1, lw_okq q := List.forall_mem_cons.mpr ⟨lw_p0, List.forall_mem_cons.mpr ⟨lw_p1, List.forall_mem_cons.mpr ⟨lw_p2, List.forall_mem_cons.mpr ⟨lw_p3, List.forall_mem_cons.mpr ⟨lw_p4, List.forall_mem_cons.mpr ⟨lw_p5, List.forall_mem_cons.mpr ⟨lw_p6, List.forall_mem_cons.mpr ⟨lw_p7, List.forall_mem_cons.mpr ⟨lw_p8, List.forall_mem_cons.mpr ⟨lw_p9, List.forall_mem_cons.mpr ⟨lw_p10, List.forall_mem_cons.mpr ⟨lw_p11, List.forall_mem_cons.mpr ⟨lw_p12, List.forall_mem_cons.mpr ⟨lw_p13, List.forall_mem_cons.mpr ⟨lw_p14, List.forall_mem_cons.mpr ⟨lw_p15, fun _ h => absurd h List.not_mem_nil⟩⟩⟩⟩⟩⟩⟩⟩⟩⟩⟩⟩⟩⟩⟩⟩
theorem lw_p16 : lw_okq (⟨"SummerWall$Foretold", "laidBehind", "(III)I"⟩, 16) := ⟨⟨by decide +kernel, by decide +kernel⟩, List.mem_of_getElem? (i := 168) (by decide +kernel), List.mem_of_getElem? (i := 615) (by decide +kernel), List.mem_of_getElem? (i := 616) (by decide +kernel)⟩
theorem lw_p17 : lw_okq (⟨"SummerWall$Foretold", "goBackToTomorrow", "()V"⟩, 16) := ⟨⟨by decide +kernel, by decide +kernel⟩, List.mem_of_getElem? (i := 168) (by decide +kernel), List.mem_of_getElem? (i := 620) (by decide +kernel), List.mem_of_getElem? (i := 621) (by decide +kernel)⟩
theorem lw_p18 : lw_okq (⟨"SummerWall$Foretold", "startAtSummer", "()V"⟩, 16) := ⟨⟨by decide +kernel, by decide +kernel⟩, List.mem_of_getElem? (i := 168) (by decide +kernel), List.mem_of_getElem? (i := 624) (by decide +kernel), List.mem_of_getElem? (i := 625) (by decide +kernel)⟩
theorem lw_p19 : lw_okq (⟨"SummerWall$Foretold", "stepBack", "([I[II)V"⟩, 16) := ⟨⟨by decide +kernel, by decide +kernel⟩, List.mem_of_getElem? (i := 168) (by decide +kernel), List.mem_of_getElem? (i := 629) (by decide +kernel), List.mem_of_getElem? (i := 630) (by decide +kernel)⟩
theorem lw_p20 : lw_okq (⟨"SummerWall$Foretold", "oddsToday", "([II)I"⟩, 16) := ⟨⟨by decide +kernel, by decide +kernel⟩, List.mem_of_getElem? (i := 168) (by decide +kernel), List.mem_of_getElem? (i := 633) (by decide +kernel), List.mem_of_getElem? (i := 634) (by decide +kernel)⟩
theorem lw_p21 : lw_okq (⟨"SummerWall$Foretold", "oddsIfHindered", "(I)I"⟩, 16) := ⟨⟨by decide +kernel, by decide +kernel⟩, List.mem_of_getElem? (i := 168) (by decide +kernel), List.mem_of_getElem? (i := 687) (by decide +kernel), List.mem_of_getElem? (i := 688) (by decide +kernel)⟩
theorem lw_p22 : lw_okq (⟨"SummerWall$Foretold", "spread", "(I)V"⟩, 16) := ⟨⟨by decide +kernel, by decide +kernel⟩, List.mem_of_getElem? (i := 168) (by decide +kernel), List.mem_of_getElem? (i := 705) (by decide +kernel), List.mem_of_getElem? (i := 706) (by decide +kernel)⟩
theorem lw_p23 : lw_okq (⟨"SummerWall", "weatherOf", "([JIII)I"⟩, 6) := ⟨⟨by decide +kernel, by decide +kernel⟩, List.mem_of_getElem? (i := 16) (by decide +kernel), List.mem_of_getElem? (i := 742) (by decide +kernel), List.mem_of_getElem? (i := 743) (by decide +kernel)⟩
theorem lw_p24 : lw_okq (⟨"SummerWall", "fittingWeathers", "(IJI)I"⟩, 6) := ⟨⟨by decide +kernel, by decide +kernel⟩, List.mem_of_getElem? (i := 16) (by decide +kernel), List.mem_of_getElem? (i := 746) (by decide +kernel), List.mem_of_getElem? (i := 747) (by decide +kernel)⟩
theorem lw_p25 : lw_okq (⟨"SummerWall$Sheet", "cut", "(J)J"⟩, 4) := ⟨⟨by decide +kernel, by decide +kernel⟩, List.mem_of_getElem? (i := 226) (by decide +kernel), List.mem_of_getElem? (i := 759) (by decide +kernel), List.mem_of_getElem? (i := 760) (by decide +kernel)⟩
theorem lw_p26 : lw_okq (⟨"SummerWallModel", "isBuilder", "(I)Z"⟩, 20) := ⟨⟨by decide +kernel, by decide +kernel⟩, List.mem_of_getElem? (i := 785) (by decide +kernel), List.mem_of_getElem? (i := 865) (by decide +kernel), List.mem_of_getElem? (i := 866) (by decide +kernel)⟩
theorem lw_p27 : lw_okq (⟨"SummerWallModel", "haulsOf", "(II)I"⟩, 20) := ⟨⟨by decide +kernel, by decide +kernel⟩, List.mem_of_getElem? (i := 785) (by decide +kernel), List.mem_of_getElem? (i := 870) (by decide +kernel), List.mem_of_getElem? (i := 871) (by decide +kernel)⟩
theorem lw_p28 : lw_okq (⟨"SummerWallModel", "laysOf", "(III)I"⟩, 20) := ⟨⟨by decide +kernel, by decide +kernel⟩, List.mem_of_getElem? (i := 785) (by decide +kernel), List.mem_of_getElem? (i := 874) (by decide +kernel), List.mem_of_getElem? (i := 875) (by decide +kernel)⟩
theorem lw_p29 : lw_okq (⟨"SummerWallModel", "number", "(II)I"⟩, 20) := ⟨⟨by decide +kernel, by decide +kernel⟩, List.mem_of_getElem? (i := 785) (by decide +kernel), List.mem_of_getElem? (i := 909) (by decide +kernel), List.mem_of_getElem? (i := 910) (by decide +kernel)⟩
theorem lw_p30 : lw_okq (⟨"SummerWallModel", "here", "()I"⟩, 20) := ⟨⟨by decide +kernel, by decide +kernel⟩, List.mem_of_getElem? (i := 785) (by decide +kernel), List.mem_of_getElem? (i := 913) (by decide +kernel), List.mem_of_getElem? (i := 914) (by decide +kernel)⟩
theorem lw_p31 : lw_okq (⟨"SummerWallModel", "must", "(Z)V"⟩, 20) := ⟨⟨by decide +kernel, by decide +kernel⟩, List.mem_of_getElem? (i := 785) (by decide +kernel), List.mem_of_getElem? (i := 919) (by decide +kernel), List.mem_of_getElem? (i := 920) (by decide +kernel)⟩
def lw_privs_2 : List (MethodName × Nat) := [(⟨"SummerWall$Foretold", "laidBehind", "(III)I"⟩, 16), (⟨"SummerWall$Foretold", "goBackToTomorrow", "()V"⟩, 16), (⟨"SummerWall$Foretold", "startAtSummer", "()V"⟩, 16), (⟨"SummerWall$Foretold", "stepBack", "([I[II)V"⟩, 16), (⟨"SummerWall$Foretold", "oddsToday", "([II)I"⟩, 16), (⟨"SummerWall$Foretold", "oddsIfHindered", "(I)I"⟩, 16), (⟨"SummerWall$Foretold", "spread", "(I)V"⟩, 16), (⟨"SummerWall", "weatherOf", "([JIII)I"⟩, 6), (⟨"SummerWall", "fittingWeathers", "(IJI)I"⟩, 6), (⟨"SummerWall$Sheet", "cut", "(J)J"⟩, 4), (⟨"SummerWallModel", "isBuilder", "(I)Z"⟩, 20), (⟨"SummerWallModel", "haulsOf", "(II)I"⟩, 20), (⟨"SummerWallModel", "laysOf", "(III)I"⟩, 20), (⟨"SummerWallModel", "number", "(II)I"⟩, 20), (⟨"SummerWallModel", "here", "()I"⟩, 20), (⟨"SummerWallModel", "must", "(Z)V"⟩, 20)]
theorem lw_r2 : ∀ q ∈ lw_privs_2, lw_okq q := List.forall_mem_cons.mpr ⟨lw_p16, List.forall_mem_cons.mpr ⟨lw_p17, List.forall_mem_cons.mpr ⟨lw_p18, List.forall_mem_cons.mpr ⟨lw_p19, List.forall_mem_cons.mpr ⟨lw_p20, List.forall_mem_cons.mpr ⟨lw_p21, List.forall_mem_cons.mpr ⟨lw_p22, List.forall_mem_cons.mpr ⟨lw_p23, List.forall_mem_cons.mpr ⟨lw_p24, List.forall_mem_cons.mpr ⟨lw_p25, List.forall_mem_cons.mpr ⟨lw_p26, List.forall_mem_cons.mpr ⟨lw_p27, List.forall_mem_cons.mpr ⟨lw_p28, List.forall_mem_cons.mpr ⟨lw_p29, List.forall_mem_cons.mpr ⟨lw_p30, List.forall_mem_cons.mpr ⟨lw_p31, fun _ h => absurd h List.not_mem_nil⟩⟩⟩⟩⟩⟩⟩⟩⟩⟩⟩⟩⟩⟩⟩⟩
theorem lw_p32 : lw_okq (⟨"SummerWallModel", "takes", "(I)V"⟩, 20) := ⟨⟨by decide +kernel, by decide +kernel⟩, List.mem_of_getElem? (i := 785) (by decide +kernel), List.mem_of_getElem? (i := 923) (by decide +kernel), List.mem_of_getElem? (i := 924) (by decide +kernel)⟩
theorem lw_p33 : lw_okq (⟨"SummerWallModel", "readBuilders", "()I"⟩, 20) := ⟨⟨by decide +kernel, by decide +kernel⟩, List.mem_of_getElem? (i := 785) (by decide +kernel), List.mem_of_getElem? (i := 927) (by decide +kernel), List.mem_of_getElem? (i := 928) (by decide +kernel)⟩
theorem lw_p34 : lw_okq (⟨"SummerWallModel", "digit", "(II)I"⟩, 20) := ⟨⟨by decide +kernel, by decide +kernel⟩, List.mem_of_getElem? (i := 785) (by decide +kernel), List.mem_of_getElem? (i := 931) (by decide +kernel), List.mem_of_getElem? (i := 932) (by decide +kernel)⟩
theorem lw_p35 : lw_okq (⟨"SummerWallModel", "readHindrances", "()I"⟩, 20) := ⟨⟨by decide +kernel, by decide +kernel⟩, List.mem_of_getElem? (i := 785) (by decide +kernel), List.mem_of_getElem? (i := 935) (by decide +kernel), List.mem_of_getElem? (i := 936) (by decide +kernel)⟩
theorem lw_p36 : lw_okq (⟨"SummerWallModel", "isSummer", "()Z"⟩, 20) := ⟨⟨by decide +kernel, by decide +kernel⟩, List.mem_of_getElem? (i := 785) (by decide +kernel), List.mem_of_getElem? (i := 949) (by decide +kernel), List.mem_of_getElem? (i := 950) (by decide +kernel)⟩
theorem lw_p37 : lw_okq (⟨"SummerWallModel", "notes", "()V"⟩, 20) := ⟨⟨by decide +kernel, by decide +kernel⟩, List.mem_of_getElem? (i := 785) (by decide +kernel), List.mem_of_getElem? (i := 953) (by decide +kernel), List.mem_of_getElem? (i := 954) (by decide +kernel)⟩
theorem lw_p38 : lw_okq (⟨"SummerWallModel", "goesBy", "(I)I"⟩, 20) := ⟨⟨by decide +kernel, by decide +kernel⟩, List.mem_of_getElem? (i := 785) (by decide +kernel), List.mem_of_getElem? (i := 957) (by decide +kernel), List.mem_of_getElem? (i := 958) (by decide +kernel)⟩
theorem lw_p39 : lw_okq (⟨"SummerWallModel", "behind", "(III)I"⟩, 20) := ⟨⟨by decide +kernel, by decide +kernel⟩, List.mem_of_getElem? (i := 785) (by decide +kernel), List.mem_of_getElem? (i := 961) (by decide +kernel), List.mem_of_getElem? (i := 962) (by decide +kernel)⟩
theorem lw_p40 : lw_okq (⟨"SummerWallModel", "isHindrance", "(I)Z"⟩, 20) := ⟨⟨by decide +kernel, by decide +kernel⟩, List.mem_of_getElem? (i := 785) (by decide +kernel), List.mem_of_getElem? (i := 969) (by decide +kernel), List.mem_of_getElem? (i := 970) (by decide +kernel)⟩
theorem lw_p41 : lw_okq (⟨"SummerWallModel", "isUsed", "(I)Z"⟩, 20) := ⟨⟨by decide +kernel, by decide +kernel⟩, List.mem_of_getElem? (i := 785) (by decide +kernel), List.mem_of_getElem? (i := 973) (by decide +kernel), List.mem_of_getElem? (i := 974) (by decide +kernel)⟩
theorem lw_p42 : lw_okq (⟨"SummerWallModel", "costOf", "(I)I"⟩, 20) := ⟨⟨by decide +kernel, by decide +kernel⟩, List.mem_of_getElem? (i := 785) (by decide +kernel), List.mem_of_getElem? (i := 977) (by decide +kernel), List.mem_of_getElem? (i := 978) (by decide +kernel)⟩
theorem lw_p43 : lw_okq (⟨"SummerWallModel", "breaks", "(I)Z"⟩, 20) := ⟨⟨by decide +kernel, by decide +kernel⟩, List.mem_of_getElem? (i := 785) (by decide +kernel), List.mem_of_getElem? (i := 981) (by decide +kernel), List.mem_of_getElem? (i := 982) (by decide +kernel)⟩
theorem lw_p44 : lw_okq (⟨"SummerWallModel", "oathOf", "(I)I"⟩, 20) := ⟨⟨by decide +kernel, by decide +kernel⟩, List.mem_of_getElem? (i := 785) (by decide +kernel), List.mem_of_getElem? (i := 985) (by decide +kernel), List.mem_of_getElem? (i := 986) (by decide +kernel)⟩
theorem lw_p45 : lw_okq (⟨"SummerWallModel", "oddsBy", "(II)I"⟩, 20) := ⟨⟨by decide +kernel, by decide +kernel⟩, List.mem_of_getElem? (i := 785) (by decide +kernel), List.mem_of_getElem? (i := 1009) (by decide +kernel), List.mem_of_getElem? (i := 1010) (by decide +kernel)⟩
theorem lw_p46 : lw_okq (⟨"SummerWallModel", "fills", "(IIIII)V"⟩, 20) := ⟨⟨by decide +kernel, by decide +kernel⟩, List.mem_of_getElem? (i := 785) (by decide +kernel), List.mem_of_getElem? (i := 1013) (by decide +kernel), List.mem_of_getElem? (i := 1014) (by decide +kernel)⟩
theorem lw_p47 : lw_okq (⟨"SummerWallModel", "mixed", "(III)I"⟩, 20) := ⟨⟨by decide +kernel, by decide +kernel⟩, List.mem_of_getElem? (i := 785) (by decide +kernel), List.mem_of_getElem? (i := 1018) (by decide +kernel), List.mem_of_getElem? (i := 1019) (by decide +kernel)⟩
def lw_privs_3 : List (MethodName × Nat) := [(⟨"SummerWallModel", "takes", "(I)V"⟩, 20), (⟨"SummerWallModel", "readBuilders", "()I"⟩, 20), (⟨"SummerWallModel", "digit", "(II)I"⟩, 20), (⟨"SummerWallModel", "readHindrances", "()I"⟩, 20), (⟨"SummerWallModel", "isSummer", "()Z"⟩, 20), (⟨"SummerWallModel", "notes", "()V"⟩, 20), (⟨"SummerWallModel", "goesBy", "(I)I"⟩, 20), (⟨"SummerWallModel", "behind", "(III)I"⟩, 20), (⟨"SummerWallModel", "isHindrance", "(I)Z"⟩, 20), (⟨"SummerWallModel", "isUsed", "(I)Z"⟩, 20), (⟨"SummerWallModel", "costOf", "(I)I"⟩, 20), (⟨"SummerWallModel", "breaks", "(I)Z"⟩, 20), (⟨"SummerWallModel", "oathOf", "(I)I"⟩, 20), (⟨"SummerWallModel", "oddsBy", "(II)I"⟩, 20), (⟨"SummerWallModel", "fills", "(IIIII)V"⟩, 20), (⟨"SummerWallModel", "mixed", "(III)I"⟩, 20)]
theorem lw_r3 : ∀ q ∈ lw_privs_3, lw_okq q := List.forall_mem_cons.mpr ⟨lw_p32, List.forall_mem_cons.mpr ⟨lw_p33, List.forall_mem_cons.mpr ⟨lw_p34, List.forall_mem_cons.mpr ⟨lw_p35, List.forall_mem_cons.mpr ⟨lw_p36, List.forall_mem_cons.mpr ⟨lw_p37, List.forall_mem_cons.mpr ⟨lw_p38, List.forall_mem_cons.mpr ⟨lw_p39, List.forall_mem_cons.mpr ⟨lw_p40, List.forall_mem_cons.mpr ⟨lw_p41, List.forall_mem_cons.mpr ⟨lw_p42, List.forall_mem_cons.mpr ⟨lw_p43, List.forall_mem_cons.mpr ⟨lw_p44, List.forall_mem_cons.mpr ⟨lw_p45, List.forall_mem_cons.mpr ⟨lw_p46, List.forall_mem_cons.mpr ⟨lw_p47, fun _ h => absurd h List.not_mem_nil⟩⟩⟩⟩⟩⟩⟩⟩⟩⟩⟩⟩⟩⟩⟩⟩
theorem lw_p48 : lw_okq (⟨"SummerWallModel", "shares", "(I)V"⟩, 20) := ⟨⟨by decide +kernel, by decide +kernel⟩, List.mem_of_getElem? (i := 785) (by decide +kernel), List.mem_of_getElem? (i := 1058) (by decide +kernel), List.mem_of_getElem? (i := 1059) (by decide +kernel)⟩
theorem lw_p49 : lw_okq (⟨"SummerWallModel", "why", "(IIII)I"⟩, 20) := ⟨⟨by decide +kernel, by decide +kernel⟩, List.mem_of_getElem? (i := 785) (by decide +kernel), List.mem_of_getElem? (i := 1082) (by decide +kernel), List.mem_of_getElem? (i := 1083) (by decide +kernel)⟩
def lw_privs_4 : List (MethodName × Nat) := [(⟨"SummerWallModel", "shares", "(I)V"⟩, 20), (⟨"SummerWallModel", "why", "(IIII)I"⟩, 20)]
theorem lw_r4 : ∀ q ∈ lw_privs_4, lw_okq q := List.forall_mem_cons.mpr ⟨lw_p48, List.forall_mem_cons.mpr ⟨lw_p49, fun _ h => absurd h List.not_mem_nil⟩⟩
def lw_privs : List (MethodName × Nat) := lw_privs_1 ++ (lw_privs_2 ++ (lw_privs_3 ++ (lw_privs_4)))
def lw_tbl : List Cond := k2_sels lw_privs ++ tables_1
theorem lw_privs_ok : ∀ q ∈ lw_privs, lw_okq q := by
  show ∀ q ∈ lw_privs_1 ++ (lw_privs_2 ++ (lw_privs_3 ++ (lw_privs_4))), lw_okq q
  exact List.forall_mem_append.mpr ⟨lw_r1, List.forall_mem_append.mpr ⟨lw_r2, List.forall_mem_append.mpr ⟨lw_r3, lw_r4⟩⟩⟩
def RX0 : String := "SummerWall$Blind"
def TX0 : u_T := fun k => match k with
  | 0 => ("SummerWall$Plain", "pace", "I", true)
  | _ => ("SummerWall$Plain", "horse", "I", true)
def tyX0 : Nat → FieldType := fun k => match k with
  | 0 => .int
  | _ => .int
abbrev wsX00 : List Cond := u_ws RX0 TX0 2
theorem nmX0 : ∀ a, a < 2 → ∀ b, b < 2 → a ≠ b → (TX0 a).2.1 ≠ (TX0 b).2.1 := by decide +kernel
theorem tyX0_ok : ∀ k, k < 2 → parseFieldDescriptor (TX0 k).2.2.1 = some (tyX0 k) := by decide +kernel
abbrev cX0_init : ByteArray := prog_2_method_1_code
def yX0_init : MethodName := ⟨RX0, "<init>", "(II)V"⟩
abbrev cX0_kind : ByteArray := prog_2_method_2_code
def yX0_kind : MethodName := ⟨RX0, "kind", "()I"⟩
abbrev cX0_laysInFrost : ByteArray := prog_2_method_3_code
def yX0_laysInFrost : MethodName := ⟨RX0, "laysInFrost", "(I)I"⟩
def RX1 : String := "SummerWall$Foretold"
def TX1 : u_T := fun k => match k with
  | 0 => ("SummerWall$Foretold", "lays", "[I", true)
  | 1 => ("SummerWall$Foretold", "behind", "[I", true)
  | 2 => ("SummerWall$Foretold", "behindHindered", "[I", true)
  | 3 => ("SummerWall$Foretold", "odds", "[I", true)
  | 4 => ("SummerWall$Foretold", "oddsHindered", "[I", true)
  | 5 => ("SummerWall$Foretold", "fairPath", "[I", true)
  | 6 => ("SummerWall$Foretold", "parts", "[I", true)
  | 7 => ("SummerWall$Foretold", "stones", "I", false)
  | 8 => ("SummerWall$Foretold", "days", "I", false)
  | 9 => ("SummerWall$Foretold", "frost", "I", false)
  | 10 => ("SummerWall$Foretold", "thaw", "I", false)
  | 11 => ("SummerWall$Foretold", "day", "I", false)
  | 12 => ("SummerWall$Foretold", "laid", "I", false)
  | 13 => ("SummerWall$Foretold", "cost", "I", false)
  | 14 => ("SummerWall$Foretold", "bestDay", "I", false)
  | _ => ("SummerWall$Foretold", "bestOdds", "I", false)
def tyX1 : Nat → FieldType := fun k => match k with
  | 0 => .array .int
  | 1 => .array .int
  | 2 => .array .int
  | 3 => .array .int
  | 4 => .array .int
  | 5 => .array .int
  | 6 => .array .int
  | 7 => .int
  | 8 => .int
  | 9 => .int
  | 10 => .int
  | 11 => .int
  | 12 => .int
  | 13 => .int
  | 14 => .int
  | _ => .int
abbrev wsX10 : List Cond := u_ws RX1 TX1 16
theorem nmX1 : ∀ a, a < 16 → ∀ b, b < 16 → a ≠ b → (TX1 a).2.1 ≠ (TX1 b).2.1 := by decide +kernel
theorem tyX1_ok : ∀ k, k < 16 → parseFieldDescriptor (TX1 k).2.2.1 = some (tyX1 k) := by decide +kernel
abbrev cX1_init : ByteArray := prog_3_method_1_code
def yX1_init : MethodName := ⟨RX1, "<init>", "()V"⟩
abbrev cX1_oddsNow : ByteArray := prog_3_method_2_code
def yX1_oddsNow : MethodName := ⟨RX1, "oddsNow", "(LSummerWall$Site;II)I"⟩
abbrev cX1_oddsFrom : ByteArray := prog_3_method_3_code
def yX1_oddsFrom : MethodName := ⟨RX1, "oddsFrom", "(LSummerWall$Site;II)I"⟩
abbrev cX1_firstSureDay : ByteArray := prog_3_method_4_code
def yX1_firstSureDay : MethodName := ⟨RX1, "firstSureDay", "(LSummerWall$Site;I)I"⟩
abbrev cX1_fewestHindrances : ByteArray := prog_3_method_5_code
def yX1_fewestHindrances : MethodName := ⟨RX1, "fewestHindrances", "(LSummerWall$Site;I)I"⟩
abbrev cX1_findBestDay : ByteArray := prog_3_method_6_code
def yX1_findBestDay : MethodName := ⟨RX1, "findBestDay", "(LSummerWall$Site;I)V"⟩
abbrev cX1_oddsIfHindered : ByteArray := prog_3_method_7_code
def yX1_oddsIfHindered : MethodName := ⟨RX1, "oddsIfHindered", "(I)I"⟩
abbrev cX1_sumOfLaid : ByteArray := prog_3_method_8_code
def yX1_sumOfLaid : MethodName := ⟨RX1, "sumOfLaid", "(LSummerWall$Site;I)I"⟩
abbrev cX1_spread : ByteArray := prog_3_method_9_code
def yX1_spread : MethodName := ⟨RX1, "spread", "(I)V"⟩
abbrev cX1_look : ByteArray := prog_3_method_10_code
def yX1_look : MethodName := ⟨RX1, "look", "(LSummerWall$Site;III)V"⟩
abbrev cX1_reckonLays : ByteArray := prog_3_method_11_code
def yX1_reckonLays : MethodName := ⟨RX1, "reckonLays", "(LSummerWall$Site;II)V"⟩
abbrev cX1_fillBehind : ByteArray := prog_3_method_12_code
def yX1_fillBehind : MethodName := ⟨RX1, "fillBehind", "([II)V"⟩
abbrev cX1_laidBehind : ByteArray := prog_3_method_13_code
def yX1_laidBehind : MethodName := ⟨RX1, "laidBehind", "(III)I"⟩
abbrev cX1_startAtSummer : ByteArray := prog_3_method_14_code
def yX1_startAtSummer : MethodName := ⟨RX1, "startAtSummer", "()V"⟩
abbrev cX1_goBackToTomorrow : ByteArray := prog_3_method_15_code
def yX1_goBackToTomorrow : MethodName := ⟨RX1, "goBackToTomorrow", "()V"⟩
abbrev cX1_stepBack : ByteArray := prog_3_method_16_code
def yX1_stepBack : MethodName := ⟨RX1, "stepBack", "([I[II)V"⟩
abbrev cX1_oddsToday : ByteArray := prog_3_method_17_code
def yX1_oddsToday : MethodName := ⟨RX1, "oddsToday", "([II)I"⟩
def RX2 : String := "SummerWall$Giant"
def TX2 : u_T := fun k => match k with
  | 0 => ("SummerWall$Plain", "pace", "I", true)
  | _ => ("SummerWall$Plain", "horse", "I", true)
def tyX2 : Nat → FieldType := fun k => match k with
  | 0 => .int
  | _ => .int
abbrev wsX20 : List Cond := u_ws RX2 TX2 2
theorem nmX2 : ∀ a, a < 2 → ∀ b, b < 2 → a ≠ b → (TX2 a).2.1 ≠ (TX2 b).2.1 := by decide +kernel
theorem tyX2_ok : ∀ k, k < 2 → parseFieldDescriptor (TX2 k).2.2.1 = some (tyX2 k) := by decide +kernel
abbrev cX2_init : ByteArray := prog_4_method_1_code
def yX2_init : MethodName := ⟨RX2, "<init>", "(II)V"⟩
abbrev cX2_kind : ByteArray := prog_4_method_2_code
def yX2_kind : MethodName := ⟨RX2, "kind", "()I"⟩
abbrev cX2_hauls : ByteArray := prog_4_method_3_code
def yX2_hauls : MethodName := ⟨RX2, "hauls", "(II)I"⟩
abbrev cX2_laysInThaw : ByteArray := prog_4_method_4_code
def yX2_laysInThaw : MethodName := ⟨RX2, "laysInThaw", "(I)I"⟩
def RX3 : String := "SummerWall$Horsed"
def TX3 : u_T := fun k => match k with
  | 0 => ("SummerWall$Plain", "pace", "I", true)
  | _ => ("SummerWall$Plain", "horse", "I", true)
def tyX3 : Nat → FieldType := fun k => match k with
  | 0 => .int
  | _ => .int
abbrev wsX30 : List Cond := u_ws RX3 TX3 2
theorem nmX3 : ∀ a, a < 2 → ∀ b, b < 2 → a ≠ b → (TX3 a).2.1 ≠ (TX3 b).2.1 := by decide +kernel
theorem tyX3_ok : ∀ k, k < 2 → parseFieldDescriptor (TX3 k).2.2.1 = some (tyX3 k) := by decide +kernel
abbrev cX3_init : ByteArray := prog_5_method_1_code
def yX3_init : MethodName := ⟨RX3, "<init>", "(II)V"⟩
abbrev cX3_kind : ByteArray := prog_5_method_2_code
def yX3_kind : MethodName := ⟨RX3, "kind", "()I"⟩
abbrev cX3_hauls : ByteArray := prog_5_method_3_code
def yX3_hauls : MethodName := ⟨RX3, "hauls", "(II)I"⟩
def RX4 : String := "SummerWall$Paid"
def TX4 : u_T := fun k => match k with
  | 0 => ("SummerWall$Plain", "pace", "I", true)
  | _ => ("SummerWall$Plain", "horse", "I", true)
def tyX4 : Nat → FieldType := fun k => match k with
  | 0 => .int
  | _ => .int
abbrev wsX40 : List Cond := u_ws RX4 TX4 2
theorem nmX4 : ∀ a, a < 2 → ∀ b, b < 2 → a ≠ b → (TX4 a).2.1 ≠ (TX4 b).2.1 := by decide +kernel
theorem tyX4_ok : ∀ k, k < 2 → parseFieldDescriptor (TX4 k).2.2.1 = some (tyX4 k) := by decide +kernel
abbrev cX4_init : ByteArray := prog_6_method_1_code
def yX4_init : MethodName := ⟨RX4, "<init>", "(II)V"⟩
abbrev cX4_kind : ByteArray := prog_6_method_2_code
def yX4_kind : MethodName := ⟨RX4, "kind", "()I"⟩
abbrev cX4_hauls : ByteArray := prog_6_method_3_code
def yX4_hauls : MethodName := ⟨RX4, "hauls", "(II)I"⟩
def RX5 : String := "SummerWall$Plain"
def TX5 : u_T := fun k => match k with
  | 0 => ("SummerWall$Plain", "pace", "I", true)
  | _ => ("SummerWall$Plain", "horse", "I", true)
def tyX5 : Nat → FieldType := fun k => match k with
  | 0 => .int
  | _ => .int
abbrev wsX50 : List Cond := u_ws RX5 TX5 2
theorem nmX5 : ∀ a, a < 2 → ∀ b, b < 2 → a ≠ b → (TX5 a).2.1 ≠ (TX5 b).2.1 := by decide +kernel
theorem tyX5_ok : ∀ k, k < 2 → parseFieldDescriptor (TX5 k).2.2.1 = some (tyX5 k) := by decide +kernel
abbrev cX5_init : ByteArray := prog_7_method_1_code
def yX5_init : MethodName := ⟨RX5, "<init>", "(II)V"⟩
abbrev cX5_ofKind : ByteArray := prog_7_method_2_code
def yX5_ofKind : MethodName := ⟨RX5, "ofKind", "(III)LSummerWall$Plain;"⟩
abbrev cX5_kind : ByteArray := prog_7_method_3_code
def yX5_kind : MethodName := ⟨RX5, "kind", "()I"⟩
abbrev cX5_hauls : ByteArray := prog_7_method_4_code
def yX5_hauls : MethodName := ⟨RX5, "hauls", "(II)I"⟩
abbrev cX5_laysInFrost : ByteArray := prog_7_method_5_code
def yX5_laysInFrost : MethodName := ⟨RX5, "laysInFrost", "(I)I"⟩
abbrev cX5_laysInThaw : ByteArray := prog_7_method_6_code
def yX5_laysInThaw : MethodName := ⟨RX5, "laysInThaw", "(I)I"⟩
abbrev cX5_lays : ByteArray := prog_7_method_7_code
def yX5_lays : MethodName := ⟨RX5, "lays", "(III)I"⟩
def RX6 : String := "SummerWall$Sheet"
def TX6 : u_T := fun k => match k with
  | 0 => ("SummerWall$Sheet", "held", "Z", false)
  | 1 => ("SummerWall$Sheet", "lane", "I", false)
  | 2 => ("SummerWall$Sheet", "size", "I", false)
  | _ => ("SummerWall$Sheet", "items", "[J", true)
def tyX6 : Nat → FieldType := fun k => match k with
  | 0 => .boolean
  | 1 => .int
  | 2 => .int
  | _ => .array .long
abbrev wsX60 : List Cond := u_ws RX6 TX6 4
theorem nmX6 : ∀ a, a < 4 → ∀ b, b < 4 → a ≠ b → (TX6 a).2.1 ≠ (TX6 b).2.1 := by decide +kernel
theorem tyX6_ok : ∀ k, k < 4 → parseFieldDescriptor (TX6 k).2.2.1 = some (tyX6 k) := by decide +kernel
abbrev cX6_init : ByteArray := prog_8_method_1_code
def yX6_init : MethodName := ⟨RX6, "<init>", "()V"⟩
abbrev cX6_renew : ByteArray := prog_8_method_2_code
def yX6_renew : MethodName := ⟨RX6, "renew", "(II)V"⟩
abbrev cX6_find : ByteArray := prog_8_method_3_code
def yX6_find : MethodName := ⟨RX6, "find", "(III)I"⟩
abbrev cX6_has : ByteArray := prog_8_method_4_code
def yX6_has : MethodName := ⟨RX6, "has", "(II)Z"⟩
abbrev cX6_put : ByteArray := prog_8_method_5_code
def yX6_put : MethodName := ⟨RX6, "put", "(IJ)V"⟩
abbrev cX6_cut : ByteArray := prog_8_method_6_code
def yX6_cut : MethodName := ⟨RX6, "cut", "(J)J"⟩
def RX7 : String := "SummerWall$Site"
def TX7 : u_T := fun k => match k with
  | 0 => ("SummerWall$Site", "stones", "I", false)
  | 1 => ("SummerWall$Site", "days", "I", false)
  | 2 => ("SummerWall$Site", "frost", "I", false)
  | 3 => ("SummerWall$Site", "thaw", "I", false)
  | 4 => ("SummerWall$Site", "day", "I", false)
  | 5 => ("SummerWall$Site", "laid", "I", false)
  | 6 => ("SummerWall$Site", "used", "I", false)
  | 7 => ("SummerWall$Site", "usedToday", "I", false)
  | 8 => ("SummerWall$Site", "broken", "I", false)
  | 9 => ("SummerWall$Site", "sworn", "I", false)
  | 10 => ("SummerWall$Site", "draw", "I", false)
  | 11 => ("SummerWall$Site", "builderCount", "I", false)
  | 12 => ("SummerWall$Site", "hindranceCount", "I", false)
  | 13 => ("SummerWall$Site", "pastCount", "I", false)
  | 14 => ("SummerWall$Site", "builders", "[LSummerWall$Plain;", true)
  | 15 => ("SummerWall$Site", "costs", "[I", true)
  | 16 => ("SummerWall$Site", "oaths", "[I", true)
  | _ => ("SummerWall$Site", "past", "[I", true)
def tyX7 : Nat → FieldType := fun k => match k with
  | 0 => .int
  | 1 => .int
  | 2 => .int
  | 3 => .int
  | 4 => .int
  | 5 => .int
  | 6 => .int
  | 7 => .int
  | 8 => .int
  | 9 => .int
  | 10 => .int
  | 11 => .int
  | 12 => .int
  | 13 => .int
  | 14 => .array (.object "SummerWall$Plain")
  | 15 => .array .int
  | 16 => .array .int
  | _ => .array .int
abbrev wsX70 : List Cond := u_ws RX7 TX7 18
theorem nmX7 : ∀ a, a < 18 → ∀ b, b < 18 → a ≠ b → (TX7 a).2.1 ≠ (TX7 b).2.1 := by decide +kernel
theorem tyX7_ok : ∀ k, k < 18 → parseFieldDescriptor (TX7 k).2.2.1 = some (tyX7 k) := by decide +kernel
abbrev cX7_init : ByteArray := prog_9_method_1_code
def yX7_init : MethodName := ⟨RX7, "<init>", "()V"⟩
abbrev cX7_isSummer : ByteArray := prog_9_method_2_code
def yX7_isSummer : MethodName := ⟨RX7, "isSummer", "()Z"⟩
abbrev cX7_isUsed : ByteArray := prog_9_method_3_code
def yX7_isUsed : MethodName := ⟨RX7, "isUsed", "(I)Z"⟩
abbrev cX7_addBuilder : ByteArray := prog_9_method_4_code
def yX7_addBuilder : MethodName := ⟨RX7, "addBuilder", "(III)V"⟩
abbrev cX7_addHindrance : ByteArray := prog_9_method_5_code
def yX7_addHindrance : MethodName := ⟨RX7, "addHindrance", "(II)V"⟩
abbrev cX7_layTogether : ByteArray := prog_9_method_6_code
def yX7_layTogether : MethodName := ⟨RX7, "layTogether", "(IIII)I"⟩
abbrev cX7_laidBehind : ByteArray := prog_9_method_7_code
def yX7_laidBehind : MethodName := ⟨RX7, "laidBehind", "(III)I"⟩
abbrev cX7_costOf : ByteArray := prog_9_method_8_code
def yX7_costOf : MethodName := ⟨RX7, "costOf", "(I)I"⟩
abbrev cX7_costToday : ByteArray := prog_9_method_9_code
def yX7_costToday : MethodName := ⟨RX7, "costToday", "()I"⟩
abbrev cX7_forbidden : ByteArray := prog_9_method_10_code
def yX7_forbidden : MethodName := ⟨RX7, "forbidden", "()I"⟩
abbrev cX7_breaksSworn : ByteArray := prog_9_method_11_code
def yX7_breaksSworn : MethodName := ⟨RX7, "breaksSworn", "(I)Z"⟩
abbrev cX7_hinder : ByteArray := prog_9_method_12_code
def yX7_hinder : MethodName := ⟨RX7, "hinder", "(I)V"⟩
abbrev cX7_pass : ByteArray := prog_9_method_13_code
def yX7_pass : MethodName := ⟨RX7, "pass", "(I)I"⟩
abbrev cX7_drawWeather : ByteArray := prog_9_method_14_code
def yX7_drawWeather : MethodName := ⟨RX7, "drawWeather", "()I"⟩
abbrev cX7_remember : ByteArray := prog_9_method_15_code
def yX7_remember : MethodName := ⟨RX7, "remember", "()V"⟩
abbrev cX7_recall : ByteArray := prog_9_method_16_code
def yX7_recall : MethodName := ⟨RX7, "recall", "()V"⟩
abbrev cX7_begin : ByteArray := prog_9_method_17_code
def yX7_begin : MethodName := ⟨RX7, "begin", "(LSummerWall$Tape;)V"⟩
abbrev cX7_becomes : ByteArray := prog_9_method_18_code
def yX7_becomes : MethodName := ⟨RX7, "becomes", "(LSummerWall$Site;)V"⟩
def RX8 : String := "SummerWall$Tape"
def TX8 : u_T := fun k => match k with
  | 0 => ("SummerWall$Tape", "letters", "[C", true)
  | 1 => ("SummerWall$Tape", "kinds", "[I", true)
  | 2 => ("SummerWall$Tape", "paces", "[I", true)
  | 3 => ("SummerWall$Tape", "horses", "[I", true)
  | 4 => ("SummerWall$Tape", "costs", "[I", true)
  | 5 => ("SummerWall$Tape", "oaths", "[I", true)
  | 6 => ("SummerWall$Tape", "length", "I", false)
  | 7 => ("SummerWall$Tape", "stones", "I", false)
  | 8 => ("SummerWall$Tape", "days", "I", false)
  | 9 => ("SummerWall$Tape", "builderCount", "I", false)
  | 10 => ("SummerWall$Tape", "hindranceCount", "I", false)
  | 11 => ("SummerWall$Tape", "fault", "I", false)
  | _ => ("SummerWall$Tape", "at", "I", false)
def tyX8 : Nat → FieldType := fun k => match k with
  | 0 => .array .char
  | 1 => .array .int
  | 2 => .array .int
  | 3 => .array .int
  | 4 => .array .int
  | 5 => .array .int
  | 6 => .int
  | 7 => .int
  | 8 => .int
  | 9 => .int
  | 10 => .int
  | 11 => .int
  | _ => .int
abbrev wsX80 : List Cond := u_ws RX8 TX8 13
theorem nmX8 : ∀ a, a < 13 → ∀ b, b < 13 → a ≠ b → (TX8 a).2.1 ≠ (TX8 b).2.1 := by decide +kernel
theorem tyX8_ok : ∀ k, k < 13 → parseFieldDescriptor (TX8 k).2.2.1 = some (tyX8 k) := by decide +kernel
abbrev cX8_init : ByteArray := prog_10_method_1_code
def yX8_init : MethodName := ⟨RX8, "<init>", "()V"⟩
abbrev cX8_append : ByteArray := prog_10_method_2_code
def yX8_append : MethodName := ⟨RX8, "append", "(C)V"⟩
abbrev cX8_read : ByteArray := prog_10_method_3_code
def yX8_read : MethodName := ⟨RX8, "read", "()Z"⟩
abbrev cX8_readBuilders : ByteArray := prog_10_method_4_code
def yX8_readBuilders : MethodName := ⟨RX8, "readBuilders", "()Z"⟩
abbrev cX8_readBuilder : ByteArray := prog_10_method_5_code
def yX8_readBuilder : MethodName := ⟨RX8, "readBuilder", "()Z"⟩
abbrev cX8_readHindrances : ByteArray := prog_10_method_6_code
def yX8_readHindrances : MethodName := ⟨RX8, "readHindrances", "()Z"⟩
abbrev cX8_readHindrance : ByteArray := prog_10_method_7_code
def yX8_readHindrance : MethodName := ⟨RX8, "readHindrance", "()Z"⟩
abbrev cX8_readNumber : ByteArray := prog_10_method_8_code
def yX8_readNumber : MethodName := ⟨RX8, "readNumber", "(I)I"⟩
abbrev cX8_readDigit : ByteArray := prog_10_method_9_code
def yX8_readDigit : MethodName := ⟨RX8, "readDigit", "(I)I"⟩
abbrev cX8_readSign : ByteArray := prog_10_method_10_code
def yX8_readSign : MethodName := ⟨RX8, "readSign", "(C)Z"⟩
abbrev cX8_next : ByteArray := prog_10_method_11_code
def yX8_next : MethodName := ⟨RX8, "next", "()C"⟩
abbrev cX8_failAt : ByteArray := prog_10_method_12_code
def yX8_failAt : MethodName := ⟨RX8, "failAt", "(I)Z"⟩
abbrev cX8_isDigit : ByteArray := prog_10_method_13_code
def yX8_isDigit : MethodName := ⟨RX8, "isDigit", "(C)Z"⟩
abbrev cX8_kindOf : ByteArray := prog_10_method_14_code
def yX8_kindOf : MethodName := ⟨RX8, "kindOf", "(C)I"⟩
def RX9 : String := "SummerWall"
def TX9 : u_T := fun k => match k with
  | 0 => ("SummerWall", "now", "LSummerWall$Site;", true)
  | 1 => ("SummerWall", "kept", "LSummerWall$Site;", true)
  | 2 => ("SummerWall", "tape", "LSummerWall$Tape;", true)
  | 3 => ("SummerWall", "foretold", "LSummerWall$Foretold;", true)
  | 4 => ("SummerWall", "sheets", "[LSummerWall$Sheet;", true)
  | _ => ("SummerWall", "imaged", "Z", false)
def tyX9 : Nat → FieldType := fun k => match k with
  | 0 => .object "SummerWall$Site"
  | 1 => .object "SummerWall$Site"
  | 2 => .object "SummerWall$Tape"
  | 3 => .object "SummerWall$Foretold"
  | 4 => .array (.object "SummerWall$Sheet")
  | _ => .boolean
abbrev wsX90 : List Cond := u_ws RX9 TX9 6
theorem nmX9 : ∀ a, a < 6 → ∀ b, b < 6 → a ≠ b → (TX9 a).2.1 ≠ (TX9 b).2.1 := by decide +kernel
theorem tyX9_ok : ∀ k, k < 6 → parseFieldDescriptor (TX9 k).2.2.1 = some (tyX9 k) := by decide +kernel
abbrev cX9_init : ByteArray := prog_1_method_1_code
def yX9_init : MethodName := ⟨RX9, "<init>", "()V"⟩
abbrev cX9_builder : ByteArray := prog_1_method_2_code
def yX9_builder : MethodName := ⟨RX9, "builder", "(III)I"⟩
abbrev cX9_of : ByteArray := prog_1_method_3_code
def yX9_of : MethodName := ⟨RX9, "of", "(II)I"⟩
abbrev cX9_wall : ByteArray := prog_1_method_4_code
def yX9_wall : MethodName := ⟨RX9, "wall", "(II)I"⟩
abbrev cX9_changeStones : ByteArray := prog_1_method_5_code
def yX9_changeStones : MethodName := ⟨RX9, "changeStones", "(I)I"⟩
abbrev cX9_changeDays : ByteArray := prog_1_method_6_code
def yX9_changeDays : MethodName := ⟨RX9, "changeDays", "(I)I"⟩
abbrev cX9_changeFrost : ByteArray := prog_1_method_7_code
def yX9_changeFrost : MethodName := ⟨RX9, "changeFrost", "(I)I"⟩
abbrev cX9_changeThaw : ByteArray := prog_1_method_8_code
def yX9_changeThaw : MethodName := ⟨RX9, "changeThaw", "(I)I"⟩
abbrev cX9_hindrance : ByteArray := prog_1_method_9_code
def yX9_hindrance : MethodName := ⟨RX9, "hindrance", "(II)I"⟩
abbrev cX9_oath : ByteArray := prog_1_method_10_code
def yX9_oath : MethodName := ⟨RX9, "oath", "(II)I"⟩
abbrev cX9_type : ByteArray := prog_1_method_11_code
def yX9_type : MethodName := ⟨RX9, "type", "(I)I"⟩
abbrev cX9_bargain : ByteArray := prog_1_method_12_code
def yX9_bargain : MethodName := ⟨RX9, "bargain", "()I"⟩
abbrev cX9_count : ByteArray := prog_1_method_13_code
def yX9_count : MethodName := ⟨RX9, "count", "(I)I"⟩
abbrev cX9_day : ByteArray := prog_1_method_14_code
def yX9_day : MethodName := ⟨RX9, "day", "(I)I"⟩
abbrev cX9_use : ByteArray := prog_1_method_15_code
def yX9_use : MethodName := ⟨RX9, "use", "(I)I"⟩
abbrev cX9_drift : ByteArray := prog_1_method_16_code
def yX9_drift : MethodName := ⟨RX9, "drift", "(I)I"⟩
abbrev cX9_undo : ByteArray := prog_1_method_17_code
def yX9_undo : MethodName := ⟨RX9, "undo", "()I"⟩
abbrev cX9_seed : ByteArray := prog_1_method_18_code
def yX9_seed : MethodName := ⟨RX9, "seed", "(I)I"⟩
abbrev cX9_odds : ByteArray := prog_1_method_19_code
def yX9_odds : MethodName := ⟨RX9, "odds", "()I"⟩
abbrev cX9_oddsAt : ByteArray := prog_1_method_20_code
def yX9_oddsAt : MethodName := ⟨RX9, "oddsAt", "(II)I"⟩
abbrev cX9_sure : ByteArray := prog_1_method_21_code
def yX9_sure : MethodName := ⟨RX9, "sure", "(I)I"⟩
abbrev cX9_pace : ByteArray := prog_1_method_22_code
def yX9_pace : MethodName := ⟨RX9, "pace", "(II)I"⟩
abbrev cX9_plan : ByteArray := prog_1_method_23_code
def yX9_plan : MethodName := ⟨RX9, "plan", "(II)I"⟩
abbrev cX9_best : ByteArray := prog_1_method_24_code
def yX9_best : MethodName := ⟨RX9, "best", "(II)I"⟩
abbrev cX9_soonest : ByteArray := prog_1_method_25_code
def yX9_soonest : MethodName := ⟨RX9, "soonest", "(I)I"⟩
abbrev cX9_mean : ByteArray := prog_1_method_26_code
def yX9_mean : MethodName := ⟨RX9, "mean", "(II)I"⟩
abbrev cX9_image : ByteArray := prog_1_method_27_code
def yX9_image : MethodName := ⟨RX9, "image", "()I"⟩
abbrev cX9_restore : ByteArray := prog_1_method_28_code
def yX9_restore : MethodName := ⟨RX9, "restore", "()I"⟩
abbrev cX9_weather : ByteArray := prog_1_method_29_code
def yX9_weather : MethodName := ⟨RX9, "weather", "(IIIII)I"⟩
abbrev cX9_weatherOf : ByteArray := prog_1_method_30_code
def yX9_weatherOf : MethodName := ⟨RX9, "weatherOf", "([JIII)I"⟩
abbrev cX9_fittingWeathers : ByteArray := prog_1_method_31_code
def yX9_fittingWeathers : MethodName := ⟨RX9, "fittingWeathers", "(IJI)I"⟩
abbrev cX9_film : ByteArray := prog_1_method_32_code
def yX9_film : MethodName := ⟨RX9, "film", "(IIIII)I"⟩
abbrev cX9_sheet : ByteArray := prog_1_method_33_code
def yX9_sheet : MethodName := ⟨RX9, "sheet", "(III)I"⟩
abbrev cX9_drop : ByteArray := prog_1_method_34_code
def yX9_drop : MethodName := ⟨RX9, "drop", "(I)I"⟩
abbrev cX9_item : ByteArray := prog_1_method_35_code
def yX9_item : MethodName := ⟨RX9, "item", "(IIIJ)I"⟩
abbrev cX9_copy : ByteArray := prog_1_method_36_code
def yX9_copy : MethodName := ⟨RX9, "copy", "(IIIII)I"⟩
abbrev cX9_within : ByteArray := prog_1_method_37_code
def yX9_within : MethodName := ⟨RX9, "within", "(III)Z"⟩
abbrev cX9_isSheet : ByteArray := prog_1_method_38_code
def yX9_isSheet : MethodName := ⟨RX9, "isSheet", "(I)Z"⟩
abbrev cX9_isLane : ByteArray := prog_1_method_39_code
def yX9_isLane : MethodName := ⟨RX9, "isLane", "(I)Z"⟩
abbrev cX9_commonDivisor : ByteArray := prog_1_method_40_code
def yX9_commonDivisor : MethodName := ⟨RX9, "commonDivisor", "(II)I"⟩
def RX10 : String := "SummerWallModel"
def TX10 : u_T := fun k => match k with
  | 0 => ("SummerWallModel", "now", "[I", true)
  | 1 => ("SummerWallModel", "faster", "I", false)
  | 2 => ("SummerWallModel", "by", "I", false)
  | 3 => ("SummerWallModel", "tape", "[I", true)
  | 4 => ("SummerWallModel", "typed", "I", false)
  | 5 => ("SummerWallModel", "place", "I", false)
  | 6 => ("SummerWallModel", "isFault", "Z", false)
  | 7 => ("SummerWallModel", "read", "[I", true)
  | 8 => ("SummerWallModel", "undone", "[I", true)
  | 9 => ("SummerWallModel", "undos", "I", false)
  | 10 => ("SummerWallModel", "chances", "[I", true)
  | 11 => ("SummerWallModel", "parts", "[I", true)
  | 12 => ("SummerWallModel", "nexts", "[I", true)
  | 13 => ("SummerWallModel", "kept", "[I", true)
  | 14 => ("SummerWallModel", "keptUndos", "I", false)
  | 15 => ("SummerWallModel", "isKept", "Z", false)
  | 16 => ("SummerWallModel", "lanes", "[I", true)
  | 17 => ("SummerWallModel", "sizes", "[I", true)
  | 18 => ("SummerWallModel", "items", "[J", true)
  | _ => ("SummerWallModel", "moved", "[J", true)
def tyX10 : Nat → FieldType := fun k => match k with
  | 0 => .array .int
  | 1 => .int
  | 2 => .int
  | 3 => .array .int
  | 4 => .int
  | 5 => .int
  | 6 => .boolean
  | 7 => .array .int
  | 8 => .array .int
  | 9 => .int
  | 10 => .array .int
  | 11 => .array .int
  | 12 => .array .int
  | 13 => .array .int
  | 14 => .int
  | 15 => .boolean
  | 16 => .array .int
  | 17 => .array .int
  | 18 => .array .long
  | _ => .array .long
abbrev wsX100 : List Cond := u_ws RX10 TX10 20
theorem nmX10 : ∀ a, a < 20 → ∀ b, b < 20 → a ≠ b → (TX10 a).2.1 ≠ (TX10 b).2.1 := by decide +kernel
theorem tyX10_ok : ∀ k, k < 20 → parseFieldDescriptor (TX10 k).2.2.1 = some (tyX10 k) := by decide +kernel
abbrev cX10_in : ByteArray := prog_12_method_2_code
def yX10_in : MethodName := ⟨RX10, "in", "(JJJ)Z"⟩
abbrev cX10_init : ByteArray := prog_12_method_3_code
def yX10_init : MethodName := ⟨RX10, "<init>", "()V"⟩
abbrev cX10_isBuilder : ByteArray := prog_12_method_4_code
def yX10_isBuilder : MethodName := ⟨RX10, "isBuilder", "(I)Z"⟩
abbrev cX10_isHindrance : ByteArray := prog_12_method_5_code
def yX10_isHindrance : MethodName := ⟨RX10, "isHindrance", "(I)Z"⟩
abbrev cX10_isWeather : ByteArray := prog_12_method_6_code
def yX10_isWeather : MethodName := ⟨RX10, "isWeather", "(I)Z"⟩
abbrev cX10_haulsOf : ByteArray := prog_12_method_7_code
def yX10_haulsOf : MethodName := ⟨RX10, "haulsOf", "(II)I"⟩
abbrev cX10_laysOf : ByteArray := prog_12_method_8_code
def yX10_laysOf : MethodName := ⟨RX10, "laysOf", "(III)I"⟩
abbrev cX10_behind : ByteArray := prog_12_method_9_code
def yX10_behind : MethodName := ⟨RX10, "behind", "(III)I"⟩
abbrev cX10_builder : ByteArray := prog_12_method_10_code
def yX10_builder : MethodName := ⟨RX10, "builder", "(III)I"⟩
abbrev cX10_of : ByteArray := prog_12_method_11_code
def yX10_of : MethodName := ⟨RX10, "of", "(II)I"⟩
abbrev cX10_wall : ByteArray := prog_12_method_12_code
def yX10_wall : MethodName := ⟨RX10, "wall", "(II)I"⟩
abbrev cX10_hindrance : ByteArray := prog_12_method_13_code
def yX10_hindrance : MethodName := ⟨RX10, "hindrance", "(II)I"⟩
abbrev cX10_oath : ByteArray := prog_12_method_14_code
def yX10_oath : MethodName := ⟨RX10, "oath", "(II)I"⟩
abbrev cX10_count : ByteArray := prog_12_method_15_code
def yX10_count : MethodName := ⟨RX10, "count", "(I)I"⟩
abbrev cX10_type : ByteArray := prog_12_method_16_code
def yX10_type : MethodName := ⟨RX10, "type", "(I)I"⟩
abbrev cX10_here : ByteArray := prog_12_method_17_code
def yX10_here : MethodName := ⟨RX10, "here", "()I"⟩
abbrev cX10_must : ByteArray := prog_12_method_18_code
def yX10_must : MethodName := ⟨RX10, "must", "(Z)V"⟩
abbrev cX10_takes : ByteArray := prog_12_method_19_code
def yX10_takes : MethodName := ⟨RX10, "takes", "(I)V"⟩
abbrev cX10_digit : ByteArray := prog_12_method_20_code
def yX10_digit : MethodName := ⟨RX10, "digit", "(II)I"⟩
abbrev cX10_number : ByteArray := prog_12_method_21_code
def yX10_number : MethodName := ⟨RX10, "number", "(II)I"⟩
abbrev cX10_readBuilders : ByteArray := prog_12_method_22_code
def yX10_readBuilders : MethodName := ⟨RX10, "readBuilders", "()I"⟩
abbrev cX10_readHindrances : ByteArray := prog_12_method_23_code
def yX10_readHindrances : MethodName := ⟨RX10, "readHindrances", "()I"⟩
abbrev cX10_bargain : ByteArray := prog_12_method_24_code
def yX10_bargain : MethodName := ⟨RX10, "bargain", "()I"⟩
abbrev cX10_notes : ByteArray := prog_12_method_25_code
def yX10_notes : MethodName := ⟨RX10, "notes", "()V"⟩
abbrev cX10_isSummer : ByteArray := prog_12_method_26_code
def yX10_isSummer : MethodName := ⟨RX10, "isSummer", "()Z"⟩
abbrev cX10_goesBy : ByteArray := prog_12_method_27_code
def yX10_goesBy : MethodName := ⟨RX10, "goesBy", "(I)I"⟩
abbrev cX10_day : ByteArray := prog_12_method_28_code
def yX10_day : MethodName := ⟨RX10, "day", "(I)I"⟩
abbrev cX10_costOf : ByteArray := prog_12_method_29_code
def yX10_costOf : MethodName := ⟨RX10, "costOf", "(I)I"⟩
abbrev cX10_oathOf : ByteArray := prog_12_method_30_code
def yX10_oathOf : MethodName := ⟨RX10, "oathOf", "(I)I"⟩
abbrev cX10_breaks : ByteArray := prog_12_method_31_code
def yX10_breaks : MethodName := ⟨RX10, "breaks", "(I)Z"⟩
abbrev cX10_isUsed : ByteArray := prog_12_method_32_code
def yX10_isUsed : MethodName := ⟨RX10, "isUsed", "(I)Z"⟩
abbrev cX10_use : ByteArray := prog_12_method_33_code
def yX10_use : MethodName := ⟨RX10, "use", "(I)I"⟩
abbrev cX10_drift : ByteArray := prog_12_method_34_code
def yX10_drift : MethodName := ⟨RX10, "drift", "(I)I"⟩
abbrev cX10_undo : ByteArray := prog_12_method_35_code
def yX10_undo : MethodName := ⟨RX10, "undo", "()I"⟩
abbrev cX10_seed : ByteArray := prog_12_method_36_code
def yX10_seed : MethodName := ⟨RX10, "seed", "(I)I"⟩
abbrev cX10_mixed : ByteArray := prog_12_method_37_code
def yX10_mixed : MethodName := ⟨RX10, "mixed", "(III)I"⟩
abbrev cX10_fills : ByteArray := prog_12_method_38_code
def yX10_fills : MethodName := ⟨RX10, "fills", "(IIIII)V"⟩
abbrev cX10_oddsBy : ByteArray := prog_12_method_39_code
def yX10_oddsBy : MethodName := ⟨RX10, "oddsBy", "(II)I"⟩
abbrev cX10_odds : ByteArray := prog_12_method_40_code
def yX10_odds : MethodName := ⟨RX10, "odds", "()I"⟩
abbrev cX10_oddsAt : ByteArray := prog_12_method_41_code
def yX10_oddsAt : MethodName := ⟨RX10, "oddsAt", "(II)I"⟩
abbrev cX10_isPart : ByteArray := prog_12_method_42_code
def yX10_isPart : MethodName := ⟨RX10, "isPart", "(I)Z"⟩
abbrev cX10_sure : ByteArray := prog_12_method_43_code
def yX10_sure : MethodName := ⟨RX10, "sure", "(I)I"⟩
abbrev cX10_pace : ByteArray := prog_12_method_44_code
def yX10_pace : MethodName := ⟨RX10, "pace", "(II)I"⟩
abbrev cX10_many : ByteArray := prog_12_method_45_code
def yX10_many : MethodName := ⟨RX10, "many", "(I)I"⟩
abbrev cX10_plan : ByteArray := prog_12_method_46_code
def yX10_plan : MethodName := ⟨RX10, "plan", "(II)I"⟩
abbrev cX10_best : ByteArray := prog_12_method_47_code
def yX10_best : MethodName := ⟨RX10, "best", "(II)I"⟩
abbrev cX10_soonest : ByteArray := prog_12_method_48_code
def yX10_soonest : MethodName := ⟨RX10, "soonest", "(I)I"⟩
abbrev cX10_shares : ByteArray := prog_12_method_49_code
def yX10_shares : MethodName := ⟨RX10, "shares", "(I)V"⟩
abbrev cX10_mean : ByteArray := prog_12_method_50_code
def yX10_mean : MethodName := ⟨RX10, "mean", "(II)I"⟩
abbrev cX10_image : ByteArray := prog_12_method_51_code
def yX10_image : MethodName := ⟨RX10, "image", "()I"⟩
abbrev cX10_restore : ByteArray := prog_12_method_52_code
def yX10_restore : MethodName := ⟨RX10, "restore", "()I"⟩
abbrev cX10_isSheet : ByteArray := prog_12_method_53_code
def yX10_isSheet : MethodName := ⟨RX10, "isSheet", "(I)Z"⟩
abbrev cX10_isLane : ByteArray := prog_12_method_54_code
def yX10_isLane : MethodName := ⟨RX10, "isLane", "(I)Z"⟩
abbrev cX10_why : ByteArray := prog_12_method_55_code
def yX10_why : MethodName := ⟨RX10, "why", "(IIII)I"⟩
abbrev cX10_weather : ByteArray := prog_12_method_56_code
def yX10_weather : MethodName := ⟨RX10, "weather", "(IIIII)I"⟩
abbrev cX10_film : ByteArray := prog_12_method_57_code
def yX10_film : MethodName := ⟨RX10, "film", "(IIIII)I"⟩
abbrev cX10_sheet : ByteArray := prog_12_method_58_code
def yX10_sheet : MethodName := ⟨RX10, "sheet", "(III)I"⟩
abbrev cX10_drop : ByteArray := prog_12_method_59_code
def yX10_drop : MethodName := ⟨RX10, "drop", "(I)I"⟩
abbrev cX10_item : ByteArray := prog_12_method_60_code
def yX10_item : MethodName := ⟨RX10, "item", "(IIIJ)I"⟩
abbrev cX10_copy : ByteArray := prog_12_method_61_code
def yX10_copy : MethodName := ⟨RX10, "copy", "(IIIII)I"⟩
def RJ6 : String := "java/lang/Integer"
def TJ6 : u_T := fun k => match k with
  | _ => ("", "", "", false)
def tyJ6 : Nat → FieldType := fun k => match k with
  | _ => .int
abbrev wsJ60 : List Cond := u_ws RJ6 TJ6 0
theorem nmJ6 : ∀ a, a < 0 → ∀ b, b < 0 → a ≠ b → (TJ6 a).2.1 ≠ (TJ6 b).2.1 := by decide +kernel
theorem tyJ6_ok : ∀ k, k < 0 → parseFieldDescriptor (TJ6 k).2.2.1 = some (tyJ6 k) := by decide +kernel
abbrev cJ6_bitCount_0f7a4 : ByteArray := prog_13_method_49_code
def yJ6_bitCount_0f7a4 : MethodName := ⟨RJ6, "bitCount", "(I)I"⟩
def RJ9 : String := "java/lang/Math"
def TJ9 : u_T := fun k => match k with
  | _ => ("", "", "", false)
def tyJ9 : Nat → FieldType := fun k => match k with
  | _ => .int
abbrev wsJ90 : List Cond := u_ws RJ9 TJ9 0
theorem nmJ9 : ∀ a, a < 0 → ∀ b, b < 0 → a ≠ b → (TJ9 a).2.1 ≠ (TJ9 b).2.1 := by decide +kernel
theorem tyJ9_ok : ∀ k, k < 0 → parseFieldDescriptor (TJ9 k).2.2.1 = some (tyJ9 k) := by decide +kernel
abbrev cJ9_min_7cf53 : ByteArray := prog_14_method_69_code
def yJ9_min_7cf53 : MethodName := ⟨RJ9, "min", "(II)I"⟩
def RJ10 : String := "java/lang/System"
def TJ10 : u_T := fun k => match k with
  | _ => ("", "", "", false)
def tyJ10 : Nat → FieldType := fun k => match k with
  | _ => .int
abbrev wsJ100 : List Cond := u_ws RJ10 TJ10 0
theorem nmJ10 : ∀ a, a < 0 → ∀ b, b < 0 → a ≠ b → (TJ10 a).2.1 ≠ (TJ10 b).2.1 := by decide +kernel
theorem tyJ10_ok : ∀ k, k < 0 → parseFieldDescriptor (TJ10 k).2.2.1 = some (tyJ10 k) := by decide +kernel
def RL : String := "SummerWallLaw"
abbrev cL_law : ByteArray := code
def yL_law : MethodName := ⟨RL, "law", "([I)Z"⟩
abbrev vwCl : List vw_C := [(RX0, TX0, 2), (RX1, TX1, 16), (RX2, TX2, 2), (RX3, TX3, 2), (RX4, TX4, 2), (RX5, TX5, 2), (RX6, TX6, 4), (RX7, TX7, 18), (RX8, TX8, 13), (RX9, TX9, 6), (RX10, TX10, 20)]
end
section
theorem tm1 {w : Cond} (h : w ∈ tables_1_1) : w ∈ lw_tbl := List.mem_append_right _ (List.mem_append_left _ (h))
theorem tm2 {w : Cond} (h : w ∈ tables_1_2) : w ∈ lw_tbl := List.mem_append_right _ (List.mem_append_right _ (List.mem_append_left _ (h)))
theorem tm3 {w : Cond} (h : w ∈ tables_1_3) : w ∈ lw_tbl := List.mem_append_right _ (List.mem_append_right _ (List.mem_append_right _ (List.mem_append_left _ (h))))
theorem tm4 {w : Cond} (h : w ∈ tables_1_4) : w ∈ lw_tbl := List.mem_append_right _ (List.mem_append_right _ (List.mem_append_right _ (List.mem_append_right _ (List.mem_append_left _ (h)))))
theorem tm5 {w : Cond} (h : w ∈ tables_1_5) : w ∈ lw_tbl := List.mem_append_right _ (List.mem_append_right _ (List.mem_append_right _ (List.mem_append_right _ (List.mem_append_right _ (h)))))
theorem tw1_0 : Cond.initialized RL ∈ lw_tbl := tm1 (List.mem_of_getElem? (i := 0) rfl)
theorem tw1_1 : Cond.initialized RX9 ∈ lw_tbl := tm1 (List.mem_of_getElem? (i := 1) rfl)
theorem tw1_2 : Cond.initialized RX7 ∈ lw_tbl := tm1 (List.mem_of_getElem? (i := 2) rfl)
theorem tw1_3 : Cond.initialized RX8 ∈ lw_tbl := tm1 (List.mem_of_getElem? (i := 3) rfl)
theorem tw1_4 : Cond.initialized RX1 ∈ lw_tbl := tm1 (List.mem_of_getElem? (i := 4) rfl)
theorem tw1_5 : Cond.initialized RX6 ∈ lw_tbl := tm1 (List.mem_of_getElem? (i := 5) rfl)
theorem tw1_6 : Cond.initialized RX10 ∈ lw_tbl := tm1 (List.mem_of_getElem? (i := 6) rfl)
theorem tw1_7 : Cond.initialized RX5 ∈ lw_tbl := tm1 (List.mem_of_getElem? (i := 7) rfl)
theorem tw1_8 : Cond.initialized RX3 ∈ lw_tbl := tm1 (List.mem_of_getElem? (i := 8) rfl)
theorem tw1_9 : Cond.initialized RX0 ∈ lw_tbl := tm1 (List.mem_of_getElem? (i := 9) rfl)
theorem tw1_10 : Cond.initialized RX2 ∈ lw_tbl := tm1 (List.mem_of_getElem? (i := 10) rfl)
theorem tw1_11 : Cond.initialized RX4 ∈ lw_tbl := tm1 (List.mem_of_getElem? (i := 11) rfl)
theorem tw1_12 : Cond.initialized RJ10 ∈ lw_tbl := tm1 (List.mem_of_getElem? (i := 12) rfl)
theorem tw1_13 : Cond.initialized RJ9 ∈ lw_tbl := tm1 (List.mem_of_getElem? (i := 13) rfl)
theorem tw1_14 : Cond.initialized RJ6 ∈ lw_tbl := tm1 (List.mem_of_getElem? (i := 14) rfl)
theorem tw1_15 : Cond.classLink RL 7 "SummerWall" ∈ lw_tbl := tm1 (List.mem_of_getElem? (i := 15) rfl)
theorem tw1_16 : Cond.instantiable RX9 6 ∈ lw_tbl := tm1 (List.mem_of_getElem? (i := 16) rfl)
theorem tw1_17 : Cond.methodLink RL 9 yX9_init ∈ lw_tbl := tm1 (List.mem_of_getElem? (i := 17) rfl)
theorem tw1_18 : Cond.instanceMethod yX9_init ∈ lw_tbl := tm1 (List.mem_of_getElem? (i := 18) rfl)
theorem tw1_19 : Cond.code yX9_init cX9_init 2 (none : Option FieldType) ∈ lw_tbl := tm1 (List.mem_of_getElem? (i := 19) rfl)
theorem tw1_20 : Cond.methodLink RX9 1 objectInit ∈ lw_tbl := tm1 (List.mem_of_getElem? (i := 20) rfl)
theorem tw1_21 : Cond.instanceMethod objectInit ∈ lw_tbl := tm1 (List.mem_of_getElem? (i := 21) rfl)
theorem tw1_22 : Cond.code objectInit object_method_1_code 1 (none : Option FieldType) ∈ lw_tbl := tm1 (List.mem_of_getElem? (i := 22) rfl)
theorem tw1_23 : Cond.classLink RX9 7 "SummerWall$Site" ∈ lw_tbl := tm1 (List.mem_of_getElem? (i := 23) rfl)
theorem tw1_24 : Cond.instantiable RX7 18 ∈ lw_tbl := tm1 (List.mem_of_getElem? (i := 24) rfl)
theorem tw1_25 : Cond.methodLinkNest RX9 9 yX7_init "SummerWall" ∈ lw_tbl := tm1 (List.mem_of_getElem? (i := 25) rfl)
theorem tw1_26 : Cond.instanceMethod yX7_init ∈ lw_tbl := tm1 (List.mem_of_getElem? (i := 26) rfl)
theorem tw1_27 : Cond.code yX7_init cX7_init 1 (none : Option FieldType) ∈ lw_tbl := tm1 (List.mem_of_getElem? (i := 27) rfl)
theorem tw1_28 : Cond.methodLink RX7 3 objectInit ∈ lw_tbl := tm1 (List.mem_of_getElem? (i := 28) rfl)
theorem tw1_29 : Cond.classLink RX7 30 "SummerWall$Plain" ∈ lw_tbl := tm1 (List.mem_of_getElem? (i := 29) rfl)
theorem tw1_30 : Cond.arrayOver (FieldType.object "SummerWall$Plain") ∈ lw_tbl := tm1 (List.mem_of_getElem? (i := 30) rfl)
theorem tw1_31 : Cond.fieldLink RX7 9 "SummerWall$Site" "stones" "I" ∈ lw_tbl := tm1 (List.mem_of_getElem? (i := 31) rfl)
theorem tw1_32 : Cond.fieldLink RX9 95 "SummerWall$Site" "stones" "I" ∈ lw_tbl := tm1 (List.mem_of_getElem? (i := 32) rfl)
theorem tw1_33 : Cond.fieldLink RX1 131 "SummerWall$Site" "stones" "I" ∈ lw_tbl := tm1 (List.mem_of_getElem? (i := 33) rfl)
theorem tw1_34 : Cond.fieldLink RX7 15 "SummerWall$Site" "days" "I" ∈ lw_tbl := tm1 (List.mem_of_getElem? (i := 34) rfl)
theorem tw1_35 : Cond.fieldLink RX9 101 "SummerWall$Site" "days" "I" ∈ lw_tbl := tm1 (List.mem_of_getElem? (i := 35) rfl)
theorem tw1_36 : Cond.fieldLink RX1 132 "SummerWall$Site" "days" "I" ∈ lw_tbl := tm1 (List.mem_of_getElem? (i := 36) rfl)
theorem tw1_37 : Cond.fieldLink RX7 18 "SummerWall$Site" "frost" "I" ∈ lw_tbl := tm1 (List.mem_of_getElem? (i := 37) rfl)
theorem tw1_38 : Cond.fieldLink RX9 107 "SummerWall$Site" "frost" "I" ∈ lw_tbl := tm1 (List.mem_of_getElem? (i := 38) rfl)
theorem tw1_39 : Cond.fieldLink RX1 133 "SummerWall$Site" "frost" "I" ∈ lw_tbl := tm1 (List.mem_of_getElem? (i := 39) rfl)
theorem tw1_40 : Cond.fieldLink RX7 21 "SummerWall$Site" "thaw" "I" ∈ lw_tbl := tm1 (List.mem_of_getElem? (i := 40) rfl)
theorem tw1_41 : Cond.fieldLink RX9 104 "SummerWall$Site" "thaw" "I" ∈ lw_tbl := tm1 (List.mem_of_getElem? (i := 41) rfl)
theorem tw1_42 : Cond.fieldLink RX1 134 "SummerWall$Site" "thaw" "I" ∈ lw_tbl := tm1 (List.mem_of_getElem? (i := 42) rfl)
theorem tw1_43 : Cond.fieldLink RX7 46 "SummerWall$Site" "day" "I" ∈ lw_tbl := tm1 (List.mem_of_getElem? (i := 43) rfl)
theorem tw1_44 : Cond.fieldLink RX1 33 "SummerWall$Site" "day" "I" ∈ lw_tbl := tm1 (List.mem_of_getElem? (i := 44) rfl)
theorem tw1_45 : Cond.fieldLink RX9 98 "SummerWall$Site" "day" "I" ∈ lw_tbl := tm1 (List.mem_of_getElem? (i := 45) rfl)
theorem tw1_46 : Cond.fieldLink RX1 39 "SummerWall$Site" "laid" "I" ∈ lw_tbl := tm1 (List.mem_of_getElem? (i := 46) rfl)
theorem tw1_47 : Cond.fieldLink RX9 71 "SummerWall$Site" "laid" "I" ∈ lw_tbl := tm1 (List.mem_of_getElem? (i := 47) rfl)
theorem tw1_48 : Cond.fieldLink RX7 90 "SummerWall$Site" "laid" "I" ∈ lw_tbl := tm1 (List.mem_of_getElem? (i := 48) rfl)
theorem tw1_49 : Cond.fieldLink RX7 49 "SummerWall$Site" "used" "I" ∈ lw_tbl := tm1 (List.mem_of_getElem? (i := 49) rfl)
theorem tw1_50 : Cond.fieldLink RX1 75 "SummerWall$Site" "used" "I" ∈ lw_tbl := tm1 (List.mem_of_getElem? (i := 50) rfl)
theorem tw1_51 : Cond.fieldLink RX9 138 "SummerWall$Site" "used" "I" ∈ lw_tbl := tm1 (List.mem_of_getElem? (i := 51) rfl)
theorem tw1_52 : Cond.fieldLink RX7 76 "SummerWall$Site" "usedToday" "I" ∈ lw_tbl := tm1 (List.mem_of_getElem? (i := 52) rfl)
theorem tw1_53 : Cond.fieldLink RX7 87 "SummerWall$Site" "broken" "I" ∈ lw_tbl := tm1 (List.mem_of_getElem? (i := 53) rfl)
theorem tw1_54 : Cond.fieldLink RX9 144 "SummerWall$Site" "broken" "I" ∈ lw_tbl := tm1 (List.mem_of_getElem? (i := 54) rfl)
theorem tw1_55 : Cond.fieldLink RX7 24 "SummerWall$Site" "sworn" "I" ∈ lw_tbl := tm1 (List.mem_of_getElem? (i := 55) rfl)
theorem tw1_56 : Cond.fieldLink RX9 117 "SummerWall$Site" "sworn" "I" ∈ lw_tbl := tm1 (List.mem_of_getElem? (i := 56) rfl)
theorem tw1_57 : Cond.fieldLink RX7 27 "SummerWall$Site" "draw" "I" ∈ lw_tbl := tm1 (List.mem_of_getElem? (i := 57) rfl)
theorem tw1_58 : Cond.fieldLink RX9 170 "SummerWall$Site" "draw" "I" ∈ lw_tbl := tm1 (List.mem_of_getElem? (i := 58) rfl)
theorem tw1_59 : Cond.fieldLink RX9 44 "SummerWall$Site" "builderCount" "I" ∈ lw_tbl := tm1 (List.mem_of_getElem? (i := 59) rfl)
theorem tw1_60 : Cond.fieldLink RX7 52 "SummerWall$Site" "builderCount" "I" ∈ lw_tbl := tm1 (List.mem_of_getElem? (i := 60) rfl)
theorem tw1_61 : Cond.fieldLink RX7 59 "SummerWall$Site" "hindranceCount" "I" ∈ lw_tbl := tm1 (List.mem_of_getElem? (i := 61) rfl)
theorem tw1_62 : Cond.fieldLink RX1 81 "SummerWall$Site" "hindranceCount" "I" ∈ lw_tbl := tm1 (List.mem_of_getElem? (i := 62) rfl)
theorem tw1_63 : Cond.fieldLink RX9 110 "SummerWall$Site" "hindranceCount" "I" ∈ lw_tbl := tm1 (List.mem_of_getElem? (i := 63) rfl)
theorem tw1_64 : Cond.fieldLink RX9 52 "SummerWall$Site" "pastCount" "I" ∈ lw_tbl := tm1 (List.mem_of_getElem? (i := 64) rfl)
theorem tw1_65 : Cond.fieldLink RX7 107 "SummerWall$Site" "pastCount" "I" ∈ lw_tbl := tm1 (List.mem_of_getElem? (i := 65) rfl)
theorem tw1_66 : Cond.fieldLink RX7 32 "SummerWall$Site" "builders" "[LSummerWall$Plain;" ∈ lw_tbl := tm1 (List.mem_of_getElem? (i := 66) rfl)
theorem tw1_67 : Cond.fieldLink RX9 55 "SummerWall$Site" "builders" "[LSummerWall$Plain;" ∈ lw_tbl := tm1 (List.mem_of_getElem? (i := 67) rfl)
theorem tw1_68 : Cond.fieldLink RX7 36 "SummerWall$Site" "costs" "[I" ∈ lw_tbl := tm1 (List.mem_of_getElem? (i := 68) rfl)
theorem tw1_69 : Cond.fieldLink RX7 40 "SummerWall$Site" "oaths" "[I" ∈ lw_tbl := tm1 (List.mem_of_getElem? (i := 69) rfl)
theorem tw1_70 : Cond.fieldLink RX7 43 "SummerWall$Site" "past" "[I" ∈ lw_tbl := tm1 (List.mem_of_getElem? (i := 70) rfl)
theorem tw1_71 : Cond.lays RX7 "SummerWall$Site" "stones" "I" ∈ lw_tbl := tm1 (List.mem_of_getElem? (i := 71) rfl)
theorem tw1_73 : Cond.lays RX7 "SummerWall$Site" "days" "I" ∈ lw_tbl := tm1 (List.mem_of_getElem? (i := 73) rfl)
theorem tw1_75 : Cond.lays RX7 "SummerWall$Site" "frost" "I" ∈ lw_tbl := tm1 (List.mem_of_getElem? (i := 75) rfl)
theorem tw1_77 : Cond.lays RX7 "SummerWall$Site" "thaw" "I" ∈ lw_tbl := tm1 (List.mem_of_getElem? (i := 77) rfl)
theorem tw1_79 : Cond.lays RX7 "SummerWall$Site" "day" "I" ∈ lw_tbl := tm1 (List.mem_of_getElem? (i := 79) rfl)
theorem tw1_81 : Cond.lays RX7 "SummerWall$Site" "laid" "I" ∈ lw_tbl := tm1 (List.mem_of_getElem? (i := 81) rfl)
theorem tw1_83 : Cond.lays RX7 "SummerWall$Site" "used" "I" ∈ lw_tbl := tm1 (List.mem_of_getElem? (i := 83) rfl)
theorem tw1_85 : Cond.lays RX7 "SummerWall$Site" "usedToday" "I" ∈ lw_tbl := tm1 (List.mem_of_getElem? (i := 85) rfl)
theorem tw1_87 : Cond.lays RX7 "SummerWall$Site" "broken" "I" ∈ lw_tbl := tm1 (List.mem_of_getElem? (i := 87) rfl)
theorem tw1_89 : Cond.lays RX7 "SummerWall$Site" "sworn" "I" ∈ lw_tbl := tm1 (List.mem_of_getElem? (i := 89) rfl)
theorem tw1_91 : Cond.lays RX7 "SummerWall$Site" "draw" "I" ∈ lw_tbl := tm1 (List.mem_of_getElem? (i := 91) rfl)
theorem tw1_93 : Cond.lays RX7 "SummerWall$Site" "builderCount" "I" ∈ lw_tbl := tm1 (List.mem_of_getElem? (i := 93) rfl)
theorem tw1_95 : Cond.lays RX7 "SummerWall$Site" "hindranceCount" "I" ∈ lw_tbl := tm1 (List.mem_of_getElem? (i := 95) rfl)
theorem tw1_97 : Cond.lays RX7 "SummerWall$Site" "pastCount" "I" ∈ lw_tbl := tm1 (List.mem_of_getElem? (i := 97) rfl)
theorem tw1_99 : Cond.laysFinal RX7 "SummerWall$Site" "builders" "[LSummerWall$Plain;" ∈ lw_tbl := tm1 (List.mem_of_getElem? (i := 99) rfl)
theorem tw1_101 : Cond.laysFinal RX7 "SummerWall$Site" "costs" "[I" ∈ lw_tbl := tm1 (List.mem_of_getElem? (i := 101) rfl)
theorem tw1_103 : Cond.laysFinal RX7 "SummerWall$Site" "oaths" "[I" ∈ lw_tbl := tm1 (List.mem_of_getElem? (i := 103) rfl)
theorem tw1_105 : Cond.laysFinal RX7 "SummerWall$Site" "past" "[I" ∈ lw_tbl := tm1 (List.mem_of_getElem? (i := 105) rfl)
theorem tw1_108 : Cond.arrayClass FieldType.int ∈ lw_tbl := tm1 (List.mem_of_getElem? (i := 108) rfl)
theorem tw1_109 : Cond.classLink RX9 19 "SummerWall$Tape" ∈ lw_tbl := tm1 (List.mem_of_getElem? (i := 109) rfl)
theorem tw1_110 : Cond.instantiable RX8 13 ∈ lw_tbl := tm1 (List.mem_of_getElem? (i := 110) rfl)
theorem tw1_111 : Cond.methodLinkNest RX9 21 yX8_init "SummerWall" ∈ lw_tbl := tm1 (List.mem_of_getElem? (i := 111) rfl)
theorem tw1_112 : Cond.instanceMethod yX8_init ∈ lw_tbl := tm1 (List.mem_of_getElem? (i := 112) rfl)
theorem tw1_113 : Cond.code yX8_init cX8_init 1 (none : Option FieldType) ∈ lw_tbl := tm1 (List.mem_of_getElem? (i := 113) rfl)
theorem tw1_114 : Cond.methodLink RX8 3 objectInit ∈ lw_tbl := tm1 (List.mem_of_getElem? (i := 114) rfl)
theorem tw1_115 : Cond.fieldLink RX8 9 "SummerWall$Tape" "letters" "[C" ∈ lw_tbl := tm1 (List.mem_of_getElem? (i := 115) rfl)
theorem tw1_116 : Cond.fieldLink RX8 15 "SummerWall$Tape" "kinds" "[I" ∈ lw_tbl := tm1 (List.mem_of_getElem? (i := 116) rfl)
theorem tw1_117 : Cond.fieldLink RX7 121 "SummerWall$Tape" "kinds" "[I" ∈ lw_tbl := tm1 (List.mem_of_getElem? (i := 117) rfl)
theorem tw1_118 : Cond.fieldLink RX8 19 "SummerWall$Tape" "paces" "[I" ∈ lw_tbl := tm1 (List.mem_of_getElem? (i := 118) rfl)
theorem tw1_119 : Cond.fieldLink RX7 124 "SummerWall$Tape" "paces" "[I" ∈ lw_tbl := tm1 (List.mem_of_getElem? (i := 119) rfl)
theorem tw1_120 : Cond.fieldLink RX8 22 "SummerWall$Tape" "horses" "[I" ∈ lw_tbl := tm1 (List.mem_of_getElem? (i := 120) rfl)
theorem tw1_121 : Cond.fieldLink RX7 127 "SummerWall$Tape" "horses" "[I" ∈ lw_tbl := tm1 (List.mem_of_getElem? (i := 121) rfl)
theorem tw1_122 : Cond.fieldLink RX8 25 "SummerWall$Tape" "costs" "[I" ∈ lw_tbl := tm1 (List.mem_of_getElem? (i := 122) rfl)
theorem tw1_123 : Cond.fieldLink RX7 135 "SummerWall$Tape" "costs" "[I" ∈ lw_tbl := tm1 (List.mem_of_getElem? (i := 123) rfl)
theorem tw1_124 : Cond.fieldLink RX8 28 "SummerWall$Tape" "oaths" "[I" ∈ lw_tbl := tm1 (List.mem_of_getElem? (i := 124) rfl)
theorem tw1_125 : Cond.fieldLink RX7 136 "SummerWall$Tape" "oaths" "[I" ∈ lw_tbl := tm1 (List.mem_of_getElem? (i := 125) rfl)
theorem tw1_126 : Cond.fieldLink RX8 31 "SummerWall$Tape" "length" "I" ∈ lw_tbl := tm1 (List.mem_of_getElem? (i := 126) rfl)
theorem tw1_127 : Cond.fieldLink RX9 120 "SummerWall$Tape" "length" "I" ∈ lw_tbl := tm1 (List.mem_of_getElem? (i := 127) rfl)
theorem tw1_128 : Cond.fieldLink RX8 48 "SummerWall$Tape" "stones" "I" ∈ lw_tbl := tm1 (List.mem_of_getElem? (i := 128) rfl)
theorem tw1_129 : Cond.fieldLink RX7 116 "SummerWall$Tape" "stones" "I" ∈ lw_tbl := tm1 (List.mem_of_getElem? (i := 129) rfl)
theorem tw1_130 : Cond.fieldLink RX8 55 "SummerWall$Tape" "days" "I" ∈ lw_tbl := tm1 (List.mem_of_getElem? (i := 130) rfl)
theorem tw1_131 : Cond.fieldLink RX7 119 "SummerWall$Tape" "days" "I" ∈ lw_tbl := tm1 (List.mem_of_getElem? (i := 131) rfl)
theorem tw1_132 : Cond.fieldLink RX8 38 "SummerWall$Tape" "builderCount" "I" ∈ lw_tbl := tm1 (List.mem_of_getElem? (i := 132) rfl)
theorem tw1_133 : Cond.fieldLink RX7 120 "SummerWall$Tape" "builderCount" "I" ∈ lw_tbl := tm1 (List.mem_of_getElem? (i := 133) rfl)
theorem tw1_134 : Cond.fieldLink RX8 41 "SummerWall$Tape" "hindranceCount" "I" ∈ lw_tbl := tm1 (List.mem_of_getElem? (i := 134) rfl)
theorem tw1_135 : Cond.fieldLink RX7 134 "SummerWall$Tape" "hindranceCount" "I" ∈ lw_tbl := tm1 (List.mem_of_getElem? (i := 135) rfl)
theorem tw1_136 : Cond.fieldLink RX8 93 "SummerWall$Tape" "fault" "I" ∈ lw_tbl := tm1 (List.mem_of_getElem? (i := 136) rfl)
theorem tw1_137 : Cond.fieldLink RX9 131 "SummerWall$Tape" "fault" "I" ∈ lw_tbl := tm1 (List.mem_of_getElem? (i := 137) rfl)
theorem tw1_138 : Cond.fieldLink RX8 35 "SummerWall$Tape" "at" "I" ∈ lw_tbl := tm1 (List.mem_of_getElem? (i := 138) rfl)
theorem tw1_139 : Cond.laysFinal RX8 "SummerWall$Tape" "letters" "[C" ∈ lw_tbl := tm1 (List.mem_of_getElem? (i := 139) rfl)
theorem tw1_141 : Cond.laysFinal RX8 "SummerWall$Tape" "kinds" "[I" ∈ lw_tbl := tm1 (List.mem_of_getElem? (i := 141) rfl)
theorem tw1_143 : Cond.laysFinal RX8 "SummerWall$Tape" "paces" "[I" ∈ lw_tbl := tm1 (List.mem_of_getElem? (i := 143) rfl)
theorem tw1_145 : Cond.laysFinal RX8 "SummerWall$Tape" "horses" "[I" ∈ lw_tbl := tm1 (List.mem_of_getElem? (i := 145) rfl)
theorem tw1_147 : Cond.laysFinal RX8 "SummerWall$Tape" "costs" "[I" ∈ lw_tbl := tm1 (List.mem_of_getElem? (i := 147) rfl)
theorem tw1_149 : Cond.laysFinal RX8 "SummerWall$Tape" "oaths" "[I" ∈ lw_tbl := tm1 (List.mem_of_getElem? (i := 149) rfl)
theorem tw1_151 : Cond.lays RX8 "SummerWall$Tape" "length" "I" ∈ lw_tbl := tm1 (List.mem_of_getElem? (i := 151) rfl)
theorem tw1_153 : Cond.lays RX8 "SummerWall$Tape" "stones" "I" ∈ lw_tbl := tm1 (List.mem_of_getElem? (i := 153) rfl)
theorem tw1_155 : Cond.lays RX8 "SummerWall$Tape" "days" "I" ∈ lw_tbl := tm1 (List.mem_of_getElem? (i := 155) rfl)
theorem tw1_157 : Cond.lays RX8 "SummerWall$Tape" "builderCount" "I" ∈ lw_tbl := tm1 (List.mem_of_getElem? (i := 157) rfl)
theorem tw1_159 : Cond.lays RX8 "SummerWall$Tape" "hindranceCount" "I" ∈ lw_tbl := tm1 (List.mem_of_getElem? (i := 159) rfl)
theorem tw1_161 : Cond.lays RX8 "SummerWall$Tape" "fault" "I" ∈ lw_tbl := tm1 (List.mem_of_getElem? (i := 161) rfl)
theorem tw1_163 : Cond.lays RX8 "SummerWall$Tape" "at" "I" ∈ lw_tbl := tm1 (List.mem_of_getElem? (i := 163) rfl)
theorem tw1_166 : Cond.arrayClass FieldType.char ∈ lw_tbl := tm1 (List.mem_of_getElem? (i := 166) rfl)
theorem tw1_167 : Cond.classLink RX9 26 "SummerWall$Foretold" ∈ lw_tbl := tm1 (List.mem_of_getElem? (i := 167) rfl)
theorem tw1_168 : Cond.instantiable RX1 16 ∈ lw_tbl := tm1 (List.mem_of_getElem? (i := 168) rfl)
theorem tw1_169 : Cond.methodLinkNest RX9 28 yX1_init "SummerWall" ∈ lw_tbl := tm1 (List.mem_of_getElem? (i := 169) rfl)
theorem tw1_170 : Cond.instanceMethod yX1_init ∈ lw_tbl := tm1 (List.mem_of_getElem? (i := 170) rfl)
theorem tw1_171 : Cond.code yX1_init cX1_init 1 (none : Option FieldType) ∈ lw_tbl := tm1 (List.mem_of_getElem? (i := 171) rfl)
theorem tw1_172 : Cond.methodLink RX1 3 objectInit ∈ lw_tbl := tm1 (List.mem_of_getElem? (i := 172) rfl)
theorem tw1_173 : Cond.fieldLink RX1 11 "SummerWall$Foretold" "lays" "[I" ∈ lw_tbl := tm1 (List.mem_of_getElem? (i := 173) rfl)
theorem tw1_174 : Cond.fieldLink RX1 15 "SummerWall$Foretold" "behind" "[I" ∈ lw_tbl := tm1 (List.mem_of_getElem? (i := 174) rfl)
theorem tw1_175 : Cond.fieldLink RX1 18 "SummerWall$Foretold" "behindHindered" "[I" ∈ lw_tbl := tm1 (List.mem_of_getElem? (i := 175) rfl)
theorem tw1_176 : Cond.fieldLink RX1 21 "SummerWall$Foretold" "odds" "[I" ∈ lw_tbl := tm1 (List.mem_of_getElem? (i := 176) rfl)
theorem tw1_177 : Cond.fieldLink RX1 24 "SummerWall$Foretold" "oddsHindered" "[I" ∈ lw_tbl := tm1 (List.mem_of_getElem? (i := 177) rfl)
theorem tw1_178 : Cond.fieldLink RX1 27 "SummerWall$Foretold" "fairPath" "[I" ∈ lw_tbl := tm1 (List.mem_of_getElem? (i := 178) rfl)
theorem tw1_179 : Cond.fieldLink RX1 30 "SummerWall$Foretold" "parts" "[I" ∈ lw_tbl := tm1 (List.mem_of_getElem? (i := 179) rfl)
theorem tw1_180 : Cond.fieldLink RX1 118 "SummerWall$Foretold" "stones" "I" ∈ lw_tbl := tm1 (List.mem_of_getElem? (i := 180) rfl)
theorem tw1_181 : Cond.fieldLink RX1 67 "SummerWall$Foretold" "days" "I" ∈ lw_tbl := tm1 (List.mem_of_getElem? (i := 181) rfl)
theorem tw1_182 : Cond.fieldLink RX1 125 "SummerWall$Foretold" "frost" "I" ∈ lw_tbl := tm1 (List.mem_of_getElem? (i := 182) rfl)
theorem tw1_183 : Cond.fieldLink RX1 128 "SummerWall$Foretold" "thaw" "I" ∈ lw_tbl := tm1 (List.mem_of_getElem? (i := 183) rfl)
theorem tw1_184 : Cond.fieldLink RX1 70 "SummerWall$Foretold" "day" "I" ∈ lw_tbl := tm1 (List.mem_of_getElem? (i := 184) rfl)
theorem tw1_185 : Cond.fieldLink RX1 113 "SummerWall$Foretold" "laid" "I" ∈ lw_tbl := tm1 (List.mem_of_getElem? (i := 185) rfl)
theorem tw1_186 : Cond.fieldLink RX1 57 "SummerWall$Foretold" "cost" "I" ∈ lw_tbl := tm1 (List.mem_of_getElem? (i := 186) rfl)
theorem tw1_187 : Cond.fieldLink RX1 97 "SummerWall$Foretold" "bestDay" "I" ∈ lw_tbl := tm1 (List.mem_of_getElem? (i := 187) rfl)
theorem tw1_188 : Cond.fieldLink RX9 200 "SummerWall$Foretold" "bestDay" "I" ∈ lw_tbl := tm1 (List.mem_of_getElem? (i := 188) rfl)
theorem tw1_189 : Cond.fieldLink RX1 101 "SummerWall$Foretold" "bestOdds" "I" ∈ lw_tbl := tm1 (List.mem_of_getElem? (i := 189) rfl)
theorem tw1_190 : Cond.fieldLink RX9 203 "SummerWall$Foretold" "bestOdds" "I" ∈ lw_tbl := tm1 (List.mem_of_getElem? (i := 190) rfl)
theorem tw1_191 : Cond.laysFinal RX1 "SummerWall$Foretold" "lays" "[I" ∈ lw_tbl := tm1 (List.mem_of_getElem? (i := 191) rfl)
theorem tw1_193 : Cond.laysFinal RX1 "SummerWall$Foretold" "behind" "[I" ∈ lw_tbl := tm1 (List.mem_of_getElem? (i := 193) rfl)
theorem tw1_195 : Cond.laysFinal RX1 "SummerWall$Foretold" "behindHindered" "[I" ∈ lw_tbl := tm1 (List.mem_of_getElem? (i := 195) rfl)
theorem tw1_197 : Cond.laysFinal RX1 "SummerWall$Foretold" "odds" "[I" ∈ lw_tbl := tm1 (List.mem_of_getElem? (i := 197) rfl)
theorem tw1_199 : Cond.laysFinal RX1 "SummerWall$Foretold" "oddsHindered" "[I" ∈ lw_tbl := tm1 (List.mem_of_getElem? (i := 199) rfl)
theorem tw1_201 : Cond.laysFinal RX1 "SummerWall$Foretold" "fairPath" "[I" ∈ lw_tbl := tm1 (List.mem_of_getElem? (i := 201) rfl)
theorem tw1_203 : Cond.laysFinal RX1 "SummerWall$Foretold" "parts" "[I" ∈ lw_tbl := tm1 (List.mem_of_getElem? (i := 203) rfl)
theorem tw1_205 : Cond.lays RX1 "SummerWall$Foretold" "stones" "I" ∈ lw_tbl := tm1 (List.mem_of_getElem? (i := 205) rfl)
theorem tw1_207 : Cond.lays RX1 "SummerWall$Foretold" "days" "I" ∈ lw_tbl := tm1 (List.mem_of_getElem? (i := 207) rfl)
theorem tw1_209 : Cond.lays RX1 "SummerWall$Foretold" "frost" "I" ∈ lw_tbl := tm1 (List.mem_of_getElem? (i := 209) rfl)
theorem tw1_211 : Cond.lays RX1 "SummerWall$Foretold" "thaw" "I" ∈ lw_tbl := tm1 (List.mem_of_getElem? (i := 211) rfl)
theorem tw1_213 : Cond.lays RX1 "SummerWall$Foretold" "day" "I" ∈ lw_tbl := tm1 (List.mem_of_getElem? (i := 213) rfl)
theorem tw1_215 : Cond.lays RX1 "SummerWall$Foretold" "laid" "I" ∈ lw_tbl := tm1 (List.mem_of_getElem? (i := 215) rfl)
theorem tw1_217 : Cond.lays RX1 "SummerWall$Foretold" "cost" "I" ∈ lw_tbl := tm1 (List.mem_of_getElem? (i := 217) rfl)
theorem tw1_219 : Cond.lays RX1 "SummerWall$Foretold" "bestDay" "I" ∈ lw_tbl := tm1 (List.mem_of_getElem? (i := 219) rfl)
theorem tw1_221 : Cond.lays RX1 "SummerWall$Foretold" "bestOdds" "I" ∈ lw_tbl := tm1 (List.mem_of_getElem? (i := 221) rfl)
theorem tw1_224 : Cond.classLink RX9 33 "SummerWall$Sheet" ∈ lw_tbl := tm1 (List.mem_of_getElem? (i := 224) rfl)
theorem tw1_225 : Cond.arrayOver (FieldType.object "SummerWall$Sheet") ∈ lw_tbl := tm1 (List.mem_of_getElem? (i := 225) rfl)
theorem tw1_226 : Cond.instantiable RX6 4 ∈ lw_tbl := tm1 (List.mem_of_getElem? (i := 226) rfl)
theorem tw1_227 : Cond.methodLinkNest RX9 39 yX6_init "SummerWall" ∈ lw_tbl := tm1 (List.mem_of_getElem? (i := 227) rfl)
theorem tw1_228 : Cond.instanceMethod yX6_init ∈ lw_tbl := tm1 (List.mem_of_getElem? (i := 228) rfl)
theorem tw1_229 : Cond.code yX6_init cX6_init 1 (none : Option FieldType) ∈ lw_tbl := tm1 (List.mem_of_getElem? (i := 229) rfl)
theorem tw1_230 : Cond.methodLink RX6 3 objectInit ∈ lw_tbl := tm1 (List.mem_of_getElem? (i := 230) rfl)
theorem tw1_231 : Cond.fieldLink RX6 15 "SummerWall$Sheet" "held" "Z" ∈ lw_tbl := tm1 (List.mem_of_getElem? (i := 231) rfl)
theorem tw1_232 : Cond.fieldLink RX9 251 "SummerWall$Sheet" "held" "Z" ∈ lw_tbl := tm1 (List.mem_of_getElem? (i := 232) rfl)
theorem tw1_233 : Cond.fieldLink RX6 19 "SummerWall$Sheet" "lane" "I" ∈ lw_tbl := tm1 (List.mem_of_getElem? (i := 233) rfl)
theorem tw1_234 : Cond.fieldLink RX9 257 "SummerWall$Sheet" "lane" "I" ∈ lw_tbl := tm1 (List.mem_of_getElem? (i := 234) rfl)
theorem tw1_235 : Cond.fieldLink RX6 23 "SummerWall$Sheet" "size" "I" ∈ lw_tbl := tm1 (List.mem_of_getElem? (i := 235) rfl)
theorem tw1_236 : Cond.fieldLink RX9 254 "SummerWall$Sheet" "size" "I" ∈ lw_tbl := tm1 (List.mem_of_getElem? (i := 236) rfl)
theorem tw1_237 : Cond.fieldLink RX6 9 "SummerWall$Sheet" "items" "[J" ∈ lw_tbl := tm1 (List.mem_of_getElem? (i := 237) rfl)
theorem tw1_238 : Cond.fieldLink RX9 232 "SummerWall$Sheet" "items" "[J" ∈ lw_tbl := tm1 (List.mem_of_getElem? (i := 238) rfl)
theorem tw1_239 : Cond.lays RX6 "SummerWall$Sheet" "held" "Z" ∈ lw_tbl := tm1 (List.mem_of_getElem? (i := 239) rfl)
theorem tw2_1 : Cond.lays RX6 "SummerWall$Sheet" "lane" "I" ∈ lw_tbl := tm2 (List.mem_of_getElem? (i := 1) rfl)
theorem tw2_3 : Cond.lays RX6 "SummerWall$Sheet" "size" "I" ∈ lw_tbl := tm2 (List.mem_of_getElem? (i := 3) rfl)
theorem tw2_5 : Cond.laysFinal RX6 "SummerWall$Sheet" "items" "[J" ∈ lw_tbl := tm2 (List.mem_of_getElem? (i := 5) rfl)
theorem tw2_8 : Cond.arrayClass FieldType.long ∈ lw_tbl := tm2 (List.mem_of_getElem? (i := 8) rfl)
theorem tw2_9 : Cond.fieldLink RX9 10 "SummerWall" "now" "LSummerWall$Site;" ∈ lw_tbl := tm2 (List.mem_of_getElem? (i := 9) rfl)
theorem tw2_10 : Cond.fieldLink RX9 16 "SummerWall" "kept" "LSummerWall$Site;" ∈ lw_tbl := tm2 (List.mem_of_getElem? (i := 10) rfl)
theorem tw2_11 : Cond.fieldLink RX9 22 "SummerWall" "tape" "LSummerWall$Tape;" ∈ lw_tbl := tm2 (List.mem_of_getElem? (i := 11) rfl)
theorem tw2_12 : Cond.fieldLink RX9 29 "SummerWall" "foretold" "LSummerWall$Foretold;" ∈ lw_tbl := tm2 (List.mem_of_getElem? (i := 12) rfl)
theorem tw2_13 : Cond.fieldLink RX9 35 "SummerWall" "sheets" "[LSummerWall$Sheet;" ∈ lw_tbl := tm2 (List.mem_of_getElem? (i := 13) rfl)
theorem tw2_14 : Cond.fieldLink RX9 219 "SummerWall" "imaged" "Z" ∈ lw_tbl := tm2 (List.mem_of_getElem? (i := 14) rfl)
theorem tw2_15 : Cond.laysFinal RX9 "SummerWall" "now" "LSummerWall$Site;" ∈ lw_tbl := tm2 (List.mem_of_getElem? (i := 15) rfl)
theorem tw2_17 : Cond.laysFinal RX9 "SummerWall" "kept" "LSummerWall$Site;" ∈ lw_tbl := tm2 (List.mem_of_getElem? (i := 17) rfl)
theorem tw2_19 : Cond.laysFinal RX9 "SummerWall" "tape" "LSummerWall$Tape;" ∈ lw_tbl := tm2 (List.mem_of_getElem? (i := 19) rfl)
theorem tw2_21 : Cond.laysFinal RX9 "SummerWall" "foretold" "LSummerWall$Foretold;" ∈ lw_tbl := tm2 (List.mem_of_getElem? (i := 21) rfl)
theorem tw2_23 : Cond.laysFinal RX9 "SummerWall" "sheets" "[LSummerWall$Sheet;" ∈ lw_tbl := tm2 (List.mem_of_getElem? (i := 23) rfl)
theorem tw2_25 : Cond.lays RX9 "SummerWall" "imaged" "Z" ∈ lw_tbl := tm2 (List.mem_of_getElem? (i := 25) rfl)
theorem tw2_28 : Cond.methodLink RL 13 yX9_builder ∈ lw_tbl := tm2 (List.mem_of_getElem? (i := 28) rfl)
theorem tw2_29 : Cond.instanceMethod yX9_builder ∈ lw_tbl := tm2 (List.mem_of_getElem? (i := 29) rfl)
theorem tw2_30 : Cond.selects RX9 yX9_builder yX9_builder ∈ lw_tbl := tm2 (List.mem_of_getElem? (i := 30) rfl)
theorem tw2_31 : Cond.code yX9_builder cX9_builder 4 (some FieldType.int) ∈ lw_tbl := tm2 (List.mem_of_getElem? (i := 31) rfl)
theorem tw2_32 : Cond.methodLink RX9 40 yX9_within ∈ lw_tbl := tm2 (List.mem_of_getElem? (i := 32) rfl)
theorem tw2_33 : Cond.static yX9_within ∈ lw_tbl := tm2 (List.mem_of_getElem? (i := 33) rfl)
theorem tw2_34 : Cond.code yX9_within cX9_within 3 (some FieldType.boolean) ∈ lw_tbl := tm2 (List.mem_of_getElem? (i := 34) rfl)
theorem tw2_35 : Cond.methodLink RX9 48 yX7_addBuilder ∈ lw_tbl := tm2 (List.mem_of_getElem? (i := 35) rfl)
theorem tw2_36 : Cond.instanceMethod yX7_addBuilder ∈ lw_tbl := tm2 (List.mem_of_getElem? (i := 36) rfl)
theorem tw2_37 : Cond.selects RX7 yX7_addBuilder yX7_addBuilder ∈ lw_tbl := tm2 (List.mem_of_getElem? (i := 37) rfl)
theorem tw2_38 : Cond.code yX7_addBuilder cX7_addBuilder 4 (none : Option FieldType) ∈ lw_tbl := tm2 (List.mem_of_getElem? (i := 38) rfl)
theorem tw2_39 : Cond.methodLink RX7 55 yX5_ofKind ∈ lw_tbl := tm2 (List.mem_of_getElem? (i := 39) rfl)
theorem tw2_40 : Cond.static yX5_ofKind ∈ lw_tbl := tm2 (List.mem_of_getElem? (i := 40) rfl)
theorem tw2_41 : Cond.code yX5_ofKind cX5_ofKind 3 (some (FieldType.object "SummerWall$Plain")) ∈ lw_tbl := tm2 (List.mem_of_getElem? (i := 41) rfl)
theorem tw2_42 : Cond.classLink RX5 18 "SummerWall$Horsed" ∈ lw_tbl := tm2 (List.mem_of_getElem? (i := 42) rfl)
theorem tw2_43 : Cond.instantiable RX3 2 ∈ lw_tbl := tm2 (List.mem_of_getElem? (i := 43) rfl)
theorem tw2_44 : Cond.methodLink RX5 20 yX3_init ∈ lw_tbl := tm2 (List.mem_of_getElem? (i := 44) rfl)
theorem tw2_45 : Cond.instanceMethod yX3_init ∈ lw_tbl := tm2 (List.mem_of_getElem? (i := 45) rfl)
theorem tw2_46 : Cond.code yX3_init cX3_init 3 (none : Option FieldType) ∈ lw_tbl := tm2 (List.mem_of_getElem? (i := 46) rfl)
theorem tw2_47 : Cond.methodLink RX3 3 yX5_init ∈ lw_tbl := tm2 (List.mem_of_getElem? (i := 47) rfl)
theorem tw2_48 : Cond.instanceMethod yX5_init ∈ lw_tbl := tm2 (List.mem_of_getElem? (i := 48) rfl)
theorem tw2_49 : Cond.code yX5_init cX5_init 3 (none : Option FieldType) ∈ lw_tbl := tm2 (List.mem_of_getElem? (i := 49) rfl)
theorem tw2_50 : Cond.methodLink RX5 3 objectInit ∈ lw_tbl := tm2 (List.mem_of_getElem? (i := 50) rfl)
theorem tw2_51 : Cond.fieldLink RX5 9 "SummerWall$Plain" "pace" "I" ∈ lw_tbl := tm2 (List.mem_of_getElem? (i := 51) rfl)
theorem tw2_52 : Cond.fieldLink RX3 9 "SummerWall$Horsed" "pace" "I" ∈ lw_tbl := tm2 (List.mem_of_getElem? (i := 52) rfl)
theorem tw2_53 : Cond.sameField RX3 "SummerWall$Plain" "pace" "I" ∈ lw_tbl := tm2 (List.mem_of_getElem? (i := 53) rfl)
theorem tw2_54 : Cond.fieldLink RX4 9 "SummerWall$Paid" "pace" "I" ∈ lw_tbl := tm2 (List.mem_of_getElem? (i := 54) rfl)
theorem tw2_55 : Cond.sameField RX4 "SummerWall$Plain" "pace" "I" ∈ lw_tbl := tm2 (List.mem_of_getElem? (i := 55) rfl)
theorem tw2_56 : Cond.fieldLink RX9 65 "SummerWall$Plain" "pace" "I" ∈ lw_tbl := tm2 (List.mem_of_getElem? (i := 56) rfl)
theorem tw2_57 : Cond.fieldLink RX5 15 "SummerWall$Plain" "horse" "I" ∈ lw_tbl := tm2 (List.mem_of_getElem? (i := 57) rfl)
theorem tw2_58 : Cond.fieldLink RX3 15 "SummerWall$Horsed" "horse" "I" ∈ lw_tbl := tm2 (List.mem_of_getElem? (i := 58) rfl)
theorem tw2_59 : Cond.sameField RX3 "SummerWall$Plain" "horse" "I" ∈ lw_tbl := tm2 (List.mem_of_getElem? (i := 59) rfl)
theorem tw2_60 : Cond.fieldLink RX9 68 "SummerWall$Plain" "horse" "I" ∈ lw_tbl := tm2 (List.mem_of_getElem? (i := 60) rfl)
theorem tw2_61 : Cond.laysFinal RX3 "SummerWall$Plain" "pace" "I" ∈ lw_tbl := tm2 (List.mem_of_getElem? (i := 61) rfl)
theorem tw2_63 : Cond.laysFinal RX3 "SummerWall$Plain" "horse" "I" ∈ lw_tbl := tm2 (List.mem_of_getElem? (i := 63) rfl)
theorem tw2_66 : Cond.classLink RX5 23 "SummerWall$Blind" ∈ lw_tbl := tm2 (List.mem_of_getElem? (i := 66) rfl)
theorem tw2_67 : Cond.instantiable RX0 2 ∈ lw_tbl := tm2 (List.mem_of_getElem? (i := 67) rfl)
theorem tw2_68 : Cond.methodLink RX5 25 yX0_init ∈ lw_tbl := tm2 (List.mem_of_getElem? (i := 68) rfl)
theorem tw2_69 : Cond.instanceMethod yX0_init ∈ lw_tbl := tm2 (List.mem_of_getElem? (i := 69) rfl)
theorem tw2_70 : Cond.code yX0_init cX0_init 3 (none : Option FieldType) ∈ lw_tbl := tm2 (List.mem_of_getElem? (i := 70) rfl)
theorem tw2_71 : Cond.methodLink RX0 3 yX5_init ∈ lw_tbl := tm2 (List.mem_of_getElem? (i := 71) rfl)
theorem tw2_72 : Cond.laysFinal RX0 "SummerWall$Plain" "pace" "I" ∈ lw_tbl := tm2 (List.mem_of_getElem? (i := 72) rfl)
theorem tw2_73 : Cond.laysFinal RX0 "SummerWall$Plain" "horse" "I" ∈ lw_tbl := tm2 (List.mem_of_getElem? (i := 73) rfl)
theorem tw2_75 : Cond.classLink RX5 26 "SummerWall$Giant" ∈ lw_tbl := tm2 (List.mem_of_getElem? (i := 75) rfl)
theorem tw2_76 : Cond.instantiable RX2 2 ∈ lw_tbl := tm2 (List.mem_of_getElem? (i := 76) rfl)
theorem tw2_77 : Cond.methodLink RX5 28 yX2_init ∈ lw_tbl := tm2 (List.mem_of_getElem? (i := 77) rfl)
theorem tw2_78 : Cond.instanceMethod yX2_init ∈ lw_tbl := tm2 (List.mem_of_getElem? (i := 78) rfl)
theorem tw2_79 : Cond.code yX2_init cX2_init 3 (none : Option FieldType) ∈ lw_tbl := tm2 (List.mem_of_getElem? (i := 79) rfl)
theorem tw2_80 : Cond.methodLink RX2 3 yX3_init ∈ lw_tbl := tm2 (List.mem_of_getElem? (i := 80) rfl)
theorem tw2_81 : Cond.laysFinal RX2 "SummerWall$Plain" "pace" "I" ∈ lw_tbl := tm2 (List.mem_of_getElem? (i := 81) rfl)
theorem tw2_82 : Cond.laysFinal RX2 "SummerWall$Plain" "horse" "I" ∈ lw_tbl := tm2 (List.mem_of_getElem? (i := 82) rfl)
theorem tw2_84 : Cond.classLink RX5 29 "SummerWall$Paid" ∈ lw_tbl := tm2 (List.mem_of_getElem? (i := 84) rfl)
theorem tw2_85 : Cond.instantiable RX4 2 ∈ lw_tbl := tm2 (List.mem_of_getElem? (i := 85) rfl)
theorem tw2_86 : Cond.methodLink RX5 31 yX4_init ∈ lw_tbl := tm2 (List.mem_of_getElem? (i := 86) rfl)
theorem tw2_87 : Cond.instanceMethod yX4_init ∈ lw_tbl := tm2 (List.mem_of_getElem? (i := 87) rfl)
theorem tw2_88 : Cond.code yX4_init cX4_init 3 (none : Option FieldType) ∈ lw_tbl := tm2 (List.mem_of_getElem? (i := 88) rfl)
theorem tw2_89 : Cond.methodLink RX4 3 yX5_init ∈ lw_tbl := tm2 (List.mem_of_getElem? (i := 89) rfl)
theorem tw2_90 : Cond.laysFinal RX4 "SummerWall$Plain" "pace" "I" ∈ lw_tbl := tm2 (List.mem_of_getElem? (i := 90) rfl)
theorem tw2_91 : Cond.laysFinal RX4 "SummerWall$Plain" "horse" "I" ∈ lw_tbl := tm2 (List.mem_of_getElem? (i := 91) rfl)
theorem tw2_93 : Cond.classLink RX5 10 "SummerWall$Plain" ∈ lw_tbl := tm2 (List.mem_of_getElem? (i := 93) rfl)
theorem tw2_94 : Cond.instantiable RX5 2 ∈ lw_tbl := tm2 (List.mem_of_getElem? (i := 94) rfl)
theorem tw2_95 : Cond.methodLink RX5 32 yX5_init ∈ lw_tbl := tm2 (List.mem_of_getElem? (i := 95) rfl)
theorem tw2_96 : Cond.laysFinal RX5 "SummerWall$Plain" "pace" "I" ∈ lw_tbl := tm2 (List.mem_of_getElem? (i := 96) rfl)
theorem tw2_97 : Cond.laysFinal RX5 "SummerWall$Plain" "horse" "I" ∈ lw_tbl := tm2 (List.mem_of_getElem? (i := 97) rfl)
theorem tw2_99 : Cond.methodLink RL 18 yX9_of ∈ lw_tbl := tm2 (List.mem_of_getElem? (i := 99) rfl)
theorem tw2_100 : Cond.instanceMethod yX9_of ∈ lw_tbl := tm2 (List.mem_of_getElem? (i := 100) rfl)
theorem tw2_101 : Cond.selects RX9 yX9_of yX9_of ∈ lw_tbl := tm2 (List.mem_of_getElem? (i := 101) rfl)
theorem tw2_102 : Cond.code yX9_of cX9_of 4 (some FieldType.int) ∈ lw_tbl := tm2 (List.mem_of_getElem? (i := 102) rfl)
theorem tw2_103 : Cond.methodLink RX9 59 yX5_kind ∈ lw_tbl := tm2 (List.mem_of_getElem? (i := 103) rfl)
theorem tw2_104 : Cond.instanceMethod yX5_kind ∈ lw_tbl := tm2 (List.mem_of_getElem? (i := 104) rfl)
theorem tw2_105 : Cond.selects RX5 yX5_kind yX5_kind ∈ lw_tbl := tm2 (List.mem_of_getElem? (i := 105) rfl)
theorem tw2_106 : Cond.sameMethod RX5 "SummerWall$Plain" "kind" "()I" ∈ lw_tbl := tm2 (List.mem_of_getElem? (i := 106) rfl)
theorem tw2_107 : Cond.selects RX0 yX5_kind yX0_kind ∈ lw_tbl := tm2 (List.mem_of_getElem? (i := 107) rfl)
theorem tw2_108 : Cond.instanceMethod yX0_kind ∈ lw_tbl := tm2 (List.mem_of_getElem? (i := 108) rfl)
theorem tw2_109 : Cond.code yX0_kind cX0_kind 1 (some FieldType.int) ∈ lw_tbl := tm2 (List.mem_of_getElem? (i := 109) rfl)
theorem tw2_110 : Cond.selects RX2 yX5_kind yX2_kind ∈ lw_tbl := tm2 (List.mem_of_getElem? (i := 110) rfl)
theorem tw2_111 : Cond.instanceMethod yX2_kind ∈ lw_tbl := tm2 (List.mem_of_getElem? (i := 111) rfl)
theorem tw2_112 : Cond.code yX2_kind cX2_kind 1 (some FieldType.int) ∈ lw_tbl := tm2 (List.mem_of_getElem? (i := 112) rfl)
theorem tw2_113 : Cond.selects RX3 yX5_kind yX3_kind ∈ lw_tbl := tm2 (List.mem_of_getElem? (i := 113) rfl)
theorem tw2_114 : Cond.instanceMethod yX3_kind ∈ lw_tbl := tm2 (List.mem_of_getElem? (i := 114) rfl)
theorem tw2_115 : Cond.code yX3_kind cX3_kind 1 (some FieldType.int) ∈ lw_tbl := tm2 (List.mem_of_getElem? (i := 115) rfl)
theorem tw2_116 : Cond.selects RX4 yX5_kind yX4_kind ∈ lw_tbl := tm2 (List.mem_of_getElem? (i := 116) rfl)
theorem tw2_117 : Cond.instanceMethod yX4_kind ∈ lw_tbl := tm2 (List.mem_of_getElem? (i := 117) rfl)
theorem tw2_118 : Cond.code yX4_kind cX4_kind 1 (some FieldType.int) ∈ lw_tbl := tm2 (List.mem_of_getElem? (i := 118) rfl)
theorem tw2_119 : Cond.code yX5_kind cX5_kind 1 (some FieldType.int) ∈ lw_tbl := tm2 (List.mem_of_getElem? (i := 119) rfl)
theorem tw2_120 : Cond.methodLink RX9 74 yX5_hauls ∈ lw_tbl := tm2 (List.mem_of_getElem? (i := 120) rfl)
theorem tw2_121 : Cond.instanceMethod yX5_hauls ∈ lw_tbl := tm2 (List.mem_of_getElem? (i := 121) rfl)
theorem tw2_122 : Cond.selects RX5 yX5_hauls yX5_hauls ∈ lw_tbl := tm2 (List.mem_of_getElem? (i := 122) rfl)
theorem tw2_123 : Cond.sameMethod RX5 "SummerWall$Plain" "hauls" "(II)I" ∈ lw_tbl := tm2 (List.mem_of_getElem? (i := 123) rfl)
theorem tw2_124 : Cond.selects RX0 yX5_hauls yX5_hauls ∈ lw_tbl := tm2 (List.mem_of_getElem? (i := 124) rfl)
theorem tw2_125 : Cond.selects RX2 yX5_hauls yX2_hauls ∈ lw_tbl := tm2 (List.mem_of_getElem? (i := 125) rfl)
theorem tw2_126 : Cond.instanceMethod yX2_hauls ∈ lw_tbl := tm2 (List.mem_of_getElem? (i := 126) rfl)
theorem tw2_127 : Cond.code yX2_hauls cX2_hauls 3 (some FieldType.int) ∈ lw_tbl := tm2 (List.mem_of_getElem? (i := 127) rfl)
theorem tw2_128 : Cond.methodLink RX2 9 yX3_hauls ∈ lw_tbl := tm2 (List.mem_of_getElem? (i := 128) rfl)
theorem tw2_129 : Cond.instanceMethod yX3_hauls ∈ lw_tbl := tm2 (List.mem_of_getElem? (i := 129) rfl)
theorem tw2_130 : Cond.code yX3_hauls cX3_hauls 3 (some FieldType.int) ∈ lw_tbl := tm2 (List.mem_of_getElem? (i := 130) rfl)
theorem tw2_131 : Cond.selects RX3 yX5_hauls yX3_hauls ∈ lw_tbl := tm2 (List.mem_of_getElem? (i := 131) rfl)
theorem tw2_132 : Cond.selects RX4 yX5_hauls yX4_hauls ∈ lw_tbl := tm2 (List.mem_of_getElem? (i := 132) rfl)
theorem tw2_133 : Cond.instanceMethod yX4_hauls ∈ lw_tbl := tm2 (List.mem_of_getElem? (i := 133) rfl)
theorem tw2_134 : Cond.code yX4_hauls cX4_hauls 3 (some FieldType.int) ∈ lw_tbl := tm2 (List.mem_of_getElem? (i := 134) rfl)
theorem tw2_135 : Cond.code yX5_hauls cX5_hauls 3 (some FieldType.int) ∈ lw_tbl := tm2 (List.mem_of_getElem? (i := 135) rfl)
theorem tw2_136 : Cond.methodLink RX9 78 yX5_lays ∈ lw_tbl := tm2 (List.mem_of_getElem? (i := 136) rfl)
theorem tw2_137 : Cond.instanceMethod yX5_lays ∈ lw_tbl := tm2 (List.mem_of_getElem? (i := 137) rfl)
theorem tw2_138 : Cond.selects RX5 yX5_lays yX5_lays ∈ lw_tbl := tm2 (List.mem_of_getElem? (i := 138) rfl)
theorem tw2_139 : Cond.sameMethod RX5 "SummerWall$Plain" "lays" "(III)I" ∈ lw_tbl := tm2 (List.mem_of_getElem? (i := 139) rfl)
theorem tw2_140 : Cond.selects RX0 yX5_lays yX5_lays ∈ lw_tbl := tm2 (List.mem_of_getElem? (i := 140) rfl)
theorem tw2_141 : Cond.selects RX2 yX5_lays yX5_lays ∈ lw_tbl := tm2 (List.mem_of_getElem? (i := 141) rfl)
theorem tw2_142 : Cond.selects RX3 yX5_lays yX5_lays ∈ lw_tbl := tm2 (List.mem_of_getElem? (i := 142) rfl)
theorem tw2_143 : Cond.selects RX4 yX5_lays yX5_lays ∈ lw_tbl := tm2 (List.mem_of_getElem? (i := 143) rfl)
theorem tw2_144 : Cond.code yX5_lays cX5_lays 5 (some FieldType.int) ∈ lw_tbl := tm2 (List.mem_of_getElem? (i := 144) rfl)
theorem tw2_145 : Cond.methodLink RX5 33 yX5_hauls ∈ lw_tbl := tm2 (List.mem_of_getElem? (i := 145) rfl)
theorem tw2_146 : Cond.methodLink RX5 37 yX5_laysInFrost ∈ lw_tbl := tm2 (List.mem_of_getElem? (i := 146) rfl)
theorem tw2_147 : Cond.instanceMethod yX5_laysInFrost ∈ lw_tbl := tm2 (List.mem_of_getElem? (i := 147) rfl)
theorem tw2_148 : Cond.selects RX5 yX5_laysInFrost yX5_laysInFrost ∈ lw_tbl := tm2 (List.mem_of_getElem? (i := 148) rfl)
theorem tw2_149 : Cond.sameMethod RX5 "SummerWall$Plain" "laysInFrost" "(I)I" ∈ lw_tbl := tm2 (List.mem_of_getElem? (i := 149) rfl)
theorem tw2_150 : Cond.selects RX0 yX5_laysInFrost yX0_laysInFrost ∈ lw_tbl := tm2 (List.mem_of_getElem? (i := 150) rfl)
theorem tw2_151 : Cond.instanceMethod yX0_laysInFrost ∈ lw_tbl := tm2 (List.mem_of_getElem? (i := 151) rfl)
theorem tw2_152 : Cond.code yX0_laysInFrost cX0_laysInFrost 2 (some FieldType.int) ∈ lw_tbl := tm2 (List.mem_of_getElem? (i := 152) rfl)
theorem tw2_153 : Cond.selects RX2 yX5_laysInFrost yX5_laysInFrost ∈ lw_tbl := tm2 (List.mem_of_getElem? (i := 153) rfl)
theorem tw2_154 : Cond.selects RX3 yX5_laysInFrost yX5_laysInFrost ∈ lw_tbl := tm2 (List.mem_of_getElem? (i := 154) rfl)
theorem tw2_155 : Cond.selects RX4 yX5_laysInFrost yX5_laysInFrost ∈ lw_tbl := tm2 (List.mem_of_getElem? (i := 155) rfl)
theorem tw2_156 : Cond.code yX5_laysInFrost cX5_laysInFrost 2 (some FieldType.int) ∈ lw_tbl := tm2 (List.mem_of_getElem? (i := 156) rfl)
theorem tw2_157 : Cond.methodLink RX5 41 yX5_laysInThaw ∈ lw_tbl := tm2 (List.mem_of_getElem? (i := 157) rfl)
theorem tw2_158 : Cond.instanceMethod yX5_laysInThaw ∈ lw_tbl := tm2 (List.mem_of_getElem? (i := 158) rfl)
theorem tw2_159 : Cond.selects RX5 yX5_laysInThaw yX5_laysInThaw ∈ lw_tbl := tm2 (List.mem_of_getElem? (i := 159) rfl)
theorem tw2_160 : Cond.sameMethod RX5 "SummerWall$Plain" "laysInThaw" "(I)I" ∈ lw_tbl := tm2 (List.mem_of_getElem? (i := 160) rfl)
theorem tw2_161 : Cond.selects RX0 yX5_laysInThaw yX5_laysInThaw ∈ lw_tbl := tm2 (List.mem_of_getElem? (i := 161) rfl)
theorem tw2_162 : Cond.selects RX2 yX5_laysInThaw yX2_laysInThaw ∈ lw_tbl := tm2 (List.mem_of_getElem? (i := 162) rfl)
theorem tw2_163 : Cond.instanceMethod yX2_laysInThaw ∈ lw_tbl := tm2 (List.mem_of_getElem? (i := 163) rfl)
theorem tw2_164 : Cond.code yX2_laysInThaw cX2_laysInThaw 3 (some FieldType.int) ∈ lw_tbl := tm2 (List.mem_of_getElem? (i := 164) rfl)
theorem tw2_165 : Cond.methodLink RX2 13 (⟨"SummerWall$Horsed", "laysInThaw", "(I)I"⟩ : MethodName) ∈ lw_tbl := tm2 (List.mem_of_getElem? (i := 165) rfl)
theorem tw2_166 : Cond.sameMethod RX3 "SummerWall$Plain" "laysInThaw" "(I)I" ∈ lw_tbl := tm2 (List.mem_of_getElem? (i := 166) rfl)
theorem tw2_167 : Cond.declares yX5_laysInThaw ∈ lw_tbl := tm2 (List.mem_of_getElem? (i := 167) rfl)
theorem tw2_168 : Cond.selects RX3 yX5_laysInThaw yX5_laysInThaw ∈ lw_tbl := tm2 (List.mem_of_getElem? (i := 168) rfl)
theorem tw2_169 : Cond.selects RX4 yX5_laysInThaw yX5_laysInThaw ∈ lw_tbl := tm2 (List.mem_of_getElem? (i := 169) rfl)
theorem tw2_170 : Cond.code yX5_laysInThaw cX5_laysInThaw 2 (some FieldType.int) ∈ lw_tbl := tm2 (List.mem_of_getElem? (i := 170) rfl)
theorem tw2_171 : Cond.methodLink RL 23 yX9_wall ∈ lw_tbl := tm2 (List.mem_of_getElem? (i := 171) rfl)
theorem tw2_172 : Cond.instanceMethod yX9_wall ∈ lw_tbl := tm2 (List.mem_of_getElem? (i := 172) rfl)
theorem tw2_173 : Cond.selects RX9 yX9_wall yX9_wall ∈ lw_tbl := tm2 (List.mem_of_getElem? (i := 173) rfl)
theorem tw2_174 : Cond.code yX9_wall cX9_wall 3 (some FieldType.int) ∈ lw_tbl := tm2 (List.mem_of_getElem? (i := 174) rfl)
theorem tw2_175 : Cond.methodLink RX9 82 yX9_changeStones ∈ lw_tbl := tm2 (List.mem_of_getElem? (i := 175) rfl)
theorem tw2_177 : Cond.instanceMethod yX9_changeStones ∈ lw_tbl := tm2 (List.mem_of_getElem? (i := 177) rfl)
theorem tw2_178 : Cond.code yX9_changeStones cX9_changeStones 3 (some FieldType.int) ∈ lw_tbl := tm2 (List.mem_of_getElem? (i := 178) rfl)
theorem tw2_179 : Cond.methodLink RX9 86 yX9_changeDays ∈ lw_tbl := tm2 (List.mem_of_getElem? (i := 179) rfl)
theorem tw2_181 : Cond.instanceMethod yX9_changeDays ∈ lw_tbl := tm2 (List.mem_of_getElem? (i := 181) rfl)
theorem tw2_182 : Cond.code yX9_changeDays cX9_changeDays 3 (some FieldType.int) ∈ lw_tbl := tm2 (List.mem_of_getElem? (i := 182) rfl)
theorem tw2_183 : Cond.methodLink RX9 89 yX9_changeFrost ∈ lw_tbl := tm2 (List.mem_of_getElem? (i := 183) rfl)
theorem tw2_185 : Cond.instanceMethod yX9_changeFrost ∈ lw_tbl := tm2 (List.mem_of_getElem? (i := 185) rfl)
theorem tw2_186 : Cond.code yX9_changeFrost cX9_changeFrost 3 (some FieldType.int) ∈ lw_tbl := tm2 (List.mem_of_getElem? (i := 186) rfl)
theorem tw2_187 : Cond.methodLink RX9 92 yX9_changeThaw ∈ lw_tbl := tm2 (List.mem_of_getElem? (i := 187) rfl)
theorem tw2_189 : Cond.instanceMethod yX9_changeThaw ∈ lw_tbl := tm2 (List.mem_of_getElem? (i := 189) rfl)
theorem tw2_190 : Cond.code yX9_changeThaw cX9_changeThaw 3 (some FieldType.int) ∈ lw_tbl := tm2 (List.mem_of_getElem? (i := 190) rfl)
theorem tw2_191 : Cond.methodLink RL 27 yX9_hindrance ∈ lw_tbl := tm2 (List.mem_of_getElem? (i := 191) rfl)
theorem tw2_192 : Cond.instanceMethod yX9_hindrance ∈ lw_tbl := tm2 (List.mem_of_getElem? (i := 192) rfl)
theorem tw2_193 : Cond.selects RX9 yX9_hindrance yX9_hindrance ∈ lw_tbl := tm2 (List.mem_of_getElem? (i := 193) rfl)
theorem tw2_194 : Cond.code yX9_hindrance cX9_hindrance 3 (some FieldType.int) ∈ lw_tbl := tm2 (List.mem_of_getElem? (i := 194) rfl)
theorem tw2_195 : Cond.methodLink RX9 113 yX7_addHindrance ∈ lw_tbl := tm2 (List.mem_of_getElem? (i := 195) rfl)
theorem tw2_196 : Cond.instanceMethod yX7_addHindrance ∈ lw_tbl := tm2 (List.mem_of_getElem? (i := 196) rfl)
theorem tw2_197 : Cond.selects RX7 yX7_addHindrance yX7_addHindrance ∈ lw_tbl := tm2 (List.mem_of_getElem? (i := 197) rfl)
theorem tw2_198 : Cond.code yX7_addHindrance cX7_addHindrance 3 (none : Option FieldType) ∈ lw_tbl := tm2 (List.mem_of_getElem? (i := 198) rfl)
theorem tw2_199 : Cond.methodLink RL 31 yX9_oath ∈ lw_tbl := tm2 (List.mem_of_getElem? (i := 199) rfl)
theorem tw2_200 : Cond.instanceMethod yX9_oath ∈ lw_tbl := tm2 (List.mem_of_getElem? (i := 200) rfl)
theorem tw2_201 : Cond.selects RX9 yX9_oath yX9_oath ∈ lw_tbl := tm2 (List.mem_of_getElem? (i := 201) rfl)
theorem tw2_202 : Cond.code yX9_oath cX9_oath 4 (some FieldType.int) ∈ lw_tbl := tm2 (List.mem_of_getElem? (i := 202) rfl)
theorem tw2_203 : Cond.methodLink RL 35 yX9_type ∈ lw_tbl := tm2 (List.mem_of_getElem? (i := 203) rfl)
theorem tw2_204 : Cond.instanceMethod yX9_type ∈ lw_tbl := tm2 (List.mem_of_getElem? (i := 204) rfl)
theorem tw2_205 : Cond.selects RX9 yX9_type yX9_type ∈ lw_tbl := tm2 (List.mem_of_getElem? (i := 205) rfl)
theorem tw2_206 : Cond.code yX9_type cX9_type 2 (some FieldType.int) ∈ lw_tbl := tm2 (List.mem_of_getElem? (i := 206) rfl)
theorem tw2_207 : Cond.methodLink RX9 123 yX8_append ∈ lw_tbl := tm2 (List.mem_of_getElem? (i := 207) rfl)
theorem tw2_208 : Cond.instanceMethod yX8_append ∈ lw_tbl := tm2 (List.mem_of_getElem? (i := 208) rfl)
theorem tw2_209 : Cond.selects RX8 yX8_append yX8_append ∈ lw_tbl := tm2 (List.mem_of_getElem? (i := 209) rfl)
theorem tw2_210 : Cond.code yX8_append cX8_append 2 (none : Option FieldType) ∈ lw_tbl := tm2 (List.mem_of_getElem? (i := 210) rfl)
theorem tw2_211 : Cond.methodLink RL 40 yX9_bargain ∈ lw_tbl := tm2 (List.mem_of_getElem? (i := 211) rfl)
theorem tw2_212 : Cond.instanceMethod yX9_bargain ∈ lw_tbl := tm2 (List.mem_of_getElem? (i := 212) rfl)
theorem tw2_213 : Cond.selects RX9 yX9_bargain yX9_bargain ∈ lw_tbl := tm2 (List.mem_of_getElem? (i := 213) rfl)
theorem tw2_214 : Cond.code yX9_bargain cX9_bargain 2 (some FieldType.int) ∈ lw_tbl := tm2 (List.mem_of_getElem? (i := 214) rfl)
theorem tw2_215 : Cond.methodLink RX9 127 yX8_read ∈ lw_tbl := tm2 (List.mem_of_getElem? (i := 215) rfl)
theorem tw2_216 : Cond.instanceMethod yX8_read ∈ lw_tbl := tm2 (List.mem_of_getElem? (i := 216) rfl)
theorem tw2_217 : Cond.selects RX8 yX8_read yX8_read ∈ lw_tbl := tm2 (List.mem_of_getElem? (i := 217) rfl)
theorem tw2_218 : Cond.code yX8_read cX8_read 1 (some FieldType.boolean) ∈ lw_tbl := tm2 (List.mem_of_getElem? (i := 218) rfl)
theorem tw2_219 : Cond.methodLink RX8 44 yX8_readNumber ∈ lw_tbl := tm2 (List.mem_of_getElem? (i := 219) rfl)
theorem tw2_221 : Cond.instanceMethod yX8_readNumber ∈ lw_tbl := tm2 (List.mem_of_getElem? (i := 221) rfl)
theorem tw2_222 : Cond.code yX8_readNumber cX8_readNumber 4 (some FieldType.int) ∈ lw_tbl := tm2 (List.mem_of_getElem? (i := 222) rfl)
theorem tw2_223 : Cond.methodLink RX8 62 yX8_next ∈ lw_tbl := tm2 (List.mem_of_getElem? (i := 223) rfl)
theorem tw2_225 : Cond.instanceMethod yX8_next ∈ lw_tbl := tm2 (List.mem_of_getElem? (i := 225) rfl)
theorem tw2_226 : Cond.code yX8_next cX8_next 1 (some FieldType.char) ∈ lw_tbl := tm2 (List.mem_of_getElem? (i := 226) rfl)
theorem tw2_227 : Cond.methodLink RX8 90 yX8_isDigit ∈ lw_tbl := tm2 (List.mem_of_getElem? (i := 227) rfl)
theorem tw2_228 : Cond.static yX8_isDigit ∈ lw_tbl := tm2 (List.mem_of_getElem? (i := 228) rfl)
theorem tw2_229 : Cond.code yX8_isDigit cX8_isDigit 1 (some FieldType.boolean) ∈ lw_tbl := tm2 (List.mem_of_getElem? (i := 229) rfl)
theorem tw2_230 : Cond.methodLinkNest RX8 86 yX9_within "SummerWall" ∈ lw_tbl := tm2 (List.mem_of_getElem? (i := 230) rfl)
theorem tw2_231 : Cond.methodLink RX8 76 yX8_failAt ∈ lw_tbl := tm2 (List.mem_of_getElem? (i := 231) rfl)
theorem tw2_233 : Cond.instanceMethod yX8_failAt ∈ lw_tbl := tm2 (List.mem_of_getElem? (i := 233) rfl)
theorem tw2_234 : Cond.code yX8_failAt cX8_failAt 2 (some FieldType.boolean) ∈ lw_tbl := tm2 (List.mem_of_getElem? (i := 234) rfl)
theorem tw2_235 : Cond.methodLink RX8 51 yX8_readSign ∈ lw_tbl := tm2 (List.mem_of_getElem? (i := 235) rfl)
theorem tw2_237 : Cond.instanceMethod yX8_readSign ∈ lw_tbl := tm2 (List.mem_of_getElem? (i := 237) rfl)
theorem tw2_238 : Cond.code yX8_readSign cX8_readSign 2 (some FieldType.boolean) ∈ lw_tbl := tm2 (List.mem_of_getElem? (i := 238) rfl)
theorem tw2_239 : Cond.methodLink RX8 58 yX8_readBuilders ∈ lw_tbl := tm2 (List.mem_of_getElem? (i := 239) rfl)
theorem tw3_1 : Cond.instanceMethod yX8_readBuilders ∈ lw_tbl := tm3 (List.mem_of_getElem? (i := 1) rfl)
theorem tw3_2 : Cond.code yX8_readBuilders cX8_readBuilders 2 (some FieldType.boolean) ∈ lw_tbl := tm3 (List.mem_of_getElem? (i := 2) rfl)
theorem tw3_3 : Cond.methodLink RX8 69 yX8_readBuilder ∈ lw_tbl := tm3 (List.mem_of_getElem? (i := 3) rfl)
theorem tw3_5 : Cond.instanceMethod yX8_readBuilder ∈ lw_tbl := tm3 (List.mem_of_getElem? (i := 5) rfl)
theorem tw3_6 : Cond.code yX8_readBuilder cX8_readBuilder 4 (some FieldType.boolean) ∈ lw_tbl := tm3 (List.mem_of_getElem? (i := 6) rfl)
theorem tw3_7 : Cond.methodLink RX8 72 yX8_kindOf ∈ lw_tbl := tm3 (List.mem_of_getElem? (i := 7) rfl)
theorem tw3_8 : Cond.static yX8_kindOf ∈ lw_tbl := tm3 (List.mem_of_getElem? (i := 8) rfl)
theorem tw3_9 : Cond.code yX8_kindOf cX8_kindOf 1 (some FieldType.int) ∈ lw_tbl := tm3 (List.mem_of_getElem? (i := 9) rfl)
theorem tw3_10 : Cond.methodLink RX8 80 yX8_readDigit ∈ lw_tbl := tm3 (List.mem_of_getElem? (i := 10) rfl)
theorem tw3_12 : Cond.instanceMethod yX8_readDigit ∈ lw_tbl := tm3 (List.mem_of_getElem? (i := 12) rfl)
theorem tw3_13 : Cond.code yX8_readDigit cX8_readDigit 3 (some FieldType.int) ∈ lw_tbl := tm3 (List.mem_of_getElem? (i := 13) rfl)
theorem tw3_14 : Cond.methodLink RX8 66 yX8_readHindrances ∈ lw_tbl := tm3 (List.mem_of_getElem? (i := 14) rfl)
theorem tw3_16 : Cond.instanceMethod yX8_readHindrances ∈ lw_tbl := tm3 (List.mem_of_getElem? (i := 16) rfl)
theorem tw3_17 : Cond.code yX8_readHindrances cX8_readHindrances 2 (some FieldType.boolean) ∈ lw_tbl := tm3 (List.mem_of_getElem? (i := 17) rfl)
theorem tw3_18 : Cond.methodLink RX8 83 yX8_readHindrance ∈ lw_tbl := tm3 (List.mem_of_getElem? (i := 18) rfl)
theorem tw3_20 : Cond.instanceMethod yX8_readHindrance ∈ lw_tbl := tm3 (List.mem_of_getElem? (i := 20) rfl)
theorem tw3_21 : Cond.code yX8_readHindrance cX8_readHindrance 4 (some FieldType.boolean) ∈ lw_tbl := tm3 (List.mem_of_getElem? (i := 21) rfl)
theorem tw3_22 : Cond.methodLink RX9 134 yX7_begin ∈ lw_tbl := tm3 (List.mem_of_getElem? (i := 22) rfl)
theorem tw3_23 : Cond.instanceMethod yX7_begin ∈ lw_tbl := tm3 (List.mem_of_getElem? (i := 23) rfl)
theorem tw3_24 : Cond.selects RX7 yX7_begin yX7_begin ∈ lw_tbl := tm3 (List.mem_of_getElem? (i := 24) rfl)
theorem tw3_25 : Cond.code yX7_begin cX7_begin 3 (none : Option FieldType) ∈ lw_tbl := tm3 (List.mem_of_getElem? (i := 25) rfl)
theorem tw3_26 : Cond.methodLink RX7 130 yX7_addBuilder ∈ lw_tbl := tm3 (List.mem_of_getElem? (i := 26) rfl)
theorem tw3_27 : Cond.methodLink RX7 137 yX7_addHindrance ∈ lw_tbl := tm3 (List.mem_of_getElem? (i := 27) rfl)
theorem tw3_28 : Cond.methodLink RL 45 yX9_count ∈ lw_tbl := tm3 (List.mem_of_getElem? (i := 28) rfl)
theorem tw3_29 : Cond.instanceMethod yX9_count ∈ lw_tbl := tm3 (List.mem_of_getElem? (i := 29) rfl)
theorem tw3_30 : Cond.selects RX9 yX9_count yX9_count ∈ lw_tbl := tm3 (List.mem_of_getElem? (i := 30) rfl)
theorem tw3_31 : Cond.code yX9_count cX9_count 2 (some FieldType.int) ∈ lw_tbl := tm3 (List.mem_of_getElem? (i := 31) rfl)
theorem tw3_32 : Cond.methodLink RX9 141 yX7_costToday ∈ lw_tbl := tm3 (List.mem_of_getElem? (i := 32) rfl)
theorem tw3_33 : Cond.instanceMethod yX7_costToday ∈ lw_tbl := tm3 (List.mem_of_getElem? (i := 33) rfl)
theorem tw3_34 : Cond.selects RX7 yX7_costToday yX7_costToday ∈ lw_tbl := tm3 (List.mem_of_getElem? (i := 34) rfl)
theorem tw3_35 : Cond.code yX7_costToday cX7_costToday 1 (some FieldType.int) ∈ lw_tbl := tm3 (List.mem_of_getElem? (i := 35) rfl)
theorem tw3_36 : Cond.methodLink RX7 79 yX7_costOf ∈ lw_tbl := tm3 (List.mem_of_getElem? (i := 36) rfl)
theorem tw3_37 : Cond.instanceMethod yX7_costOf ∈ lw_tbl := tm3 (List.mem_of_getElem? (i := 37) rfl)
theorem tw3_38 : Cond.selects RX7 yX7_costOf yX7_costOf ∈ lw_tbl := tm3 (List.mem_of_getElem? (i := 38) rfl)
theorem tw3_39 : Cond.code yX7_costOf cX7_costOf 4 (some FieldType.int) ∈ lw_tbl := tm3 (List.mem_of_getElem? (i := 39) rfl)
theorem tw3_40 : Cond.methodLink RL 49 yX9_day ∈ lw_tbl := tm3 (List.mem_of_getElem? (i := 40) rfl)
theorem tw3_41 : Cond.instanceMethod yX9_day ∈ lw_tbl := tm3 (List.mem_of_getElem? (i := 41) rfl)
theorem tw3_42 : Cond.selects RX9 yX9_day yX9_day ∈ lw_tbl := tm3 (List.mem_of_getElem? (i := 42) rfl)
theorem tw3_43 : Cond.code yX9_day cX9_day 2 (some FieldType.int) ∈ lw_tbl := tm3 (List.mem_of_getElem? (i := 43) rfl)
theorem tw3_44 : Cond.methodLink RX9 147 yX7_isSummer ∈ lw_tbl := tm3 (List.mem_of_getElem? (i := 44) rfl)
theorem tw3_45 : Cond.instanceMethod yX7_isSummer ∈ lw_tbl := tm3 (List.mem_of_getElem? (i := 45) rfl)
theorem tw3_46 : Cond.selects RX7 yX7_isSummer yX7_isSummer ∈ lw_tbl := tm3 (List.mem_of_getElem? (i := 46) rfl)
theorem tw3_47 : Cond.code yX7_isSummer cX7_isSummer 1 (some FieldType.boolean) ∈ lw_tbl := tm3 (List.mem_of_getElem? (i := 47) rfl)
theorem tw3_48 : Cond.methodLink RX9 150 yX7_remember ∈ lw_tbl := tm3 (List.mem_of_getElem? (i := 48) rfl)
theorem tw3_49 : Cond.instanceMethod yX7_remember ∈ lw_tbl := tm3 (List.mem_of_getElem? (i := 49) rfl)
theorem tw3_50 : Cond.selects RX7 yX7_remember yX7_remember ∈ lw_tbl := tm3 (List.mem_of_getElem? (i := 50) rfl)
theorem tw3_51 : Cond.code yX7_remember cX7_remember 2 (none : Option FieldType) ∈ lw_tbl := tm3 (List.mem_of_getElem? (i := 51) rfl)
theorem tw3_52 : Cond.methodLink RX7 110 arraycopyName ∈ lw_tbl := tm3 (List.mem_of_getElem? (i := 52) rfl)
theorem tw3_53 : Cond.static arraycopyName ∈ lw_tbl := tm3 (List.mem_of_getElem? (i := 53) rfl)
theorem tw3_54 : Cond.native arraycopyName ∈ lw_tbl := tm3 (List.mem_of_getElem? (i := 54) rfl)
theorem tw3_55 : Cond.methodLink RX9 153 yX7_pass ∈ lw_tbl := tm3 (List.mem_of_getElem? (i := 55) rfl)
theorem tw3_56 : Cond.instanceMethod yX7_pass ∈ lw_tbl := tm3 (List.mem_of_getElem? (i := 56) rfl)
theorem tw3_57 : Cond.selects RX7 yX7_pass yX7_pass ∈ lw_tbl := tm3 (List.mem_of_getElem? (i := 57) rfl)
theorem tw3_58 : Cond.code yX7_pass cX7_pass 3 (some FieldType.int) ∈ lw_tbl := tm3 (List.mem_of_getElem? (i := 58) rfl)
theorem tw3_59 : Cond.methodLink RX7 93 yX7_costToday ∈ lw_tbl := tm3 (List.mem_of_getElem? (i := 59) rfl)
theorem tw3_60 : Cond.methodLink RX7 97 yX7_laidBehind ∈ lw_tbl := tm3 (List.mem_of_getElem? (i := 60) rfl)
theorem tw3_61 : Cond.instanceMethod yX7_laidBehind ∈ lw_tbl := tm3 (List.mem_of_getElem? (i := 61) rfl)
theorem tw3_62 : Cond.selects RX7 yX7_laidBehind yX7_laidBehind ∈ lw_tbl := tm3 (List.mem_of_getElem? (i := 62) rfl)
theorem tw3_63 : Cond.code yX7_laidBehind cX7_laidBehind 5 (some FieldType.int) ∈ lw_tbl := tm3 (List.mem_of_getElem? (i := 63) rfl)
theorem tw3_64 : Cond.methodLink RX7 66 yX7_layTogether ∈ lw_tbl := tm3 (List.mem_of_getElem? (i := 64) rfl)
theorem tw3_65 : Cond.instanceMethod yX7_layTogether ∈ lw_tbl := tm3 (List.mem_of_getElem? (i := 65) rfl)
theorem tw3_66 : Cond.selects RX7 yX7_layTogether yX7_layTogether ∈ lw_tbl := tm3 (List.mem_of_getElem? (i := 66) rfl)
theorem tw3_67 : Cond.code yX7_layTogether cX7_layTogether 8 (some FieldType.int) ∈ lw_tbl := tm3 (List.mem_of_getElem? (i := 67) rfl)
theorem tw3_68 : Cond.methodLink RX7 62 yX5_lays ∈ lw_tbl := tm3 (List.mem_of_getElem? (i := 68) rfl)
theorem tw3_69 : Cond.methodLink RX7 70 yJ9_min_7cf53 ∈ lw_tbl := tm3 (List.mem_of_getElem? (i := 69) rfl)
theorem tw3_70 : Cond.static yJ9_min_7cf53 ∈ lw_tbl := tm3 (List.mem_of_getElem? (i := 70) rfl)
theorem tw3_71 : Cond.code yJ9_min_7cf53 cJ9_min_7cf53 2 (some FieldType.int) ∈ lw_tbl := tm3 (List.mem_of_getElem? (i := 71) rfl)
theorem tw3_72 : Cond.methodLink RL 53 yX9_use ∈ lw_tbl := tm3 (List.mem_of_getElem? (i := 72) rfl)
theorem tw3_73 : Cond.instanceMethod yX9_use ∈ lw_tbl := tm3 (List.mem_of_getElem? (i := 73) rfl)
theorem tw3_74 : Cond.selects RX9 yX9_use yX9_use ∈ lw_tbl := tm3 (List.mem_of_getElem? (i := 74) rfl)
theorem tw3_75 : Cond.code yX9_use cX9_use 2 (some FieldType.int) ∈ lw_tbl := tm3 (List.mem_of_getElem? (i := 75) rfl)
theorem tw3_76 : Cond.methodLink RX9 156 yX7_isUsed ∈ lw_tbl := tm3 (List.mem_of_getElem? (i := 76) rfl)
theorem tw3_77 : Cond.instanceMethod yX7_isUsed ∈ lw_tbl := tm3 (List.mem_of_getElem? (i := 77) rfl)
theorem tw3_78 : Cond.selects RX7 yX7_isUsed yX7_isUsed ∈ lw_tbl := tm3 (List.mem_of_getElem? (i := 78) rfl)
theorem tw3_79 : Cond.code yX7_isUsed cX7_isUsed 2 (some FieldType.boolean) ∈ lw_tbl := tm3 (List.mem_of_getElem? (i := 79) rfl)
theorem tw3_80 : Cond.methodLink RX9 160 yX7_hinder ∈ lw_tbl := tm3 (List.mem_of_getElem? (i := 80) rfl)
theorem tw3_81 : Cond.instanceMethod yX7_hinder ∈ lw_tbl := tm3 (List.mem_of_getElem? (i := 81) rfl)
theorem tw3_82 : Cond.selects RX7 yX7_hinder yX7_hinder ∈ lw_tbl := tm3 (List.mem_of_getElem? (i := 82) rfl)
theorem tw3_83 : Cond.code yX7_hinder cX7_hinder 2 (none : Option FieldType) ∈ lw_tbl := tm3 (List.mem_of_getElem? (i := 83) rfl)
theorem tw3_84 : Cond.methodLink RX7 83 yX7_breaksSworn ∈ lw_tbl := tm3 (List.mem_of_getElem? (i := 84) rfl)
theorem tw3_85 : Cond.instanceMethod yX7_breaksSworn ∈ lw_tbl := tm3 (List.mem_of_getElem? (i := 85) rfl)
theorem tw3_86 : Cond.selects RX7 yX7_breaksSworn yX7_breaksSworn ∈ lw_tbl := tm3 (List.mem_of_getElem? (i := 86) rfl)
theorem tw3_87 : Cond.code yX7_breaksSworn cX7_breaksSworn 3 (some FieldType.boolean) ∈ lw_tbl := tm3 (List.mem_of_getElem? (i := 87) rfl)
theorem tw3_88 : Cond.methodLink RL 57 yX9_drift ∈ lw_tbl := tm3 (List.mem_of_getElem? (i := 88) rfl)
theorem tw3_89 : Cond.instanceMethod yX9_drift ∈ lw_tbl := tm3 (List.mem_of_getElem? (i := 89) rfl)
theorem tw3_90 : Cond.selects RX9 yX9_drift yX9_drift ∈ lw_tbl := tm3 (List.mem_of_getElem? (i := 90) rfl)
theorem tw3_91 : Cond.code yX9_drift cX9_drift 4 (some FieldType.int) ∈ lw_tbl := tm3 (List.mem_of_getElem? (i := 91) rfl)
theorem tw3_92 : Cond.methodLink RX9 164 yX7_drawWeather ∈ lw_tbl := tm3 (List.mem_of_getElem? (i := 92) rfl)
theorem tw3_93 : Cond.instanceMethod yX7_drawWeather ∈ lw_tbl := tm3 (List.mem_of_getElem? (i := 93) rfl)
theorem tw3_94 : Cond.selects RX7 yX7_drawWeather yX7_drawWeather ∈ lw_tbl := tm3 (List.mem_of_getElem? (i := 94) rfl)
theorem tw3_95 : Cond.code yX7_drawWeather cX7_drawWeather 2 (some FieldType.int) ∈ lw_tbl := tm3 (List.mem_of_getElem? (i := 95) rfl)
theorem tw3_96 : Cond.constantLong RX7 100 (1103515245) ∈ lw_tbl := tm3 (List.mem_of_getElem? (i := 96) rfl)
theorem tw3_97 : Cond.constantLong RX7 102 (12345) ∈ lw_tbl := tm3 (List.mem_of_getElem? (i := 97) rfl)
theorem tw3_98 : Cond.constantLong RX7 104 (2147483647) ∈ lw_tbl := tm3 (List.mem_of_getElem? (i := 98) rfl)
theorem tw3_99 : Cond.constant RX7 106 (65536) ∈ lw_tbl := tm3 (List.mem_of_getElem? (i := 99) rfl)
theorem tw3_100 : Cond.methodLink RL 61 yX9_undo ∈ lw_tbl := tm3 (List.mem_of_getElem? (i := 100) rfl)
theorem tw3_101 : Cond.instanceMethod yX9_undo ∈ lw_tbl := tm3 (List.mem_of_getElem? (i := 101) rfl)
theorem tw3_102 : Cond.selects RX9 yX9_undo yX9_undo ∈ lw_tbl := tm3 (List.mem_of_getElem? (i := 102) rfl)
theorem tw3_103 : Cond.code yX9_undo cX9_undo 1 (some FieldType.int) ∈ lw_tbl := tm3 (List.mem_of_getElem? (i := 103) rfl)
theorem tw3_104 : Cond.methodLink RX9 167 yX7_recall ∈ lw_tbl := tm3 (List.mem_of_getElem? (i := 104) rfl)
theorem tw3_105 : Cond.instanceMethod yX7_recall ∈ lw_tbl := tm3 (List.mem_of_getElem? (i := 105) rfl)
theorem tw3_106 : Cond.selects RX7 yX7_recall yX7_recall ∈ lw_tbl := tm3 (List.mem_of_getElem? (i := 106) rfl)
theorem tw3_107 : Cond.code yX7_recall cX7_recall 2 (none : Option FieldType) ∈ lw_tbl := tm3 (List.mem_of_getElem? (i := 107) rfl)
theorem tw3_108 : Cond.methodLink RL 65 yX9_seed ∈ lw_tbl := tm3 (List.mem_of_getElem? (i := 108) rfl)
theorem tw3_109 : Cond.instanceMethod yX9_seed ∈ lw_tbl := tm3 (List.mem_of_getElem? (i := 109) rfl)
theorem tw3_110 : Cond.selects RX9 yX9_seed yX9_seed ∈ lw_tbl := tm3 (List.mem_of_getElem? (i := 110) rfl)
theorem tw3_111 : Cond.code yX9_seed cX9_seed 3 (some FieldType.int) ∈ lw_tbl := tm3 (List.mem_of_getElem? (i := 111) rfl)
theorem tw3_112 : Cond.methodLink RL 69 yX9_odds ∈ lw_tbl := tm3 (List.mem_of_getElem? (i := 112) rfl)
theorem tw3_113 : Cond.instanceMethod yX9_odds ∈ lw_tbl := tm3 (List.mem_of_getElem? (i := 113) rfl)
theorem tw3_114 : Cond.selects RX9 yX9_odds yX9_odds ∈ lw_tbl := tm3 (List.mem_of_getElem? (i := 114) rfl)
theorem tw3_115 : Cond.code yX9_odds cX9_odds 1 (some FieldType.int) ∈ lw_tbl := tm3 (List.mem_of_getElem? (i := 115) rfl)
theorem tw3_116 : Cond.methodLink RX9 173 yX1_oddsNow ∈ lw_tbl := tm3 (List.mem_of_getElem? (i := 116) rfl)
theorem tw3_117 : Cond.instanceMethod yX1_oddsNow ∈ lw_tbl := tm3 (List.mem_of_getElem? (i := 117) rfl)
theorem tw3_118 : Cond.selects RX1 yX1_oddsNow yX1_oddsNow ∈ lw_tbl := tm3 (List.mem_of_getElem? (i := 118) rfl)
theorem tw3_119 : Cond.code yX1_oddsNow cX1_oddsNow 4 (some FieldType.int) ∈ lw_tbl := tm3 (List.mem_of_getElem? (i := 119) rfl)
theorem tw3_120 : Cond.methodLink RX1 42 yX7_costToday ∈ lw_tbl := tm3 (List.mem_of_getElem? (i := 120) rfl)
theorem tw3_121 : Cond.methodLink RX1 46 yX1_look ∈ lw_tbl := tm3 (List.mem_of_getElem? (i := 121) rfl)
theorem tw3_123 : Cond.instanceMethod yX1_look ∈ lw_tbl := tm3 (List.mem_of_getElem? (i := 123) rfl)
theorem tw3_124 : Cond.code yX1_look cX1_look 5 (none : Option FieldType) ∈ lw_tbl := tm3 (List.mem_of_getElem? (i := 124) rfl)
theorem tw3_125 : Cond.methodLink RX1 50 yX1_reckonLays ∈ lw_tbl := tm3 (List.mem_of_getElem? (i := 125) rfl)
theorem tw3_127 : Cond.instanceMethod yX1_reckonLays ∈ lw_tbl := tm3 (List.mem_of_getElem? (i := 127) rfl)
theorem tw3_128 : Cond.code yX1_reckonLays cX1_reckonLays 6 (none : Option FieldType) ∈ lw_tbl := tm3 (List.mem_of_getElem? (i := 128) rfl)
theorem tw3_129 : Cond.methodLink RX1 135 yX7_layTogether ∈ lw_tbl := tm3 (List.mem_of_getElem? (i := 129) rfl)
theorem tw3_130 : Cond.methodLink RX1 93 yX1_fillBehind ∈ lw_tbl := tm3 (List.mem_of_getElem? (i := 130) rfl)
theorem tw3_132 : Cond.instanceMethod yX1_fillBehind ∈ lw_tbl := tm3 (List.mem_of_getElem? (i := 132) rfl)
theorem tw3_133 : Cond.code yX1_fillBehind cX1_fillBehind 5 (none : Option FieldType) ∈ lw_tbl := tm3 (List.mem_of_getElem? (i := 133) rfl)
theorem tw3_134 : Cond.methodLink RX1 121 yX1_laidBehind ∈ lw_tbl := tm3 (List.mem_of_getElem? (i := 134) rfl)
theorem tw3_136 : Cond.instanceMethod yX1_laidBehind ∈ lw_tbl := tm3 (List.mem_of_getElem? (i := 136) rfl)
theorem tw3_137 : Cond.code yX1_laidBehind cX1_laidBehind 5 (some FieldType.int) ∈ lw_tbl := tm3 (List.mem_of_getElem? (i := 137) rfl)
theorem tw3_138 : Cond.methodLink RX1 139 yJ9_min_7cf53 ∈ lw_tbl := tm3 (List.mem_of_getElem? (i := 138) rfl)
theorem tw3_139 : Cond.methodLink RX1 54 yX1_goBackToTomorrow ∈ lw_tbl := tm3 (List.mem_of_getElem? (i := 139) rfl)
theorem tw3_141 : Cond.instanceMethod yX1_goBackToTomorrow ∈ lw_tbl := tm3 (List.mem_of_getElem? (i := 141) rfl)
theorem tw3_142 : Cond.code yX1_goBackToTomorrow cX1_goBackToTomorrow 2 (none : Option FieldType) ∈ lw_tbl := tm3 (List.mem_of_getElem? (i := 142) rfl)
theorem tw3_143 : Cond.methodLink RX1 64 yX1_startAtSummer ∈ lw_tbl := tm3 (List.mem_of_getElem? (i := 143) rfl)
theorem tw3_145 : Cond.instanceMethod yX1_startAtSummer ∈ lw_tbl := tm3 (List.mem_of_getElem? (i := 145) rfl)
theorem tw3_146 : Cond.code yX1_startAtSummer cX1_startAtSummer 2 (none : Option FieldType) ∈ lw_tbl := tm3 (List.mem_of_getElem? (i := 146) rfl)
theorem tw3_147 : Cond.constant RX1 100 (1000000) ∈ lw_tbl := tm3 (List.mem_of_getElem? (i := 147) rfl)
theorem tw3_148 : Cond.methodLink RX1 71 yX1_stepBack ∈ lw_tbl := tm3 (List.mem_of_getElem? (i := 148) rfl)
theorem tw3_150 : Cond.instanceMethod yX1_stepBack ∈ lw_tbl := tm3 (List.mem_of_getElem? (i := 150) rfl)
theorem tw3_151 : Cond.code yX1_stepBack cX1_stepBack 7 (none : Option FieldType) ∈ lw_tbl := tm3 (List.mem_of_getElem? (i := 151) rfl)
theorem tw3_152 : Cond.methodLink RX1 60 yX1_oddsToday ∈ lw_tbl := tm3 (List.mem_of_getElem? (i := 152) rfl)
theorem tw3_154 : Cond.instanceMethod yX1_oddsToday ∈ lw_tbl := tm3 (List.mem_of_getElem? (i := 154) rfl)
theorem tw3_155 : Cond.code yX1_oddsToday cX1_oddsToday 3 (some FieldType.int) ∈ lw_tbl := tm3 (List.mem_of_getElem? (i := 155) rfl)
theorem tw3_156 : Cond.methodLink RL 73 yX9_oddsAt ∈ lw_tbl := tm3 (List.mem_of_getElem? (i := 156) rfl)
theorem tw3_157 : Cond.instanceMethod yX9_oddsAt ∈ lw_tbl := tm3 (List.mem_of_getElem? (i := 157) rfl)
theorem tw3_158 : Cond.selects RX9 yX9_oddsAt yX9_oddsAt ∈ lw_tbl := tm3 (List.mem_of_getElem? (i := 158) rfl)
theorem tw3_159 : Cond.code yX9_oddsAt cX9_oddsAt 3 (some FieldType.int) ∈ lw_tbl := tm3 (List.mem_of_getElem? (i := 159) rfl)
theorem tw3_160 : Cond.methodLink RX9 177 yX1_oddsFrom ∈ lw_tbl := tm3 (List.mem_of_getElem? (i := 160) rfl)
theorem tw3_161 : Cond.instanceMethod yX1_oddsFrom ∈ lw_tbl := tm3 (List.mem_of_getElem? (i := 161) rfl)
theorem tw3_162 : Cond.selects RX1 yX1_oddsFrom yX1_oddsFrom ∈ lw_tbl := tm3 (List.mem_of_getElem? (i := 162) rfl)
theorem tw3_163 : Cond.code yX1_oddsFrom cX1_oddsFrom 4 (some FieldType.int) ∈ lw_tbl := tm3 (List.mem_of_getElem? (i := 163) rfl)
theorem tw3_164 : Cond.methodLink RL 77 yX9_sure ∈ lw_tbl := tm3 (List.mem_of_getElem? (i := 164) rfl)
theorem tw3_165 : Cond.instanceMethod yX9_sure ∈ lw_tbl := tm3 (List.mem_of_getElem? (i := 165) rfl)
theorem tw3_166 : Cond.selects RX9 yX9_sure yX9_sure ∈ lw_tbl := tm3 (List.mem_of_getElem? (i := 166) rfl)
theorem tw3_167 : Cond.code yX9_sure cX9_sure 2 (some FieldType.int) ∈ lw_tbl := tm3 (List.mem_of_getElem? (i := 167) rfl)
theorem tw3_168 : Cond.constant RX9 180 (1000000) ∈ lw_tbl := tm3 (List.mem_of_getElem? (i := 168) rfl)
theorem tw3_169 : Cond.methodLink RX9 181 yX1_firstSureDay ∈ lw_tbl := tm3 (List.mem_of_getElem? (i := 169) rfl)
theorem tw3_170 : Cond.instanceMethod yX1_firstSureDay ∈ lw_tbl := tm3 (List.mem_of_getElem? (i := 170) rfl)
theorem tw3_171 : Cond.selects RX1 yX1_firstSureDay yX1_firstSureDay ∈ lw_tbl := tm3 (List.mem_of_getElem? (i := 171) rfl)
theorem tw3_172 : Cond.code yX1_firstSureDay cX1_firstSureDay 5 (some FieldType.int) ∈ lw_tbl := tm3 (List.mem_of_getElem? (i := 172) rfl)
theorem tw3_173 : Cond.methodLink RL 81 yX9_pace ∈ lw_tbl := tm3 (List.mem_of_getElem? (i := 173) rfl)
theorem tw3_174 : Cond.instanceMethod yX9_pace ∈ lw_tbl := tm3 (List.mem_of_getElem? (i := 174) rfl)
theorem tw3_175 : Cond.selects RX9 yX9_pace yX9_pace ∈ lw_tbl := tm3 (List.mem_of_getElem? (i := 175) rfl)
theorem tw3_176 : Cond.code yX9_pace cX9_pace 6 (some FieldType.int) ∈ lw_tbl := tm3 (List.mem_of_getElem? (i := 176) rfl)
theorem tw3_177 : Cond.methodLink RL 85 yX9_plan ∈ lw_tbl := tm3 (List.mem_of_getElem? (i := 177) rfl)
theorem tw3_178 : Cond.instanceMethod yX9_plan ∈ lw_tbl := tm3 (List.mem_of_getElem? (i := 178) rfl)
theorem tw3_179 : Cond.selects RX9 yX9_plan yX9_plan ∈ lw_tbl := tm3 (List.mem_of_getElem? (i := 179) rfl)
theorem tw3_180 : Cond.code yX9_plan cX9_plan 4 (some FieldType.int) ∈ lw_tbl := tm3 (List.mem_of_getElem? (i := 180) rfl)
theorem tw3_181 : Cond.methodLink RX9 185 yX1_fewestHindrances ∈ lw_tbl := tm3 (List.mem_of_getElem? (i := 181) rfl)
theorem tw3_182 : Cond.instanceMethod yX1_fewestHindrances ∈ lw_tbl := tm3 (List.mem_of_getElem? (i := 182) rfl)
theorem tw3_183 : Cond.selects RX1 yX1_fewestHindrances yX1_fewestHindrances ∈ lw_tbl := tm3 (List.mem_of_getElem? (i := 183) rfl)
theorem tw3_184 : Cond.code yX1_fewestHindrances cX1_fewestHindrances 7 (some FieldType.int) ∈ lw_tbl := tm3 (List.mem_of_getElem? (i := 184) rfl)
theorem tw3_185 : Cond.methodLink RX1 78 yX7_forbidden ∈ lw_tbl := tm3 (List.mem_of_getElem? (i := 185) rfl)
theorem tw3_186 : Cond.instanceMethod yX7_forbidden ∈ lw_tbl := tm3 (List.mem_of_getElem? (i := 186) rfl)
theorem tw3_187 : Cond.selects RX7 yX7_forbidden yX7_forbidden ∈ lw_tbl := tm3 (List.mem_of_getElem? (i := 187) rfl)
theorem tw3_188 : Cond.code yX7_forbidden cX7_forbidden 3 (some FieldType.int) ∈ lw_tbl := tm3 (List.mem_of_getElem? (i := 188) rfl)
theorem tw3_189 : Cond.methodLink RX1 84 yJ6_bitCount_0f7a4 ∈ lw_tbl := tm3 (List.mem_of_getElem? (i := 189) rfl)
theorem tw3_190 : Cond.static yJ6_bitCount_0f7a4 ∈ lw_tbl := tm3 (List.mem_of_getElem? (i := 190) rfl)
theorem tw3_191 : Cond.code yJ6_bitCount_0f7a4 cJ6_bitCount_0f7a4 1 (some FieldType.int) ∈ lw_tbl := tm3 (List.mem_of_getElem? (i := 191) rfl)
theorem tw3_192 : Cond.constant RJ6 265 (1431655765) ∈ lw_tbl := tm3 (List.mem_of_getElem? (i := 192) rfl)
theorem tw3_193 : Cond.constant RJ6 266 (858993459) ∈ lw_tbl := tm3 (List.mem_of_getElem? (i := 193) rfl)
theorem tw3_194 : Cond.constant RJ6 267 (252645135) ∈ lw_tbl := tm3 (List.mem_of_getElem? (i := 194) rfl)
theorem tw3_195 : Cond.methodLink RX1 90 yX7_costOf ∈ lw_tbl := tm3 (List.mem_of_getElem? (i := 195) rfl)
theorem tw3_196 : Cond.methodLink RX9 188 yJ6_bitCount_0f7a4 ∈ lw_tbl := tm3 (List.mem_of_getElem? (i := 196) rfl)
theorem tw3_197 : Cond.methodLink RL 89 yX9_best ∈ lw_tbl := tm3 (List.mem_of_getElem? (i := 197) rfl)
theorem tw3_198 : Cond.instanceMethod yX9_best ∈ lw_tbl := tm3 (List.mem_of_getElem? (i := 198) rfl)
theorem tw3_199 : Cond.selects RX9 yX9_best yX9_best ∈ lw_tbl := tm3 (List.mem_of_getElem? (i := 199) rfl)
theorem tw3_200 : Cond.code yX9_best cX9_best 3 (some FieldType.int) ∈ lw_tbl := tm3 (List.mem_of_getElem? (i := 200) rfl)
theorem tw3_201 : Cond.methodLink RX9 193 yX7_costOf ∈ lw_tbl := tm3 (List.mem_of_getElem? (i := 201) rfl)
theorem tw3_202 : Cond.methodLink RX9 196 yX1_findBestDay ∈ lw_tbl := tm3 (List.mem_of_getElem? (i := 202) rfl)
theorem tw3_203 : Cond.instanceMethod yX1_findBestDay ∈ lw_tbl := tm3 (List.mem_of_getElem? (i := 203) rfl)
theorem tw3_204 : Cond.selects RX1 yX1_findBestDay yX1_findBestDay ∈ lw_tbl := tm3 (List.mem_of_getElem? (i := 204) rfl)
theorem tw3_205 : Cond.code yX1_findBestDay cX1_findBestDay 5 (none : Option FieldType) ∈ lw_tbl := tm3 (List.mem_of_getElem? (i := 205) rfl)
theorem tw3_206 : Cond.methodLink RX1 104 yX1_oddsIfHindered ∈ lw_tbl := tm3 (List.mem_of_getElem? (i := 206) rfl)
theorem tw3_208 : Cond.instanceMethod yX1_oddsIfHindered ∈ lw_tbl := tm3 (List.mem_of_getElem? (i := 208) rfl)
theorem tw3_209 : Cond.code yX1_oddsIfHindered cX1_oddsIfHindered 3 (some FieldType.int) ∈ lw_tbl := tm3 (List.mem_of_getElem? (i := 209) rfl)
theorem tw3_210 : Cond.methodLink RX1 107 arraycopyName ∈ lw_tbl := tm3 (List.mem_of_getElem? (i := 210) rfl)
theorem tw3_211 : Cond.methodLink RL 93 yX9_soonest ∈ lw_tbl := tm3 (List.mem_of_getElem? (i := 211) rfl)
theorem tw3_212 : Cond.instanceMethod yX9_soonest ∈ lw_tbl := tm3 (List.mem_of_getElem? (i := 212) rfl)
theorem tw3_213 : Cond.selects RX9 yX9_soonest yX9_soonest ∈ lw_tbl := tm3 (List.mem_of_getElem? (i := 213) rfl)
theorem tw3_214 : Cond.code yX9_soonest cX9_soonest 4 (some FieldType.int) ∈ lw_tbl := tm3 (List.mem_of_getElem? (i := 214) rfl)
theorem tw3_215 : Cond.methodLink RX9 206 yX7_laidBehind ∈ lw_tbl := tm3 (List.mem_of_getElem? (i := 215) rfl)
theorem tw3_216 : Cond.methodLink RL 97 yX9_mean ∈ lw_tbl := tm3 (List.mem_of_getElem? (i := 216) rfl)
theorem tw3_217 : Cond.instanceMethod yX9_mean ∈ lw_tbl := tm3 (List.mem_of_getElem? (i := 217) rfl)
theorem tw3_218 : Cond.selects RX9 yX9_mean yX9_mean ∈ lw_tbl := tm3 (List.mem_of_getElem? (i := 218) rfl)
theorem tw3_219 : Cond.code yX9_mean cX9_mean 6 (some FieldType.int) ∈ lw_tbl := tm3 (List.mem_of_getElem? (i := 219) rfl)
theorem tw3_220 : Cond.methodLink RX9 209 yX1_sumOfLaid ∈ lw_tbl := tm3 (List.mem_of_getElem? (i := 220) rfl)
theorem tw3_221 : Cond.instanceMethod yX1_sumOfLaid ∈ lw_tbl := tm3 (List.mem_of_getElem? (i := 221) rfl)
theorem tw3_222 : Cond.selects RX1 yX1_sumOfLaid yX1_sumOfLaid ∈ lw_tbl := tm3 (List.mem_of_getElem? (i := 222) rfl)
theorem tw3_223 : Cond.code yX1_sumOfLaid cX1_sumOfLaid 5 (some FieldType.int) ∈ lw_tbl := tm3 (List.mem_of_getElem? (i := 223) rfl)
theorem tw3_224 : Cond.methodLink RX1 114 yX1_spread ∈ lw_tbl := tm3 (List.mem_of_getElem? (i := 224) rfl)
theorem tw3_226 : Cond.instanceMethod yX1_spread ∈ lw_tbl := tm3 (List.mem_of_getElem? (i := 226) rfl)
theorem tw3_227 : Cond.code yX1_spread cX1_spread 4 (none : Option FieldType) ∈ lw_tbl := tm3 (List.mem_of_getElem? (i := 227) rfl)
theorem tw3_228 : Cond.methodLink RX9 212 yX9_commonDivisor ∈ lw_tbl := tm3 (List.mem_of_getElem? (i := 228) rfl)
theorem tw3_229 : Cond.static yX9_commonDivisor ∈ lw_tbl := tm3 (List.mem_of_getElem? (i := 229) rfl)
theorem tw3_230 : Cond.code yX9_commonDivisor cX9_commonDivisor 6 (some FieldType.int) ∈ lw_tbl := tm3 (List.mem_of_getElem? (i := 230) rfl)
theorem tw3_231 : Cond.methodLink RL 101 yX9_image ∈ lw_tbl := tm3 (List.mem_of_getElem? (i := 231) rfl)
theorem tw3_232 : Cond.instanceMethod yX9_image ∈ lw_tbl := tm3 (List.mem_of_getElem? (i := 232) rfl)
theorem tw3_233 : Cond.selects RX9 yX9_image yX9_image ∈ lw_tbl := tm3 (List.mem_of_getElem? (i := 233) rfl)
theorem tw3_234 : Cond.code yX9_image cX9_image 1 (some FieldType.int) ∈ lw_tbl := tm3 (List.mem_of_getElem? (i := 234) rfl)
theorem tw3_235 : Cond.methodLink RX9 215 yX7_becomes ∈ lw_tbl := tm3 (List.mem_of_getElem? (i := 235) rfl)
theorem tw3_236 : Cond.instanceMethod yX7_becomes ∈ lw_tbl := tm3 (List.mem_of_getElem? (i := 236) rfl)
theorem tw3_237 : Cond.selects RX7 yX7_becomes yX7_becomes ∈ lw_tbl := tm3 (List.mem_of_getElem? (i := 237) rfl)
theorem tw3_238 : Cond.code yX7_becomes cX7_becomes 3 (none : Option FieldType) ∈ lw_tbl := tm3 (List.mem_of_getElem? (i := 238) rfl)
theorem tw3_239 : Cond.methodLink RL 105 yX9_restore ∈ lw_tbl := tm3 (List.mem_of_getElem? (i := 239) rfl)
theorem tw4_0 : Cond.instanceMethod yX9_restore ∈ lw_tbl := tm4 (List.mem_of_getElem? (i := 0) rfl)
theorem tw4_1 : Cond.selects RX9 yX9_restore yX9_restore ∈ lw_tbl := tm4 (List.mem_of_getElem? (i := 1) rfl)
theorem tw4_2 : Cond.code yX9_restore cX9_restore 1 (some FieldType.int) ∈ lw_tbl := tm4 (List.mem_of_getElem? (i := 2) rfl)
theorem tw4_3 : Cond.methodLink RL 109 yX9_weather ∈ lw_tbl := tm4 (List.mem_of_getElem? (i := 3) rfl)
theorem tw4_4 : Cond.instanceMethod yX9_weather ∈ lw_tbl := tm4 (List.mem_of_getElem? (i := 4) rfl)
theorem tw4_5 : Cond.selects RX9 yX9_weather yX9_weather ∈ lw_tbl := tm4 (List.mem_of_getElem? (i := 5) rfl)
theorem tw4_6 : Cond.code yX9_weather cX9_weather 7 (some FieldType.int) ∈ lw_tbl := tm4 (List.mem_of_getElem? (i := 6) rfl)
theorem tw4_7 : Cond.methodLink RX9 223 yX9_isSheet ∈ lw_tbl := tm4 (List.mem_of_getElem? (i := 7) rfl)
theorem tw4_8 : Cond.static yX9_isSheet ∈ lw_tbl := tm4 (List.mem_of_getElem? (i := 8) rfl)
theorem tw4_9 : Cond.code yX9_isSheet cX9_isSheet 1 (some FieldType.boolean) ∈ lw_tbl := tm4 (List.mem_of_getElem? (i := 9) rfl)
theorem tw4_10 : Cond.methodLink RX9 226 yX9_isLane ∈ lw_tbl := tm4 (List.mem_of_getElem? (i := 10) rfl)
theorem tw4_11 : Cond.static yX9_isLane ∈ lw_tbl := tm4 (List.mem_of_getElem? (i := 11) rfl)
theorem tw4_12 : Cond.code yX9_isLane cX9_isLane 1 (some FieldType.boolean) ∈ lw_tbl := tm4 (List.mem_of_getElem? (i := 12) rfl)
theorem tw4_13 : Cond.methodLink RX9 229 yX6_find ∈ lw_tbl := tm4 (List.mem_of_getElem? (i := 13) rfl)
theorem tw4_14 : Cond.instanceMethod yX6_find ∈ lw_tbl := tm4 (List.mem_of_getElem? (i := 14) rfl)
theorem tw4_15 : Cond.selects RX6 yX6_find yX6_find ∈ lw_tbl := tm4 (List.mem_of_getElem? (i := 15) rfl)
theorem tw4_16 : Cond.code yX6_find cX6_find 4 (some FieldType.int) ∈ lw_tbl := tm4 (List.mem_of_getElem? (i := 16) rfl)
theorem tw4_17 : Cond.methodLink RX6 26 yX6_has ∈ lw_tbl := tm4 (List.mem_of_getElem? (i := 17) rfl)
theorem tw4_18 : Cond.instanceMethod yX6_has ∈ lw_tbl := tm4 (List.mem_of_getElem? (i := 18) rfl)
theorem tw4_19 : Cond.selects RX6 yX6_has yX6_has ∈ lw_tbl := tm4 (List.mem_of_getElem? (i := 19) rfl)
theorem tw4_20 : Cond.code yX6_has cX6_has 3 (some FieldType.boolean) ∈ lw_tbl := tm4 (List.mem_of_getElem? (i := 20) rfl)
theorem tw4_21 : Cond.methodLink RX9 236 yX9_weatherOf ∈ lw_tbl := tm4 (List.mem_of_getElem? (i := 21) rfl)
theorem tw4_23 : Cond.instanceMethod yX9_weatherOf ∈ lw_tbl := tm4 (List.mem_of_getElem? (i := 23) rfl)
theorem tw4_24 : Cond.code yX9_weatherOf cX9_weatherOf 10 (some FieldType.int) ∈ lw_tbl := tm4 (List.mem_of_getElem? (i := 24) rfl)
theorem tw4_25 : Cond.methodLink RX9 240 yX9_fittingWeathers ∈ lw_tbl := tm4 (List.mem_of_getElem? (i := 25) rfl)
theorem tw4_27 : Cond.instanceMethod yX9_fittingWeathers ∈ lw_tbl := tm4 (List.mem_of_getElem? (i := 27) rfl)
theorem tw4_28 : Cond.code yX9_fittingWeathers cX9_fittingWeathers 7 (some FieldType.int) ∈ lw_tbl := tm4 (List.mem_of_getElem? (i := 28) rfl)
theorem tw4_29 : Cond.methodLink RL 114 yX9_film ∈ lw_tbl := tm4 (List.mem_of_getElem? (i := 29) rfl)
theorem tw4_30 : Cond.instanceMethod yX9_film ∈ lw_tbl := tm4 (List.mem_of_getElem? (i := 30) rfl)
theorem tw4_31 : Cond.selects RX9 yX9_film yX9_film ∈ lw_tbl := tm4 (List.mem_of_getElem? (i := 31) rfl)
theorem tw4_32 : Cond.code yX9_film cX9_film 9 (some FieldType.int) ∈ lw_tbl := tm4 (List.mem_of_getElem? (i := 32) rfl)
theorem tw4_33 : Cond.methodLink RX9 244 yX6_put ∈ lw_tbl := tm4 (List.mem_of_getElem? (i := 33) rfl)
theorem tw4_34 : Cond.instanceMethod yX6_put ∈ lw_tbl := tm4 (List.mem_of_getElem? (i := 34) rfl)
theorem tw4_35 : Cond.selects RX6 yX6_put yX6_put ∈ lw_tbl := tm4 (List.mem_of_getElem? (i := 35) rfl)
theorem tw4_36 : Cond.code yX6_put cX6_put 4 (none : Option FieldType) ∈ lw_tbl := tm4 (List.mem_of_getElem? (i := 36) rfl)
theorem tw4_37 : Cond.methodLinkNest RX6 30 yX9_within "SummerWall" ∈ lw_tbl := tm4 (List.mem_of_getElem? (i := 37) rfl)
theorem tw4_38 : Cond.methodLink RX6 34 yX6_cut ∈ lw_tbl := tm4 (List.mem_of_getElem? (i := 38) rfl)
theorem tw4_40 : Cond.instanceMethod yX6_cut ∈ lw_tbl := tm4 (List.mem_of_getElem? (i := 40) rfl)
theorem tw4_41 : Cond.code yX6_cut cX6_cut 3 (some FieldType.long) ∈ lw_tbl := tm4 (List.mem_of_getElem? (i := 41) rfl)
theorem tw4_42 : Cond.methodLink RL 118 yX9_sheet ∈ lw_tbl := tm4 (List.mem_of_getElem? (i := 42) rfl)
theorem tw4_43 : Cond.instanceMethod yX9_sheet ∈ lw_tbl := tm4 (List.mem_of_getElem? (i := 43) rfl)
theorem tw4_44 : Cond.selects RX9 yX9_sheet yX9_sheet ∈ lw_tbl := tm4 (List.mem_of_getElem? (i := 44) rfl)
theorem tw4_45 : Cond.code yX9_sheet cX9_sheet 4 (some FieldType.int) ∈ lw_tbl := tm4 (List.mem_of_getElem? (i := 45) rfl)
theorem tw4_46 : Cond.methodLink RX9 248 yX6_renew ∈ lw_tbl := tm4 (List.mem_of_getElem? (i := 46) rfl)
theorem tw4_47 : Cond.instanceMethod yX6_renew ∈ lw_tbl := tm4 (List.mem_of_getElem? (i := 47) rfl)
theorem tw4_48 : Cond.selects RX6 yX6_renew yX6_renew ∈ lw_tbl := tm4 (List.mem_of_getElem? (i := 48) rfl)
theorem tw4_49 : Cond.code yX6_renew cX6_renew 4 (none : Option FieldType) ∈ lw_tbl := tm4 (List.mem_of_getElem? (i := 49) rfl)
theorem tw4_50 : Cond.methodLink RL 122 yX9_drop ∈ lw_tbl := tm4 (List.mem_of_getElem? (i := 50) rfl)
theorem tw4_51 : Cond.instanceMethod yX9_drop ∈ lw_tbl := tm4 (List.mem_of_getElem? (i := 51) rfl)
theorem tw4_52 : Cond.selects RX9 yX9_drop yX9_drop ∈ lw_tbl := tm4 (List.mem_of_getElem? (i := 52) rfl)
theorem tw4_53 : Cond.code yX9_drop cX9_drop 2 (some FieldType.int) ∈ lw_tbl := tm4 (List.mem_of_getElem? (i := 53) rfl)
theorem tw4_54 : Cond.methodLink RL 128 yX9_item ∈ lw_tbl := tm4 (List.mem_of_getElem? (i := 54) rfl)
theorem tw4_55 : Cond.instanceMethod yX9_item ∈ lw_tbl := tm4 (List.mem_of_getElem? (i := 55) rfl)
theorem tw4_56 : Cond.selects RX9 yX9_item yX9_item ∈ lw_tbl := tm4 (List.mem_of_getElem? (i := 56) rfl)
theorem tw4_57 : Cond.code yX9_item cX9_item 7 (some FieldType.int) ∈ lw_tbl := tm4 (List.mem_of_getElem? (i := 57) rfl)
theorem tw4_58 : Cond.methodLink RL 133 yX9_copy ∈ lw_tbl := tm4 (List.mem_of_getElem? (i := 58) rfl)
theorem tw4_59 : Cond.instanceMethod yX9_copy ∈ lw_tbl := tm4 (List.mem_of_getElem? (i := 59) rfl)
theorem tw4_60 : Cond.selects RX9 yX9_copy yX9_copy ∈ lw_tbl := tm4 (List.mem_of_getElem? (i := 60) rfl)
theorem tw4_61 : Cond.code yX9_copy cX9_copy 8 (some FieldType.int) ∈ lw_tbl := tm4 (List.mem_of_getElem? (i := 61) rfl)
theorem tw4_62 : Cond.methodLink RX9 260 yX6_has ∈ lw_tbl := tm4 (List.mem_of_getElem? (i := 62) rfl)
theorem tw4_63 : Cond.methodLink RX9 264 arraycopyName ∈ lw_tbl := tm4 (List.mem_of_getElem? (i := 63) rfl)
theorem tw4_64 : Cond.classLink RL 10 "SummerWallModel" ∈ lw_tbl := tm4 (List.mem_of_getElem? (i := 64) rfl)
theorem tw4_65 : Cond.instantiable RX10 20 ∈ lw_tbl := tm4 (List.mem_of_getElem? (i := 65) rfl)
theorem tw4_66 : Cond.methodLink RL 12 yX10_init ∈ lw_tbl := tm4 (List.mem_of_getElem? (i := 66) rfl)
theorem tw4_67 : Cond.instanceMethod yX10_init ∈ lw_tbl := tm4 (List.mem_of_getElem? (i := 67) rfl)
theorem tw4_68 : Cond.code yX10_init cX10_init 2 (none : Option FieldType) ∈ lw_tbl := tm4 (List.mem_of_getElem? (i := 68) rfl)
theorem tw4_69 : Cond.methodLink RX10 1 objectInit ∈ lw_tbl := tm4 (List.mem_of_getElem? (i := 69) rfl)
theorem tw4_70 : Cond.fieldLink RX10 7 "SummerWallModel" "now" "[I" ∈ lw_tbl := tm4 (List.mem_of_getElem? (i := 70) rfl)
theorem tw4_71 : Cond.fieldLink RX10 13 "SummerWallModel" "faster" "I" ∈ lw_tbl := tm4 (List.mem_of_getElem? (i := 71) rfl)
theorem tw4_72 : Cond.fieldLink RX10 57 "SummerWallModel" "by" "I" ∈ lw_tbl := tm4 (List.mem_of_getElem? (i := 72) rfl)
theorem tw4_73 : Cond.fieldLink RX10 17 "SummerWallModel" "tape" "[I" ∈ lw_tbl := tm4 (List.mem_of_getElem? (i := 73) rfl)
theorem tw4_74 : Cond.fieldLink RX10 95 "SummerWallModel" "typed" "I" ∈ lw_tbl := tm4 (List.mem_of_getElem? (i := 74) rfl)
theorem tw4_75 : Cond.fieldLink RX10 98 "SummerWallModel" "place" "I" ∈ lw_tbl := tm4 (List.mem_of_getElem? (i := 75) rfl)
theorem tw4_76 : Cond.fieldLink RX10 101 "SummerWallModel" "isFault" "Z" ∈ lw_tbl := tm4 (List.mem_of_getElem? (i := 76) rfl)
theorem tw4_77 : Cond.fieldLink RX10 20 "SummerWallModel" "read" "[I" ∈ lw_tbl := tm4 (List.mem_of_getElem? (i := 77) rfl)
theorem tw4_78 : Cond.fieldLink RX10 23 "SummerWallModel" "undone" "[I" ∈ lw_tbl := tm4 (List.mem_of_getElem? (i := 78) rfl)
theorem tw4_79 : Cond.fieldLink RX10 72 "SummerWallModel" "undos" "I" ∈ lw_tbl := tm4 (List.mem_of_getElem? (i := 79) rfl)
theorem tw4_80 : Cond.fieldLink RX10 26 "SummerWallModel" "chances" "[I" ∈ lw_tbl := tm4 (List.mem_of_getElem? (i := 80) rfl)
theorem tw4_81 : Cond.fieldLink RX10 29 "SummerWallModel" "parts" "[I" ∈ lw_tbl := tm4 (List.mem_of_getElem? (i := 81) rfl)
theorem tw4_82 : Cond.fieldLink RX10 32 "SummerWallModel" "nexts" "[I" ∈ lw_tbl := tm4 (List.mem_of_getElem? (i := 82) rfl)
theorem tw4_83 : Cond.fieldLink RX10 35 "SummerWallModel" "kept" "[I" ∈ lw_tbl := tm4 (List.mem_of_getElem? (i := 83) rfl)
theorem tw4_84 : Cond.fieldLink RX10 201 "SummerWallModel" "keptUndos" "I" ∈ lw_tbl := tm4 (List.mem_of_getElem? (i := 84) rfl)
theorem tw4_85 : Cond.fieldLink RX10 204 "SummerWallModel" "isKept" "Z" ∈ lw_tbl := tm4 (List.mem_of_getElem? (i := 85) rfl)
theorem tw4_86 : Cond.fieldLink RX10 38 "SummerWallModel" "lanes" "[I" ∈ lw_tbl := tm4 (List.mem_of_getElem? (i := 86) rfl)
theorem tw4_87 : Cond.fieldLink RX10 41 "SummerWallModel" "sizes" "[I" ∈ lw_tbl := tm4 (List.mem_of_getElem? (i := 87) rfl)
theorem tw4_88 : Cond.fieldLink RX10 44 "SummerWallModel" "items" "[J" ∈ lw_tbl := tm4 (List.mem_of_getElem? (i := 88) rfl)
theorem tw4_89 : Cond.fieldLink RX10 48 "SummerWallModel" "moved" "[J" ∈ lw_tbl := tm4 (List.mem_of_getElem? (i := 89) rfl)
theorem tw4_90 : Cond.laysFinal RX10 "SummerWallModel" "now" "[I" ∈ lw_tbl := tm4 (List.mem_of_getElem? (i := 90) rfl)
theorem tw4_92 : Cond.lays RX10 "SummerWallModel" "faster" "I" ∈ lw_tbl := tm4 (List.mem_of_getElem? (i := 92) rfl)
theorem tw4_94 : Cond.lays RX10 "SummerWallModel" "by" "I" ∈ lw_tbl := tm4 (List.mem_of_getElem? (i := 94) rfl)
theorem tw4_96 : Cond.laysFinal RX10 "SummerWallModel" "tape" "[I" ∈ lw_tbl := tm4 (List.mem_of_getElem? (i := 96) rfl)
theorem tw4_98 : Cond.lays RX10 "SummerWallModel" "typed" "I" ∈ lw_tbl := tm4 (List.mem_of_getElem? (i := 98) rfl)
theorem tw4_100 : Cond.lays RX10 "SummerWallModel" "place" "I" ∈ lw_tbl := tm4 (List.mem_of_getElem? (i := 100) rfl)
theorem tw4_102 : Cond.lays RX10 "SummerWallModel" "isFault" "Z" ∈ lw_tbl := tm4 (List.mem_of_getElem? (i := 102) rfl)
theorem tw4_104 : Cond.laysFinal RX10 "SummerWallModel" "read" "[I" ∈ lw_tbl := tm4 (List.mem_of_getElem? (i := 104) rfl)
theorem tw4_106 : Cond.laysFinal RX10 "SummerWallModel" "undone" "[I" ∈ lw_tbl := tm4 (List.mem_of_getElem? (i := 106) rfl)
theorem tw4_108 : Cond.lays RX10 "SummerWallModel" "undos" "I" ∈ lw_tbl := tm4 (List.mem_of_getElem? (i := 108) rfl)
theorem tw4_110 : Cond.laysFinal RX10 "SummerWallModel" "chances" "[I" ∈ lw_tbl := tm4 (List.mem_of_getElem? (i := 110) rfl)
theorem tw4_112 : Cond.laysFinal RX10 "SummerWallModel" "parts" "[I" ∈ lw_tbl := tm4 (List.mem_of_getElem? (i := 112) rfl)
theorem tw4_114 : Cond.laysFinal RX10 "SummerWallModel" "nexts" "[I" ∈ lw_tbl := tm4 (List.mem_of_getElem? (i := 114) rfl)
theorem tw4_116 : Cond.laysFinal RX10 "SummerWallModel" "kept" "[I" ∈ lw_tbl := tm4 (List.mem_of_getElem? (i := 116) rfl)
theorem tw4_118 : Cond.lays RX10 "SummerWallModel" "keptUndos" "I" ∈ lw_tbl := tm4 (List.mem_of_getElem? (i := 118) rfl)
theorem tw4_120 : Cond.lays RX10 "SummerWallModel" "isKept" "Z" ∈ lw_tbl := tm4 (List.mem_of_getElem? (i := 120) rfl)
theorem tw4_122 : Cond.laysFinal RX10 "SummerWallModel" "lanes" "[I" ∈ lw_tbl := tm4 (List.mem_of_getElem? (i := 122) rfl)
theorem tw4_124 : Cond.laysFinal RX10 "SummerWallModel" "sizes" "[I" ∈ lw_tbl := tm4 (List.mem_of_getElem? (i := 124) rfl)
theorem tw4_126 : Cond.laysFinal RX10 "SummerWallModel" "items" "[J" ∈ lw_tbl := tm4 (List.mem_of_getElem? (i := 126) rfl)
theorem tw4_128 : Cond.laysFinal RX10 "SummerWallModel" "moved" "[J" ∈ lw_tbl := tm4 (List.mem_of_getElem? (i := 128) rfl)
theorem tw4_131 : Cond.methodLink RL 17 yX10_builder ∈ lw_tbl := tm4 (List.mem_of_getElem? (i := 131) rfl)
theorem tw4_132 : Cond.instanceMethod yX10_builder ∈ lw_tbl := tm4 (List.mem_of_getElem? (i := 132) rfl)
theorem tw4_133 : Cond.selects RX10 yX10_builder yX10_builder ∈ lw_tbl := tm4 (List.mem_of_getElem? (i := 133) rfl)
theorem tw4_134 : Cond.code yX10_builder cX10_builder 5 (some FieldType.int) ∈ lw_tbl := tm4 (List.mem_of_getElem? (i := 134) rfl)
theorem tw4_135 : Cond.constantLong RX10 68 (4) ∈ lw_tbl := tm4 (List.mem_of_getElem? (i := 135) rfl)
theorem tw4_136 : Cond.methodLink RX10 51 yX10_in ∈ lw_tbl := tm4 (List.mem_of_getElem? (i := 136) rfl)
theorem tw4_137 : Cond.static yX10_in ∈ lw_tbl := tm4 (List.mem_of_getElem? (i := 137) rfl)
theorem tw4_138 : Cond.code yX10_in cX10_in 6 (some FieldType.boolean) ∈ lw_tbl := tm4 (List.mem_of_getElem? (i := 138) rfl)
theorem tw4_139 : Cond.constantLong RX10 70 (9) ∈ lw_tbl := tm4 (List.mem_of_getElem? (i := 139) rfl)
theorem tw4_140 : Cond.methodLink RL 22 yX10_of ∈ lw_tbl := tm4 (List.mem_of_getElem? (i := 140) rfl)
theorem tw4_141 : Cond.instanceMethod yX10_of ∈ lw_tbl := tm4 (List.mem_of_getElem? (i := 141) rfl)
theorem tw4_142 : Cond.selects RX10 yX10_of yX10_of ∈ lw_tbl := tm4 (List.mem_of_getElem? (i := 142) rfl)
theorem tw4_143 : Cond.code yX10_of cX10_of 3 (some FieldType.int) ∈ lw_tbl := tm4 (List.mem_of_getElem? (i := 143) rfl)
theorem tw4_144 : Cond.methodLink RX10 75 yX10_isBuilder ∈ lw_tbl := tm4 (List.mem_of_getElem? (i := 144) rfl)
theorem tw4_146 : Cond.instanceMethod yX10_isBuilder ∈ lw_tbl := tm4 (List.mem_of_getElem? (i := 146) rfl)
theorem tw4_147 : Cond.code yX10_isBuilder cX10_isBuilder 2 (some FieldType.boolean) ∈ lw_tbl := tm4 (List.mem_of_getElem? (i := 147) rfl)
theorem tw4_148 : Cond.constantLong RX10 79 (6) ∈ lw_tbl := tm4 (List.mem_of_getElem? (i := 148) rfl)
theorem tw4_149 : Cond.methodLink RX10 60 yX10_haulsOf ∈ lw_tbl := tm4 (List.mem_of_getElem? (i := 149) rfl)
theorem tw4_151 : Cond.instanceMethod yX10_haulsOf ∈ lw_tbl := tm4 (List.mem_of_getElem? (i := 151) rfl)
theorem tw4_152 : Cond.code yX10_haulsOf cX10_haulsOf 5 (some FieldType.int) ∈ lw_tbl := tm4 (List.mem_of_getElem? (i := 152) rfl)
theorem tw4_153 : Cond.methodLink RX10 64 yX10_laysOf ∈ lw_tbl := tm4 (List.mem_of_getElem? (i := 153) rfl)
theorem tw4_155 : Cond.instanceMethod yX10_laysOf ∈ lw_tbl := tm4 (List.mem_of_getElem? (i := 155) rfl)
theorem tw4_156 : Cond.code yX10_laysOf cX10_laysOf 7 (some FieldType.int) ∈ lw_tbl := tm4 (List.mem_of_getElem? (i := 156) rfl)
theorem tw4_157 : Cond.methodLink RL 26 yX10_wall ∈ lw_tbl := tm4 (List.mem_of_getElem? (i := 157) rfl)
theorem tw4_158 : Cond.instanceMethod yX10_wall ∈ lw_tbl := tm4 (List.mem_of_getElem? (i := 158) rfl)
theorem tw4_159 : Cond.selects RX10 yX10_wall yX10_wall ∈ lw_tbl := tm4 (List.mem_of_getElem? (i := 159) rfl)
theorem tw4_160 : Cond.code yX10_wall cX10_wall 7 (some FieldType.int) ∈ lw_tbl := tm4 (List.mem_of_getElem? (i := 160) rfl)
theorem tw4_161 : Cond.constantLong RX10 81 (200) ∈ lw_tbl := tm4 (List.mem_of_getElem? (i := 161) rfl)
theorem tw4_162 : Cond.constantLong RX10 83 (40) ∈ lw_tbl := tm4 (List.mem_of_getElem? (i := 162) rfl)
theorem tw4_163 : Cond.constantLong RX10 85 (10) ∈ lw_tbl := tm4 (List.mem_of_getElem? (i := 163) rfl)
theorem tw4_164 : Cond.methodLink RL 30 yX10_hindrance ∈ lw_tbl := tm4 (List.mem_of_getElem? (i := 164) rfl)
theorem tw4_165 : Cond.instanceMethod yX10_hindrance ∈ lw_tbl := tm4 (List.mem_of_getElem? (i := 165) rfl)
theorem tw4_166 : Cond.selects RX10 yX10_hindrance yX10_hindrance ∈ lw_tbl := tm4 (List.mem_of_getElem? (i := 166) rfl)
theorem tw4_167 : Cond.code yX10_hindrance cX10_hindrance 3 (some FieldType.int) ∈ lw_tbl := tm4 (List.mem_of_getElem? (i := 167) rfl)
theorem tw4_168 : Cond.constantLong RX10 87 (3) ∈ lw_tbl := tm4 (List.mem_of_getElem? (i := 168) rfl)
theorem tw4_169 : Cond.methodLink RL 34 yX10_oath ∈ lw_tbl := tm4 (List.mem_of_getElem? (i := 169) rfl)
theorem tw4_170 : Cond.instanceMethod yX10_oath ∈ lw_tbl := tm4 (List.mem_of_getElem? (i := 170) rfl)
theorem tw4_171 : Cond.selects RX10 yX10_oath yX10_oath ∈ lw_tbl := tm4 (List.mem_of_getElem? (i := 171) rfl)
theorem tw4_172 : Cond.code yX10_oath cX10_oath 4 (some FieldType.int) ∈ lw_tbl := tm4 (List.mem_of_getElem? (i := 172) rfl)
theorem tw4_173 : Cond.methodLink RL 48 yX10_count ∈ lw_tbl := tm4 (List.mem_of_getElem? (i := 173) rfl)
theorem tw4_174 : Cond.instanceMethod yX10_count ∈ lw_tbl := tm4 (List.mem_of_getElem? (i := 174) rfl)
theorem tw4_175 : Cond.selects RX10 yX10_count yX10_count ∈ lw_tbl := tm4 (List.mem_of_getElem? (i := 175) rfl)
theorem tw4_176 : Cond.code yX10_count cX10_count 2 (some FieldType.int) ∈ lw_tbl := tm4 (List.mem_of_getElem? (i := 176) rfl)
theorem tw4_177 : Cond.constantLong RX10 89 (11) ∈ lw_tbl := tm4 (List.mem_of_getElem? (i := 177) rfl)
theorem tw4_178 : Cond.methodLink RL 39 yX10_type ∈ lw_tbl := tm4 (List.mem_of_getElem? (i := 178) rfl)
theorem tw4_179 : Cond.instanceMethod yX10_type ∈ lw_tbl := tm4 (List.mem_of_getElem? (i := 179) rfl)
theorem tw4_180 : Cond.selects RX10 yX10_type yX10_type ∈ lw_tbl := tm4 (List.mem_of_getElem? (i := 180) rfl)
theorem tw4_181 : Cond.code yX10_type cX10_type 2 (some FieldType.int) ∈ lw_tbl := tm4 (List.mem_of_getElem? (i := 181) rfl)
theorem tw4_182 : Cond.constantLong RX10 91 (32) ∈ lw_tbl := tm4 (List.mem_of_getElem? (i := 182) rfl)
theorem tw4_183 : Cond.constantLong RX10 93 (126) ∈ lw_tbl := tm4 (List.mem_of_getElem? (i := 183) rfl)
theorem tw4_184 : Cond.methodLink RL 44 yX10_bargain ∈ lw_tbl := tm4 (List.mem_of_getElem? (i := 184) rfl)
theorem tw4_185 : Cond.instanceMethod yX10_bargain ∈ lw_tbl := tm4 (List.mem_of_getElem? (i := 185) rfl)
theorem tw4_186 : Cond.selects RX10 yX10_bargain yX10_bargain ∈ lw_tbl := tm4 (List.mem_of_getElem? (i := 186) rfl)
theorem tw4_187 : Cond.code yX10_bargain cX10_bargain 6 (some FieldType.int) ∈ lw_tbl := tm4 (List.mem_of_getElem? (i := 187) rfl)
theorem tw4_188 : Cond.methodLink RX10 124 yX10_number ∈ lw_tbl := tm4 (List.mem_of_getElem? (i := 188) rfl)
theorem tw4_190 : Cond.instanceMethod yX10_number ∈ lw_tbl := tm4 (List.mem_of_getElem? (i := 190) rfl)
theorem tw4_191 : Cond.code yX10_number cX10_number 6 (some FieldType.int) ∈ lw_tbl := tm4 (List.mem_of_getElem? (i := 191) rfl)
theorem tw4_192 : Cond.methodLink RX10 105 yX10_here ∈ lw_tbl := tm4 (List.mem_of_getElem? (i := 192) rfl)
theorem tw4_194 : Cond.instanceMethod yX10_here ∈ lw_tbl := tm4 (List.mem_of_getElem? (i := 194) rfl)
theorem tw4_195 : Cond.code yX10_here cX10_here 1 (some FieldType.int) ∈ lw_tbl := tm4 (List.mem_of_getElem? (i := 195) rfl)
theorem tw4_196 : Cond.constantLong RX10 113 (48) ∈ lw_tbl := tm4 (List.mem_of_getElem? (i := 196) rfl)
theorem tw4_197 : Cond.constantLong RX10 115 (57) ∈ lw_tbl := tm4 (List.mem_of_getElem? (i := 197) rfl)
theorem tw4_198 : Cond.methodLink RX10 109 yX10_must ∈ lw_tbl := tm4 (List.mem_of_getElem? (i := 198) rfl)
theorem tw4_200 : Cond.instanceMethod yX10_must ∈ lw_tbl := tm4 (List.mem_of_getElem? (i := 200) rfl)
theorem tw4_201 : Cond.code yX10_must cX10_must 2 (none : Option FieldType) ∈ lw_tbl := tm4 (List.mem_of_getElem? (i := 201) rfl)
theorem tw4_202 : Cond.methodLink RX10 127 yX10_takes ∈ lw_tbl := tm4 (List.mem_of_getElem? (i := 202) rfl)
theorem tw4_204 : Cond.instanceMethod yX10_takes ∈ lw_tbl := tm4 (List.mem_of_getElem? (i := 204) rfl)
theorem tw4_205 : Cond.code yX10_takes cX10_takes 2 (none : Option FieldType) ∈ lw_tbl := tm4 (List.mem_of_getElem? (i := 205) rfl)
theorem tw4_206 : Cond.methodLink RX10 131 yX10_readBuilders ∈ lw_tbl := tm4 (List.mem_of_getElem? (i := 206) rfl)
theorem tw4_208 : Cond.instanceMethod yX10_readBuilders ∈ lw_tbl := tm4 (List.mem_of_getElem? (i := 208) rfl)
theorem tw4_209 : Cond.code yX10_readBuilders cX10_readBuilders 6 (some FieldType.int) ∈ lw_tbl := tm4 (List.mem_of_getElem? (i := 209) rfl)
theorem tw4_210 : Cond.methodLink RX10 117 yX10_digit ∈ lw_tbl := tm4 (List.mem_of_getElem? (i := 210) rfl)
theorem tw4_212 : Cond.instanceMethod yX10_digit ∈ lw_tbl := tm4 (List.mem_of_getElem? (i := 212) rfl)
theorem tw4_213 : Cond.code yX10_digit cX10_digit 4 (some FieldType.int) ∈ lw_tbl := tm4 (List.mem_of_getElem? (i := 213) rfl)
theorem tw4_214 : Cond.methodLink RX10 134 yX10_readHindrances ∈ lw_tbl := tm4 (List.mem_of_getElem? (i := 214) rfl)
theorem tw4_216 : Cond.instanceMethod yX10_readHindrances ∈ lw_tbl := tm4 (List.mem_of_getElem? (i := 216) rfl)
theorem tw4_217 : Cond.code yX10_readHindrances cX10_readHindrances 5 (some FieldType.int) ∈ lw_tbl := tm4 (List.mem_of_getElem? (i := 217) rfl)
theorem tw4_218 : Cond.constantLong RX10 120 (97) ∈ lw_tbl := tm4 (List.mem_of_getElem? (i := 218) rfl)
theorem tw4_219 : Cond.constantLong RX10 122 (100) ∈ lw_tbl := tm4 (List.mem_of_getElem? (i := 219) rfl)
theorem tw4_220 : Cond.methodLink RL 52 yX10_day ∈ lw_tbl := tm4 (List.mem_of_getElem? (i := 220) rfl)
theorem tw4_221 : Cond.instanceMethod yX10_day ∈ lw_tbl := tm4 (List.mem_of_getElem? (i := 221) rfl)
theorem tw4_222 : Cond.selects RX10 yX10_day yX10_day ∈ lw_tbl := tm4 (List.mem_of_getElem? (i := 222) rfl)
theorem tw4_223 : Cond.code yX10_day cX10_day 2 (some FieldType.int) ∈ lw_tbl := tm4 (List.mem_of_getElem? (i := 223) rfl)
theorem tw4_224 : Cond.methodLink RX10 140 yX10_isWeather ∈ lw_tbl := tm4 (List.mem_of_getElem? (i := 224) rfl)
theorem tw4_225 : Cond.static yX10_isWeather ∈ lw_tbl := tm4 (List.mem_of_getElem? (i := 225) rfl)
theorem tw4_226 : Cond.code yX10_isWeather cX10_isWeather 1 (some FieldType.boolean) ∈ lw_tbl := tm4 (List.mem_of_getElem? (i := 226) rfl)
theorem tw4_227 : Cond.constantLong RX10 55 (2) ∈ lw_tbl := tm4 (List.mem_of_getElem? (i := 227) rfl)
theorem tw4_228 : Cond.methodLink RX10 143 yX10_isSummer ∈ lw_tbl := tm4 (List.mem_of_getElem? (i := 228) rfl)
theorem tw4_230 : Cond.instanceMethod yX10_isSummer ∈ lw_tbl := tm4 (List.mem_of_getElem? (i := 230) rfl)
theorem tw4_231 : Cond.code yX10_isSummer cX10_isSummer 1 (some FieldType.boolean) ∈ lw_tbl := tm4 (List.mem_of_getElem? (i := 231) rfl)
theorem tw4_232 : Cond.methodLink RX10 147 yX10_notes ∈ lw_tbl := tm4 (List.mem_of_getElem? (i := 232) rfl)
theorem tw4_234 : Cond.instanceMethod yX10_notes ∈ lw_tbl := tm4 (List.mem_of_getElem? (i := 234) rfl)
theorem tw4_235 : Cond.code yX10_notes cX10_notes 2 (none : Option FieldType) ∈ lw_tbl := tm4 (List.mem_of_getElem? (i := 235) rfl)
theorem tw4_236 : Cond.methodLink RX10 150 yX10_goesBy ∈ lw_tbl := tm4 (List.mem_of_getElem? (i := 236) rfl)
theorem tw4_238 : Cond.instanceMethod yX10_goesBy ∈ lw_tbl := tm4 (List.mem_of_getElem? (i := 238) rfl)
theorem tw4_239 : Cond.code yX10_goesBy cX10_goesBy 3 (some FieldType.int) ∈ lw_tbl := tm4 (List.mem_of_getElem? (i := 239) rfl)
theorem tw5_0 : Cond.methodLink RX10 137 yX10_behind ∈ lw_tbl := tm5 (List.mem_of_getElem? (i := 0) rfl)
theorem tw5_2 : Cond.instanceMethod yX10_behind ∈ lw_tbl := tm5 (List.mem_of_getElem? (i := 2) rfl)
theorem tw5_3 : Cond.code yX10_behind cX10_behind 6 (some FieldType.int) ∈ lw_tbl := tm5 (List.mem_of_getElem? (i := 3) rfl)
theorem tw5_4 : Cond.methodLink RL 56 yX10_use ∈ lw_tbl := tm5 (List.mem_of_getElem? (i := 4) rfl)
theorem tw5_5 : Cond.instanceMethod yX10_use ∈ lw_tbl := tm5 (List.mem_of_getElem? (i := 5) rfl)
theorem tw5_6 : Cond.selects RX10 yX10_use yX10_use ∈ lw_tbl := tm5 (List.mem_of_getElem? (i := 6) rfl)
theorem tw5_7 : Cond.code yX10_use cX10_use 2 (some FieldType.int) ∈ lw_tbl := tm5 (List.mem_of_getElem? (i := 7) rfl)
theorem tw5_8 : Cond.methodLink RX10 157 yX10_isHindrance ∈ lw_tbl := tm5 (List.mem_of_getElem? (i := 8) rfl)
theorem tw5_10 : Cond.instanceMethod yX10_isHindrance ∈ lw_tbl := tm5 (List.mem_of_getElem? (i := 10) rfl)
theorem tw5_11 : Cond.code yX10_isHindrance cX10_isHindrance 2 (some FieldType.boolean) ∈ lw_tbl := tm5 (List.mem_of_getElem? (i := 11) rfl)
theorem tw5_12 : Cond.methodLink RX10 160 yX10_isUsed ∈ lw_tbl := tm5 (List.mem_of_getElem? (i := 12) rfl)
theorem tw5_14 : Cond.instanceMethod yX10_isUsed ∈ lw_tbl := tm5 (List.mem_of_getElem? (i := 14) rfl)
theorem tw5_15 : Cond.code yX10_isUsed cX10_isUsed 2 (some FieldType.boolean) ∈ lw_tbl := tm5 (List.mem_of_getElem? (i := 15) rfl)
theorem tw5_16 : Cond.methodLink RX10 163 yX10_costOf ∈ lw_tbl := tm5 (List.mem_of_getElem? (i := 16) rfl)
theorem tw5_18 : Cond.instanceMethod yX10_costOf ∈ lw_tbl := tm5 (List.mem_of_getElem? (i := 18) rfl)
theorem tw5_19 : Cond.code yX10_costOf cX10_costOf 2 (some FieldType.int) ∈ lw_tbl := tm5 (List.mem_of_getElem? (i := 19) rfl)
theorem tw5_20 : Cond.methodLink RX10 166 yX10_breaks ∈ lw_tbl := tm5 (List.mem_of_getElem? (i := 20) rfl)
theorem tw5_22 : Cond.instanceMethod yX10_breaks ∈ lw_tbl := tm5 (List.mem_of_getElem? (i := 22) rfl)
theorem tw5_23 : Cond.code yX10_breaks cX10_breaks 2 (some FieldType.boolean) ∈ lw_tbl := tm5 (List.mem_of_getElem? (i := 23) rfl)
theorem tw5_24 : Cond.methodLink RX10 154 yX10_oathOf ∈ lw_tbl := tm5 (List.mem_of_getElem? (i := 24) rfl)
theorem tw5_26 : Cond.instanceMethod yX10_oathOf ∈ lw_tbl := tm5 (List.mem_of_getElem? (i := 26) rfl)
theorem tw5_27 : Cond.code yX10_oathOf cX10_oathOf 2 (some FieldType.int) ∈ lw_tbl := tm5 (List.mem_of_getElem? (i := 27) rfl)
theorem tw5_28 : Cond.methodLink RL 60 yX10_drift ∈ lw_tbl := tm5 (List.mem_of_getElem? (i := 28) rfl)
theorem tw5_29 : Cond.instanceMethod yX10_drift ∈ lw_tbl := tm5 (List.mem_of_getElem? (i := 29) rfl)
theorem tw5_30 : Cond.selects RX10 yX10_drift yX10_drift ∈ lw_tbl := tm5 (List.mem_of_getElem? (i := 30) rfl)
theorem tw5_31 : Cond.code yX10_drift cX10_drift 5 (some FieldType.int) ∈ lw_tbl := tm5 (List.mem_of_getElem? (i := 31) rfl)
theorem tw5_32 : Cond.constantLong RX10 169 (1103515245) ∈ lw_tbl := tm5 (List.mem_of_getElem? (i := 32) rfl)
theorem tw5_33 : Cond.constantLong RX10 171 (12345) ∈ lw_tbl := tm5 (List.mem_of_getElem? (i := 33) rfl)
theorem tw5_34 : Cond.constantLong RX10 173 (2147483647) ∈ lw_tbl := tm5 (List.mem_of_getElem? (i := 34) rfl)
theorem tw5_35 : Cond.constant RX10 175 (65536) ∈ lw_tbl := tm5 (List.mem_of_getElem? (i := 35) rfl)
theorem tw5_36 : Cond.methodLink RL 64 yX10_undo ∈ lw_tbl := tm5 (List.mem_of_getElem? (i := 36) rfl)
theorem tw5_37 : Cond.instanceMethod yX10_undo ∈ lw_tbl := tm5 (List.mem_of_getElem? (i := 37) rfl)
theorem tw5_38 : Cond.selects RX10 yX10_undo yX10_undo ∈ lw_tbl := tm5 (List.mem_of_getElem? (i := 38) rfl)
theorem tw5_39 : Cond.code yX10_undo cX10_undo 2 (some FieldType.int) ∈ lw_tbl := tm5 (List.mem_of_getElem? (i := 39) rfl)
theorem tw5_40 : Cond.methodLink RL 68 yX10_seed ∈ lw_tbl := tm5 (List.mem_of_getElem? (i := 40) rfl)
theorem tw5_41 : Cond.instanceMethod yX10_seed ∈ lw_tbl := tm5 (List.mem_of_getElem? (i := 41) rfl)
theorem tw5_42 : Cond.selects RX10 yX10_seed yX10_seed ∈ lw_tbl := tm5 (List.mem_of_getElem? (i := 42) rfl)
theorem tw5_43 : Cond.code yX10_seed cX10_seed 3 (some FieldType.int) ∈ lw_tbl := tm5 (List.mem_of_getElem? (i := 43) rfl)
theorem tw5_44 : Cond.methodLink RL 72 yX10_odds ∈ lw_tbl := tm5 (List.mem_of_getElem? (i := 44) rfl)
theorem tw5_45 : Cond.instanceMethod yX10_odds ∈ lw_tbl := tm5 (List.mem_of_getElem? (i := 45) rfl)
theorem tw5_46 : Cond.selects RX10 yX10_odds yX10_odds ∈ lw_tbl := tm5 (List.mem_of_getElem? (i := 46) rfl)
theorem tw5_47 : Cond.code yX10_odds cX10_odds 1 (some FieldType.int) ∈ lw_tbl := tm5 (List.mem_of_getElem? (i := 47) rfl)
theorem tw5_48 : Cond.methodLink RX10 184 yX10_oddsBy ∈ lw_tbl := tm5 (List.mem_of_getElem? (i := 48) rfl)
theorem tw5_50 : Cond.instanceMethod yX10_oddsBy ∈ lw_tbl := tm5 (List.mem_of_getElem? (i := 50) rfl)
theorem tw5_51 : Cond.code yX10_oddsBy cX10_oddsBy 3 (some FieldType.int) ∈ lw_tbl := tm5 (List.mem_of_getElem? (i := 51) rfl)
theorem tw5_52 : Cond.methodLink RX10 180 yX10_fills ∈ lw_tbl := tm5 (List.mem_of_getElem? (i := 52) rfl)
theorem tw5_54 : Cond.instanceMethod yX10_fills ∈ lw_tbl := tm5 (List.mem_of_getElem? (i := 54) rfl)
theorem tw5_55 : Cond.code yX10_fills cX10_fills 10 (none : Option FieldType) ∈ lw_tbl := tm5 (List.mem_of_getElem? (i := 55) rfl)
theorem tw5_56 : Cond.constant RX10 176 (1000000) ∈ lw_tbl := tm5 (List.mem_of_getElem? (i := 56) rfl)
theorem tw5_57 : Cond.methodLink RX10 177 yX10_mixed ∈ lw_tbl := tm5 (List.mem_of_getElem? (i := 57) rfl)
theorem tw5_59 : Cond.instanceMethod yX10_mixed ∈ lw_tbl := tm5 (List.mem_of_getElem? (i := 59) rfl)
theorem tw5_60 : Cond.code yX10_mixed cX10_mixed 4 (some FieldType.int) ∈ lw_tbl := tm5 (List.mem_of_getElem? (i := 60) rfl)
theorem tw5_61 : Cond.methodLink RL 76 yX10_oddsAt ∈ lw_tbl := tm5 (List.mem_of_getElem? (i := 61) rfl)
theorem tw5_62 : Cond.instanceMethod yX10_oddsAt ∈ lw_tbl := tm5 (List.mem_of_getElem? (i := 62) rfl)
theorem tw5_63 : Cond.selects RX10 yX10_oddsAt yX10_oddsAt ∈ lw_tbl := tm5 (List.mem_of_getElem? (i := 63) rfl)
theorem tw5_64 : Cond.code yX10_oddsAt cX10_oddsAt 3 (some FieldType.int) ∈ lw_tbl := tm5 (List.mem_of_getElem? (i := 64) rfl)
theorem tw5_65 : Cond.methodLink RL 80 yX10_sure ∈ lw_tbl := tm5 (List.mem_of_getElem? (i := 65) rfl)
theorem tw5_66 : Cond.instanceMethod yX10_sure ∈ lw_tbl := tm5 (List.mem_of_getElem? (i := 66) rfl)
theorem tw5_67 : Cond.selects RX10 yX10_sure yX10_sure ∈ lw_tbl := tm5 (List.mem_of_getElem? (i := 67) rfl)
theorem tw5_68 : Cond.code yX10_sure cX10_sure 4 (some FieldType.int) ∈ lw_tbl := tm5 (List.mem_of_getElem? (i := 68) rfl)
theorem tw5_69 : Cond.methodLink RX10 189 yX10_isPart ∈ lw_tbl := tm5 (List.mem_of_getElem? (i := 69) rfl)
theorem tw5_70 : Cond.static yX10_isPart ∈ lw_tbl := tm5 (List.mem_of_getElem? (i := 70) rfl)
theorem tw5_71 : Cond.code yX10_isPart cX10_isPart 1 (some FieldType.boolean) ∈ lw_tbl := tm5 (List.mem_of_getElem? (i := 71) rfl)
theorem tw5_72 : Cond.constantLong RX10 187 (1000000) ∈ lw_tbl := tm5 (List.mem_of_getElem? (i := 72) rfl)
theorem tw5_73 : Cond.methodLink RL 84 yX10_pace ∈ lw_tbl := tm5 (List.mem_of_getElem? (i := 73) rfl)
theorem tw5_74 : Cond.instanceMethod yX10_pace ∈ lw_tbl := tm5 (List.mem_of_getElem? (i := 74) rfl)
theorem tw5_75 : Cond.selects RX10 yX10_pace yX10_pace ∈ lw_tbl := tm5 (List.mem_of_getElem? (i := 75) rfl)
theorem tw5_76 : Cond.code yX10_pace cX10_pace 5 (some FieldType.int) ∈ lw_tbl := tm5 (List.mem_of_getElem? (i := 76) rfl)
theorem tw5_77 : Cond.methodLink RX10 192 yX10_odds ∈ lw_tbl := tm5 (List.mem_of_getElem? (i := 77) rfl)
theorem tw5_78 : Cond.methodLink RL 88 yX10_plan ∈ lw_tbl := tm5 (List.mem_of_getElem? (i := 78) rfl)
theorem tw5_79 : Cond.instanceMethod yX10_plan ∈ lw_tbl := tm5 (List.mem_of_getElem? (i := 79) rfl)
theorem tw5_80 : Cond.selects RX10 yX10_plan yX10_plan ∈ lw_tbl := tm5 (List.mem_of_getElem? (i := 80) rfl)
theorem tw5_81 : Cond.code yX10_plan cX10_plan 9 (some FieldType.int) ∈ lw_tbl := tm5 (List.mem_of_getElem? (i := 81) rfl)
theorem tw5_82 : Cond.methodLink RX10 195 yX10_many ∈ lw_tbl := tm5 (List.mem_of_getElem? (i := 82) rfl)
theorem tw5_83 : Cond.static yX10_many ∈ lw_tbl := tm5 (List.mem_of_getElem? (i := 83) rfl)
theorem tw5_84 : Cond.code yX10_many cX10_many 3 (some FieldType.int) ∈ lw_tbl := tm5 (List.mem_of_getElem? (i := 84) rfl)
theorem tw5_85 : Cond.methodLink RL 92 yX10_best ∈ lw_tbl := tm5 (List.mem_of_getElem? (i := 85) rfl)
theorem tw5_86 : Cond.instanceMethod yX10_best ∈ lw_tbl := tm5 (List.mem_of_getElem? (i := 86) rfl)
theorem tw5_87 : Cond.selects RX10 yX10_best yX10_best ∈ lw_tbl := tm5 (List.mem_of_getElem? (i := 87) rfl)
theorem tw5_88 : Cond.code yX10_best cX10_best 8 (some FieldType.int) ∈ lw_tbl := tm5 (List.mem_of_getElem? (i := 88) rfl)
theorem tw5_89 : Cond.methodLink RL 96 yX10_soonest ∈ lw_tbl := tm5 (List.mem_of_getElem? (i := 89) rfl)
theorem tw5_90 : Cond.instanceMethod yX10_soonest ∈ lw_tbl := tm5 (List.mem_of_getElem? (i := 90) rfl)
theorem tw5_91 : Cond.selects RX10 yX10_soonest yX10_soonest ∈ lw_tbl := tm5 (List.mem_of_getElem? (i := 91) rfl)
theorem tw5_92 : Cond.code yX10_soonest cX10_soonest 4 (some FieldType.int) ∈ lw_tbl := tm5 (List.mem_of_getElem? (i := 92) rfl)
theorem tw5_93 : Cond.methodLink RL 100 yX10_mean ∈ lw_tbl := tm5 (List.mem_of_getElem? (i := 93) rfl)
theorem tw5_94 : Cond.instanceMethod yX10_mean ∈ lw_tbl := tm5 (List.mem_of_getElem? (i := 94) rfl)
theorem tw5_95 : Cond.selects RX10 yX10_mean yX10_mean ∈ lw_tbl := tm5 (List.mem_of_getElem? (i := 95) rfl)
theorem tw5_96 : Cond.code yX10_mean cX10_mean 8 (some FieldType.int) ∈ lw_tbl := tm5 (List.mem_of_getElem? (i := 96) rfl)
theorem tw5_97 : Cond.methodLink RX10 198 yX10_shares ∈ lw_tbl := tm5 (List.mem_of_getElem? (i := 97) rfl)
theorem tw5_99 : Cond.instanceMethod yX10_shares ∈ lw_tbl := tm5 (List.mem_of_getElem? (i := 99) rfl)
theorem tw5_100 : Cond.code yX10_shares cX10_shares 5 (none : Option FieldType) ∈ lw_tbl := tm5 (List.mem_of_getElem? (i := 100) rfl)
theorem tw5_101 : Cond.methodLink RL 104 yX10_image ∈ lw_tbl := tm5 (List.mem_of_getElem? (i := 101) rfl)
theorem tw5_102 : Cond.instanceMethod yX10_image ∈ lw_tbl := tm5 (List.mem_of_getElem? (i := 102) rfl)
theorem tw5_103 : Cond.selects RX10 yX10_image yX10_image ∈ lw_tbl := tm5 (List.mem_of_getElem? (i := 103) rfl)
theorem tw5_104 : Cond.code yX10_image cX10_image 2 (some FieldType.int) ∈ lw_tbl := tm5 (List.mem_of_getElem? (i := 104) rfl)
theorem tw5_105 : Cond.methodLink RL 108 yX10_restore ∈ lw_tbl := tm5 (List.mem_of_getElem? (i := 105) rfl)
theorem tw5_106 : Cond.instanceMethod yX10_restore ∈ lw_tbl := tm5 (List.mem_of_getElem? (i := 106) rfl)
theorem tw5_107 : Cond.selects RX10 yX10_restore yX10_restore ∈ lw_tbl := tm5 (List.mem_of_getElem? (i := 107) rfl)
theorem tw5_108 : Cond.code yX10_restore cX10_restore 2 (some FieldType.int) ∈ lw_tbl := tm5 (List.mem_of_getElem? (i := 108) rfl)
theorem tw5_109 : Cond.methodLink RL 113 yX10_weather ∈ lw_tbl := tm5 (List.mem_of_getElem? (i := 109) rfl)
theorem tw5_110 : Cond.instanceMethod yX10_weather ∈ lw_tbl := tm5 (List.mem_of_getElem? (i := 110) rfl)
theorem tw5_111 : Cond.selects RX10 yX10_weather yX10_weather ∈ lw_tbl := tm5 (List.mem_of_getElem? (i := 111) rfl)
theorem tw5_112 : Cond.code yX10_weather cX10_weather 15 (some FieldType.int) ∈ lw_tbl := tm5 (List.mem_of_getElem? (i := 112) rfl)
theorem tw5_113 : Cond.methodLink RX10 207 yX10_isSheet ∈ lw_tbl := tm5 (List.mem_of_getElem? (i := 113) rfl)
theorem tw5_114 : Cond.static yX10_isSheet ∈ lw_tbl := tm5 (List.mem_of_getElem? (i := 114) rfl)
theorem tw5_115 : Cond.code yX10_isSheet cX10_isSheet 1 (some FieldType.boolean) ∈ lw_tbl := tm5 (List.mem_of_getElem? (i := 115) rfl)
theorem tw5_116 : Cond.methodLink RX10 210 yX10_isLane ∈ lw_tbl := tm5 (List.mem_of_getElem? (i := 116) rfl)
theorem tw5_117 : Cond.static yX10_isLane ∈ lw_tbl := tm5 (List.mem_of_getElem? (i := 117) rfl)
theorem tw5_118 : Cond.code yX10_isLane cX10_isLane 1 (some FieldType.boolean) ∈ lw_tbl := tm5 (List.mem_of_getElem? (i := 118) rfl)
theorem tw5_119 : Cond.constantLong RX10 213 (8) ∈ lw_tbl := tm5 (List.mem_of_getElem? (i := 119) rfl)
theorem tw5_120 : Cond.constantLong RX10 215 (-1) ∈ lw_tbl := tm5 (List.mem_of_getElem? (i := 120) rfl)
theorem tw5_121 : Cond.methodLink RX10 217 yX10_why ∈ lw_tbl := tm5 (List.mem_of_getElem? (i := 121) rfl)
theorem tw5_123 : Cond.instanceMethod yX10_why ∈ lw_tbl := tm5 (List.mem_of_getElem? (i := 123) rfl)
theorem tw5_124 : Cond.code yX10_why cX10_why 5 (some FieldType.int) ∈ lw_tbl := tm5 (List.mem_of_getElem? (i := 124) rfl)
theorem tw5_125 : Cond.methodLink RL 117 yX10_film ∈ lw_tbl := tm5 (List.mem_of_getElem? (i := 125) rfl)
theorem tw5_126 : Cond.instanceMethod yX10_film ∈ lw_tbl := tm5 (List.mem_of_getElem? (i := 126) rfl)
theorem tw5_127 : Cond.selects RX10 yX10_film yX10_film ∈ lw_tbl := tm5 (List.mem_of_getElem? (i := 127) rfl)
theorem tw5_128 : Cond.code yX10_film cX10_film 9 (some FieldType.int) ∈ lw_tbl := tm5 (List.mem_of_getElem? (i := 128) rfl)
theorem tw5_129 : Cond.constantLong RX10 221 (24) ∈ lw_tbl := tm5 (List.mem_of_getElem? (i := 129) rfl)
theorem tw5_130 : Cond.methodLink RL 121 yX10_sheet ∈ lw_tbl := tm5 (List.mem_of_getElem? (i := 130) rfl)
theorem tw5_131 : Cond.instanceMethod yX10_sheet ∈ lw_tbl := tm5 (List.mem_of_getElem? (i := 131) rfl)
theorem tw5_132 : Cond.selects RX10 yX10_sheet yX10_sheet ∈ lw_tbl := tm5 (List.mem_of_getElem? (i := 132) rfl)
theorem tw5_133 : Cond.code yX10_sheet cX10_sheet 5 (some FieldType.int) ∈ lw_tbl := tm5 (List.mem_of_getElem? (i := 133) rfl)
theorem tw5_134 : Cond.methodLink RL 125 yX10_drop ∈ lw_tbl := tm5 (List.mem_of_getElem? (i := 134) rfl)
theorem tw5_135 : Cond.instanceMethod yX10_drop ∈ lw_tbl := tm5 (List.mem_of_getElem? (i := 135) rfl)
theorem tw5_136 : Cond.selects RX10 yX10_drop yX10_drop ∈ lw_tbl := tm5 (List.mem_of_getElem? (i := 136) rfl)
theorem tw5_137 : Cond.code yX10_drop cX10_drop 2 (some FieldType.int) ∈ lw_tbl := tm5 (List.mem_of_getElem? (i := 137) rfl)
theorem tw5_138 : Cond.methodLink RL 132 yX10_item ∈ lw_tbl := tm5 (List.mem_of_getElem? (i := 138) rfl)
theorem tw5_139 : Cond.instanceMethod yX10_item ∈ lw_tbl := tm5 (List.mem_of_getElem? (i := 139) rfl)
theorem tw5_140 : Cond.selects RX10 yX10_item yX10_item ∈ lw_tbl := tm5 (List.mem_of_getElem? (i := 140) rfl)
theorem tw5_141 : Cond.code yX10_item cX10_item 7 (some FieldType.int) ∈ lw_tbl := tm5 (List.mem_of_getElem? (i := 141) rfl)
theorem tw5_142 : Cond.methodLink RL 136 yX10_copy ∈ lw_tbl := tm5 (List.mem_of_getElem? (i := 142) rfl)
theorem tw5_143 : Cond.instanceMethod yX10_copy ∈ lw_tbl := tm5 (List.mem_of_getElem? (i := 143) rfl)
theorem tw5_144 : Cond.selects RX10 yX10_copy yX10_copy ∈ lw_tbl := tm5 (List.mem_of_getElem? (i := 144) rfl)
theorem tw5_145 : Cond.code yX10_copy cX10_copy 8 (some FieldType.int) ∈ lw_tbl := tm5 (List.mem_of_getElem? (i := 145) rfl)
theorem tw5_146 : Cond.constantLong RL 126 (4294967295) ∈ lw_tbl := tm5 (List.mem_of_getElem? (i := 146) rfl)
theorem tw5_147 : Cond.sameMethod RX3 "SummerWall$Horsed" "hauls" "(II)I" ∈ lw_tbl := tm5 (List.mem_of_getElem? (i := 147) rfl)
theorem tw5_148 : Cond.castable RX3 "SummerWall$Plain" ∈ lw_tbl := tm5 (List.mem_of_getElem? (i := 148) rfl)
theorem tw5_149 : Cond.castable RX0 "SummerWall$Plain" ∈ lw_tbl := tm5 (List.mem_of_getElem? (i := 149) rfl)
theorem tw5_150 : Cond.castable RX2 "SummerWall$Plain" ∈ lw_tbl := tm5 (List.mem_of_getElem? (i := 150) rfl)
theorem tw5_151 : Cond.castable RX4 "SummerWall$Plain" ∈ lw_tbl := tm5 (List.mem_of_getElem? (i := 151) rfl)
theorem tp_yX9_changeStones : Cond.selects RX9 yX9_changeStones yX9_changeStones ∈ lw_tbl := List.mem_append_left _ (List.mem_of_getElem? (i := 0) rfl)
theorem tp_yX9_changeDays : Cond.selects RX9 yX9_changeDays yX9_changeDays ∈ lw_tbl := List.mem_append_left _ (List.mem_of_getElem? (i := 1) rfl)
theorem tp_yX9_changeFrost : Cond.selects RX9 yX9_changeFrost yX9_changeFrost ∈ lw_tbl := List.mem_append_left _ (List.mem_of_getElem? (i := 2) rfl)
theorem tp_yX9_changeThaw : Cond.selects RX9 yX9_changeThaw yX9_changeThaw ∈ lw_tbl := List.mem_append_left _ (List.mem_of_getElem? (i := 3) rfl)
theorem tp_yX8_readNumber : Cond.selects RX8 yX8_readNumber yX8_readNumber ∈ lw_tbl := List.mem_append_left _ (List.mem_of_getElem? (i := 4) rfl)
theorem tp_yX8_next : Cond.selects RX8 yX8_next yX8_next ∈ lw_tbl := List.mem_append_left _ (List.mem_of_getElem? (i := 5) rfl)
theorem tp_yX8_failAt : Cond.selects RX8 yX8_failAt yX8_failAt ∈ lw_tbl := List.mem_append_left _ (List.mem_of_getElem? (i := 6) rfl)
theorem tp_yX8_readSign : Cond.selects RX8 yX8_readSign yX8_readSign ∈ lw_tbl := List.mem_append_left _ (List.mem_of_getElem? (i := 7) rfl)
theorem tp_yX8_readBuilders : Cond.selects RX8 yX8_readBuilders yX8_readBuilders ∈ lw_tbl := List.mem_append_left _ (List.mem_of_getElem? (i := 8) rfl)
theorem tp_yX8_readBuilder : Cond.selects RX8 yX8_readBuilder yX8_readBuilder ∈ lw_tbl := List.mem_append_left _ (List.mem_of_getElem? (i := 9) rfl)
theorem tp_yX8_readDigit : Cond.selects RX8 yX8_readDigit yX8_readDigit ∈ lw_tbl := List.mem_append_left _ (List.mem_of_getElem? (i := 10) rfl)
theorem tp_yX8_readHindrances : Cond.selects RX8 yX8_readHindrances yX8_readHindrances ∈ lw_tbl := List.mem_append_left _ (List.mem_of_getElem? (i := 11) rfl)
theorem tp_yX8_readHindrance : Cond.selects RX8 yX8_readHindrance yX8_readHindrance ∈ lw_tbl := List.mem_append_left _ (List.mem_of_getElem? (i := 12) rfl)
theorem tp_yX1_look : Cond.selects RX1 yX1_look yX1_look ∈ lw_tbl := List.mem_append_left _ (List.mem_of_getElem? (i := 13) rfl)
theorem tp_yX1_reckonLays : Cond.selects RX1 yX1_reckonLays yX1_reckonLays ∈ lw_tbl := List.mem_append_left _ (List.mem_of_getElem? (i := 14) rfl)
theorem tp_yX1_fillBehind : Cond.selects RX1 yX1_fillBehind yX1_fillBehind ∈ lw_tbl := List.mem_append_left _ (List.mem_of_getElem? (i := 15) rfl)
theorem tp_yX1_laidBehind : Cond.selects RX1 yX1_laidBehind yX1_laidBehind ∈ lw_tbl := List.mem_append_left _ (List.mem_of_getElem? (i := 16) rfl)
theorem tp_yX1_goBackToTomorrow : Cond.selects RX1 yX1_goBackToTomorrow yX1_goBackToTomorrow ∈ lw_tbl := List.mem_append_left _ (List.mem_of_getElem? (i := 17) rfl)
theorem tp_yX1_startAtSummer : Cond.selects RX1 yX1_startAtSummer yX1_startAtSummer ∈ lw_tbl := List.mem_append_left _ (List.mem_of_getElem? (i := 18) rfl)
theorem tp_yX1_stepBack : Cond.selects RX1 yX1_stepBack yX1_stepBack ∈ lw_tbl := List.mem_append_left _ (List.mem_of_getElem? (i := 19) rfl)
theorem tp_yX1_oddsToday : Cond.selects RX1 yX1_oddsToday yX1_oddsToday ∈ lw_tbl := List.mem_append_left _ (List.mem_of_getElem? (i := 20) rfl)
theorem tp_yX1_oddsIfHindered : Cond.selects RX1 yX1_oddsIfHindered yX1_oddsIfHindered ∈ lw_tbl := List.mem_append_left _ (List.mem_of_getElem? (i := 21) rfl)
theorem tp_yX1_spread : Cond.selects RX1 yX1_spread yX1_spread ∈ lw_tbl := List.mem_append_left _ (List.mem_of_getElem? (i := 22) rfl)
theorem tp_yX9_weatherOf : Cond.selects RX9 yX9_weatherOf yX9_weatherOf ∈ lw_tbl := List.mem_append_left _ (List.mem_of_getElem? (i := 23) rfl)
theorem tp_yX9_fittingWeathers : Cond.selects RX9 yX9_fittingWeathers yX9_fittingWeathers ∈ lw_tbl := List.mem_append_left _ (List.mem_of_getElem? (i := 24) rfl)
theorem tp_yX6_cut : Cond.selects RX6 yX6_cut yX6_cut ∈ lw_tbl := List.mem_append_left _ (List.mem_of_getElem? (i := 25) rfl)
theorem tp_yX10_isBuilder : Cond.selects RX10 yX10_isBuilder yX10_isBuilder ∈ lw_tbl := List.mem_append_left _ (List.mem_of_getElem? (i := 26) rfl)
theorem tp_yX10_haulsOf : Cond.selects RX10 yX10_haulsOf yX10_haulsOf ∈ lw_tbl := List.mem_append_left _ (List.mem_of_getElem? (i := 27) rfl)
theorem tp_yX10_laysOf : Cond.selects RX10 yX10_laysOf yX10_laysOf ∈ lw_tbl := List.mem_append_left _ (List.mem_of_getElem? (i := 28) rfl)
theorem tp_yX10_number : Cond.selects RX10 yX10_number yX10_number ∈ lw_tbl := List.mem_append_left _ (List.mem_of_getElem? (i := 29) rfl)
theorem tp_yX10_here : Cond.selects RX10 yX10_here yX10_here ∈ lw_tbl := List.mem_append_left _ (List.mem_of_getElem? (i := 30) rfl)
theorem tp_yX10_must : Cond.selects RX10 yX10_must yX10_must ∈ lw_tbl := List.mem_append_left _ (List.mem_of_getElem? (i := 31) rfl)
theorem tp_yX10_takes : Cond.selects RX10 yX10_takes yX10_takes ∈ lw_tbl := List.mem_append_left _ (List.mem_of_getElem? (i := 32) rfl)
theorem tp_yX10_readBuilders : Cond.selects RX10 yX10_readBuilders yX10_readBuilders ∈ lw_tbl := List.mem_append_left _ (List.mem_of_getElem? (i := 33) rfl)
theorem tp_yX10_digit : Cond.selects RX10 yX10_digit yX10_digit ∈ lw_tbl := List.mem_append_left _ (List.mem_of_getElem? (i := 34) rfl)
theorem tp_yX10_readHindrances : Cond.selects RX10 yX10_readHindrances yX10_readHindrances ∈ lw_tbl := List.mem_append_left _ (List.mem_of_getElem? (i := 35) rfl)
theorem tp_yX10_isSummer : Cond.selects RX10 yX10_isSummer yX10_isSummer ∈ lw_tbl := List.mem_append_left _ (List.mem_of_getElem? (i := 36) rfl)
theorem tp_yX10_notes : Cond.selects RX10 yX10_notes yX10_notes ∈ lw_tbl := List.mem_append_left _ (List.mem_of_getElem? (i := 37) rfl)
theorem tp_yX10_goesBy : Cond.selects RX10 yX10_goesBy yX10_goesBy ∈ lw_tbl := List.mem_append_left _ (List.mem_of_getElem? (i := 38) rfl)
theorem tp_yX10_behind : Cond.selects RX10 yX10_behind yX10_behind ∈ lw_tbl := List.mem_append_left _ (List.mem_of_getElem? (i := 39) rfl)
theorem tp_yX10_isHindrance : Cond.selects RX10 yX10_isHindrance yX10_isHindrance ∈ lw_tbl := List.mem_append_left _ (List.mem_of_getElem? (i := 40) rfl)
theorem tp_yX10_isUsed : Cond.selects RX10 yX10_isUsed yX10_isUsed ∈ lw_tbl := List.mem_append_left _ (List.mem_of_getElem? (i := 41) rfl)
theorem tp_yX10_costOf : Cond.selects RX10 yX10_costOf yX10_costOf ∈ lw_tbl := List.mem_append_left _ (List.mem_of_getElem? (i := 42) rfl)
theorem tp_yX10_breaks : Cond.selects RX10 yX10_breaks yX10_breaks ∈ lw_tbl := List.mem_append_left _ (List.mem_of_getElem? (i := 43) rfl)
theorem tp_yX10_oathOf : Cond.selects RX10 yX10_oathOf yX10_oathOf ∈ lw_tbl := List.mem_append_left _ (List.mem_of_getElem? (i := 44) rfl)
theorem tp_yX10_oddsBy : Cond.selects RX10 yX10_oddsBy yX10_oddsBy ∈ lw_tbl := List.mem_append_left _ (List.mem_of_getElem? (i := 45) rfl)
theorem tp_yX10_fills : Cond.selects RX10 yX10_fills yX10_fills ∈ lw_tbl := List.mem_append_left _ (List.mem_of_getElem? (i := 46) rfl)
theorem tp_yX10_mixed : Cond.selects RX10 yX10_mixed yX10_mixed ∈ lw_tbl := List.mem_append_left _ (List.mem_of_getElem? (i := 47) rfl)
theorem tp_yX10_shares : Cond.selects RX10 yX10_shares yX10_shares ∈ lw_tbl := List.mem_append_left _ (List.mem_of_getElem? (i := 48) rfl)
theorem tp_yX10_why : Cond.selects RX10 yX10_why yX10_why ∈ lw_tbl := List.mem_append_left _ (List.mem_of_getElem? (i := 49) rfl)
end
section
theorem dX10_in_0 : decode cX10_in 0 = .ok (.lload_n 0, 1) := by decide +kernel
theorem dX10_in_1 : decode cX10_in 1 = .ok (.lload_n 2, 1) := by decide +kernel
theorem dX10_in_2 : decode cX10_in 2 = .ok (.lcmp, 1) := by decide +kernel
theorem dX10_in_3 : decode cX10_in 3 = .ok (.ifCond .lt 14, 3) := by decide +kernel
theorem dX10_in_6 : decode cX10_in 6 = .ok (.lload_n 0, 1) := by decide +kernel
theorem dX10_in_7 : decode cX10_in 7 = .ok (.lload 4, 2) := by decide +kernel
theorem dX10_in_9 : decode cX10_in 9 = .ok (.lcmp, 1) := by decide +kernel
theorem dX10_in_10 : decode cX10_in 10 = .ok (.ifCond .gt 7, 3) := by decide +kernel
theorem dX10_in_13 : decode cX10_in 13 = .ok (.iconst 1, 1) := by decide +kernel
theorem dX10_in_14 : decode cX10_in 14 = .ok (.goto 4, 3) := by decide +kernel
theorem dX10_in_17 : decode cX10_in 17 = .ok (.iconst 0, 1) := by decide +kernel
theorem dX10_in_18 : decode cX10_in 18 = .ok (.ireturn, 1) := by decide +kernel
theorem dX10_init_0 : decode cX10_init 0 = .ok (.aload_n 0, 1) := by decide +kernel
theorem dX10_init_1 : decode cX10_init 1 = .ok (.invokespecial 1, 3) := by decide +kernel
theorem dX10_init_4 : decode cX10_init 4 = .ok (.aload_n 0, 1) := by decide +kernel
theorem dX10_init_5 : decode cX10_init 5 = .ok (.bipush 37, 2) := by decide +kernel
theorem dX10_init_7 : decode cX10_init 7 = .ok (.newarray .int, 2) := by decide +kernel
theorem dX10_init_9 : decode cX10_init 9 = .ok (.putfield 7, 3) := by decide +kernel
theorem dX10_init_12 : decode cX10_init 12 = .ok (.aload_n 0, 1) := by decide +kernel
theorem dX10_init_13 : decode cX10_init 13 = .ok (.iconst (-1), 1) := by decide +kernel
theorem dX10_init_14 : decode cX10_init 14 = .ok (.putfield 13, 3) := by decide +kernel
theorem dX10_init_17 : decode cX10_init 17 = .ok (.aload_n 0, 1) := by decide +kernel
theorem dX10_init_18 : decode cX10_init 18 = .ok (.bipush 60, 2) := by decide +kernel
theorem dX10_init_20 : decode cX10_init 20 = .ok (.newarray .int, 2) := by decide +kernel
theorem dX10_init_22 : decode cX10_init 22 = .ok (.putfield 17, 3) := by decide +kernel
theorem dX10_init_25 : decode cX10_init 25 = .ok (.aload_n 0, 1) := by decide +kernel
theorem dX10_init_26 : decode cX10_init 26 = .ok (.bipush 24, 2) := by decide +kernel
theorem dX10_init_28 : decode cX10_init 28 = .ok (.newarray .int, 2) := by decide +kernel
theorem dX10_init_30 : decode cX10_init 30 = .ok (.putfield 20, 3) := by decide +kernel
theorem dX10_init_33 : decode cX10_init 33 = .ok (.aload_n 0, 1) := by decide +kernel
theorem dX10_init_34 : decode cX10_init 34 = .ok (.bipush 48, 2) := by decide +kernel
theorem dX10_init_36 : decode cX10_init 36 = .ok (.newarray .int, 2) := by decide +kernel
theorem dX10_init_38 : decode cX10_init 38 = .ok (.putfield 23, 3) := by decide +kernel
theorem dX10_init_41 : decode cX10_init 41 = .ok (.aload_n 0, 1) := by decide +kernel
theorem dX10_init_42 : decode cX10_init 42 = .ok (.sipush 8241, 3) := by decide +kernel
theorem dX10_init_45 : decode cX10_init 45 = .ok (.newarray .int, 2) := by decide +kernel
theorem dX10_init_47 : decode cX10_init 47 = .ok (.putfield 26, 3) := by decide +kernel
theorem dX10_init_50 : decode cX10_init 50 = .ok (.aload_n 0, 1) := by decide +kernel
theorem dX10_init_51 : decode cX10_init 51 = .ok (.sipush 201, 3) := by decide +kernel
theorem dX10_init_54 : decode cX10_init 54 = .ok (.newarray .int, 2) := by decide +kernel
theorem dX10_init_56 : decode cX10_init 56 = .ok (.putfield 29, 3) := by decide +kernel
theorem dX10_init_59 : decode cX10_init 59 = .ok (.aload_n 0, 1) := by decide +kernel
theorem dX10_init_60 : decode cX10_init 60 = .ok (.sipush 201, 3) := by decide +kernel
theorem dX10_init_63 : decode cX10_init 63 = .ok (.newarray .int, 2) := by decide +kernel
theorem dX10_init_65 : decode cX10_init 65 = .ok (.putfield 32, 3) := by decide +kernel
theorem dX10_init_68 : decode cX10_init 68 = .ok (.aload_n 0, 1) := by decide +kernel
theorem dX10_init_69 : decode cX10_init 69 = .ok (.bipush 85, 2) := by decide +kernel
theorem dX10_init_71 : decode cX10_init 71 = .ok (.newarray .int, 2) := by decide +kernel
theorem dX10_init_73 : decode cX10_init 73 = .ok (.putfield 35, 3) := by decide +kernel
theorem dX10_init_76 : decode cX10_init 76 = .ok (.aload_n 0, 1) := by decide +kernel
theorem dX10_init_77 : decode cX10_init 77 = .ok (.iconst 4, 1) := by decide +kernel
theorem dX10_init_78 : decode cX10_init 78 = .ok (.newarray .int, 2) := by decide +kernel
theorem dX10_init_80 : decode cX10_init 80 = .ok (.putfield 38, 3) := by decide +kernel
theorem dX10_init_83 : decode cX10_init 83 = .ok (.aload_n 0, 1) := by decide +kernel
theorem dX10_init_84 : decode cX10_init 84 = .ok (.iconst 4, 1) := by decide +kernel
theorem dX10_init_85 : decode cX10_init 85 = .ok (.newarray .int, 2) := by decide +kernel
theorem dX10_init_87 : decode cX10_init 87 = .ok (.putfield 41, 3) := by decide +kernel
theorem dX10_init_90 : decode cX10_init 90 = .ok (.aload_n 0, 1) := by decide +kernel
theorem dX10_init_91 : decode cX10_init 91 = .ok (.bipush 96, 2) := by decide +kernel
theorem dX10_init_93 : decode cX10_init 93 = .ok (.newarray .long, 2) := by decide +kernel
theorem dX10_init_95 : decode cX10_init 95 = .ok (.putfield 44, 3) := by decide +kernel
theorem dX10_init_98 : decode cX10_init 98 = .ok (.aload_n 0, 1) := by decide +kernel
theorem dX10_init_99 : decode cX10_init 99 = .ok (.bipush 24, 2) := by decide +kernel
theorem dX10_init_101 : decode cX10_init 101 = .ok (.newarray .long, 2) := by decide +kernel
theorem dX10_init_103 : decode cX10_init 103 = .ok (.putfield 48, 3) := by decide +kernel
theorem dX10_init_106 : decode cX10_init 106 = .ok (.aload_n 0, 1) := by decide +kernel
theorem dX10_init_107 : decode cX10_init 107 = .ok (.getfield 7, 3) := by decide +kernel
theorem dX10_init_110 : decode cX10_init 110 = .ok (.iconst 2, 1) := by decide +kernel
theorem dX10_init_111 : decode cX10_init 111 = .ok (.bipush 60, 2) := by decide +kernel
theorem dX10_init_113 : decode cX10_init 113 = .ok (.iastore, 1) := by decide +kernel
theorem dX10_init_114 : decode cX10_init 114 = .ok (.aload_n 0, 1) := by decide +kernel
theorem dX10_init_115 : decode cX10_init 115 = .ok (.getfield 7, 3) := by decide +kernel
theorem dX10_init_118 : decode cX10_init 118 = .ok (.iconst 3, 1) := by decide +kernel
theorem dX10_init_119 : decode cX10_init 119 = .ok (.bipush 20, 2) := by decide +kernel
theorem dX10_init_121 : decode cX10_init 121 = .ok (.iastore, 1) := by decide +kernel
theorem dX10_init_122 : decode cX10_init 122 = .ok (.aload_n 0, 1) := by decide +kernel
theorem dX10_init_123 : decode cX10_init 123 = .ok (.getfield 7, 3) := by decide +kernel
theorem dX10_init_126 : decode cX10_init 126 = .ok (.iconst 4, 1) := by decide +kernel
theorem dX10_init_127 : decode cX10_init 127 = .ok (.iconst 2, 1) := by decide +kernel
theorem dX10_init_128 : decode cX10_init 128 = .ok (.iastore, 1) := by decide +kernel
theorem dX10_init_129 : decode cX10_init 129 = .ok (.aload_n 0, 1) := by decide +kernel
theorem dX10_init_130 : decode cX10_init 130 = .ok (.getfield 7, 3) := by decide +kernel
theorem dX10_init_133 : decode cX10_init 133 = .ok (.iconst 5, 1) := by decide +kernel
theorem dX10_init_134 : decode cX10_init 134 = .ok (.iconst 1, 1) := by decide +kernel
theorem dX10_init_135 : decode cX10_init 135 = .ok (.iastore, 1) := by decide +kernel
theorem dX10_init_136 : decode cX10_init 136 = .ok (.aload_n 0, 1) := by decide +kernel
theorem dX10_init_137 : decode cX10_init 137 = .ok (.getfield 7, 3) := by decide +kernel
theorem dX10_init_140 : decode cX10_init 140 = .ok (.bipush 11, 2) := by decide +kernel
theorem dX10_init_142 : decode cX10_init 142 = .ok (.bipush 15, 2) := by decide +kernel
theorem dX10_init_144 : decode cX10_init 144 = .ok (.iastore, 1) := by decide +kernel
theorem dX10_init_145 : decode cX10_init 145 = .ok (.aload_n 0, 1) := by decide +kernel
theorem dX10_init_146 : decode cX10_init 146 = .ok (.getfield 7, 3) := by decide +kernel
theorem dX10_init_149 : decode cX10_init 149 = .ok (.bipush 12, 2) := by decide +kernel
theorem dX10_init_151 : decode cX10_init 151 = .ok (.iconst 1, 1) := by decide +kernel
theorem dX10_init_152 : decode cX10_init 152 = .ok (.iastore, 1) := by decide +kernel
theorem dX10_init_153 : decode cX10_init 153 = .ok (.iconst 0, 1) := by decide +kernel
theorem dX10_init_154 : decode cX10_init 154 = .ok (.istore_n 1, 1) := by decide +kernel
theorem dX10_init_155 : decode cX10_init 155 = .ok (.iload_n 1, 1) := by decide +kernel
theorem dX10_init_156 : decode cX10_init 156 = .ok (.iconst 4, 1) := by decide +kernel
theorem dX10_init_157 : decode cX10_init 157 = .ok (.if_icmp .ge 16, 3) := by decide +kernel
theorem dX10_init_160 : decode cX10_init 160 = .ok (.aload_n 0, 1) := by decide +kernel
theorem dX10_init_161 : decode cX10_init 161 = .ok (.getfield 38, 3) := by decide +kernel
theorem dX10_init_164 : decode cX10_init 164 = .ok (.iload_n 1, 1) := by decide +kernel
theorem dX10_init_165 : decode cX10_init 165 = .ok (.iconst (-1), 1) := by decide +kernel
theorem dX10_init_166 : decode cX10_init 166 = .ok (.iastore, 1) := by decide +kernel
theorem dX10_init_167 : decode cX10_init 167 = .ok (.iinc 1 1, 3) := by decide +kernel
theorem dX10_init_170 : decode cX10_init 170 = .ok (.goto (-15), 3) := by decide +kernel
theorem dX10_init_173 : decode cX10_init 173 = .ok (.return_, 1) := by decide +kernel
theorem dX10_isBuilder_0 : decode cX10_isBuilder 0 = .ok (.iload_n 1, 1) := by decide +kernel
theorem dX10_isBuilder_1 : decode cX10_isBuilder 1 = .ok (.i2l, 1) := by decide +kernel
theorem dX10_isBuilder_2 : decode cX10_isBuilder 2 = .ok (.lconst 0, 1) := by decide +kernel
theorem dX10_isBuilder_3 : decode cX10_isBuilder 3 = .ok (.aload_n 0, 1) := by decide +kernel
theorem dX10_isBuilder_4 : decode cX10_isBuilder 4 = .ok (.getfield 7, 3) := by decide +kernel
theorem dX10_isBuilder_7 : decode cX10_isBuilder 7 = .ok (.iconst 0, 1) := by decide +kernel
theorem dX10_isBuilder_8 : decode cX10_isBuilder 8 = .ok (.iaload, 1) := by decide +kernel
theorem dX10_isBuilder_9 : decode cX10_isBuilder 9 = .ok (.iconst 1, 1) := by decide +kernel
theorem dX10_isBuilder_10 : decode cX10_isBuilder 10 = .ok (.isub, 1) := by decide +kernel
theorem dX10_isBuilder_11 : decode cX10_isBuilder 11 = .ok (.i2l, 1) := by decide +kernel
theorem dX10_isBuilder_12 : decode cX10_isBuilder 12 = .ok (.invokestatic 51, 3) := by decide +kernel
theorem dX10_isBuilder_15 : decode cX10_isBuilder 15 = .ok (.ireturn, 1) := by decide +kernel
theorem dX10_isHindrance_0 : decode cX10_isHindrance 0 = .ok (.iload_n 1, 1) := by decide +kernel
theorem dX10_isHindrance_1 : decode cX10_isHindrance 1 = .ok (.i2l, 1) := by decide +kernel
theorem dX10_isHindrance_2 : decode cX10_isHindrance 2 = .ok (.lconst 0, 1) := by decide +kernel
theorem dX10_isHindrance_3 : decode cX10_isHindrance 3 = .ok (.aload_n 0, 1) := by decide +kernel
theorem dX10_isHindrance_4 : decode cX10_isHindrance 4 = .ok (.getfield 7, 3) := by decide +kernel
theorem dX10_isHindrance_7 : decode cX10_isHindrance 7 = .ok (.iconst 1, 1) := by decide +kernel
theorem dX10_isHindrance_8 : decode cX10_isHindrance 8 = .ok (.iaload, 1) := by decide +kernel
theorem dX10_isHindrance_9 : decode cX10_isHindrance 9 = .ok (.iconst 1, 1) := by decide +kernel
theorem dX10_isHindrance_10 : decode cX10_isHindrance 10 = .ok (.isub, 1) := by decide +kernel
theorem dX10_isHindrance_11 : decode cX10_isHindrance 11 = .ok (.i2l, 1) := by decide +kernel
theorem dX10_isHindrance_12 : decode cX10_isHindrance 12 = .ok (.invokestatic 51, 3) := by decide +kernel
theorem dX10_isHindrance_15 : decode cX10_isHindrance 15 = .ok (.ireturn, 1) := by decide +kernel
theorem dX10_isWeather_0 : decode cX10_isWeather 0 = .ok (.iload_n 0, 1) := by decide +kernel
theorem dX10_isWeather_1 : decode cX10_isWeather 1 = .ok (.i2l, 1) := by decide +kernel
theorem dX10_isWeather_2 : decode cX10_isWeather 2 = .ok (.lconst 0, 1) := by decide +kernel
theorem dX10_isWeather_3 : decode cX10_isWeather 3 = .ok (.ldc2_w 55, 3) := by decide +kernel
theorem dX10_isWeather_6 : decode cX10_isWeather 6 = .ok (.invokestatic 51, 3) := by decide +kernel
theorem dX10_isWeather_9 : decode cX10_isWeather 9 = .ok (.ireturn, 1) := by decide +kernel
theorem dX10_haulsOf_0 : decode cX10_haulsOf 0 = .ok (.bipush 13, 2) := by decide +kernel
theorem dX10_haulsOf_2 : decode cX10_haulsOf 2 = .ok (.iconst 3, 1) := by decide +kernel
theorem dX10_haulsOf_3 : decode cX10_haulsOf 3 = .ok (.iload_n 1, 1) := by decide +kernel
theorem dX10_haulsOf_4 : decode cX10_haulsOf 4 = .ok (.imul, 1) := by decide +kernel
theorem dX10_haulsOf_5 : decode cX10_haulsOf 5 = .ok (.iadd, 1) := by decide +kernel
theorem dX10_haulsOf_6 : decode cX10_haulsOf 6 = .ok (.istore_n 3, 1) := by decide +kernel
theorem dX10_haulsOf_7 : decode cX10_haulsOf 7 = .ok (.aload_n 0, 1) := by decide +kernel
theorem dX10_haulsOf_8 : decode cX10_haulsOf 8 = .ok (.getfield 7, 3) := by decide +kernel
theorem dX10_haulsOf_11 : decode cX10_haulsOf 11 = .ok (.iload_n 3, 1) := by decide +kernel
theorem dX10_haulsOf_12 : decode cX10_haulsOf 12 = .ok (.iconst 1, 1) := by decide +kernel
theorem dX10_haulsOf_13 : decode cX10_haulsOf 13 = .ok (.iadd, 1) := by decide +kernel
theorem dX10_haulsOf_14 : decode cX10_haulsOf 14 = .ok (.iaload, 1) := by decide +kernel
theorem dX10_haulsOf_15 : decode cX10_haulsOf 15 = .ok (.iload_n 1, 1) := by decide +kernel
theorem dX10_haulsOf_16 : decode cX10_haulsOf 16 = .ok (.aload_n 0, 1) := by decide +kernel
theorem dX10_haulsOf_17 : decode cX10_haulsOf 17 = .ok (.getfield 13, 3) := by decide +kernel
theorem dX10_haulsOf_20 : decode cX10_haulsOf 20 = .ok (.if_icmp .ne 10, 3) := by decide +kernel
theorem dX10_haulsOf_23 : decode cX10_haulsOf 23 = .ok (.aload_n 0, 1) := by decide +kernel
theorem dX10_haulsOf_24 : decode cX10_haulsOf 24 = .ok (.getfield 57, 3) := by decide +kernel
theorem dX10_haulsOf_27 : decode cX10_haulsOf 27 = .ok (.goto 4, 3) := by decide +kernel
theorem dX10_haulsOf_30 : decode cX10_haulsOf 30 = .ok (.iconst 0, 1) := by decide +kernel
theorem dX10_haulsOf_31 : decode cX10_haulsOf 31 = .ok (.iadd, 1) := by decide +kernel
theorem dX10_haulsOf_32 : decode cX10_haulsOf 32 = .ok (.istore 4, 2) := by decide +kernel
theorem dX10_haulsOf_34 : decode cX10_haulsOf 34 = .ok (.aload_n 0, 1) := by decide +kernel
theorem dX10_haulsOf_35 : decode cX10_haulsOf 35 = .ok (.getfield 7, 3) := by decide +kernel
theorem dX10_haulsOf_38 : decode cX10_haulsOf 38 = .ok (.iload_n 3, 1) := by decide +kernel
theorem dX10_haulsOf_39 : decode cX10_haulsOf 39 = .ok (.iaload, 1) := by decide +kernel
theorem dX10_haulsOf_40 : decode cX10_haulsOf 40 = .ok (.tableswitch 66 1 4 #[32, 66, 44, 58], 32) := by decide +kernel
theorem dX10_haulsOf_72 : decode cX10_haulsOf 72 = .ok (.iload 4, 2) := by decide +kernel
theorem dX10_haulsOf_74 : decode cX10_haulsOf 74 = .ok (.aload_n 0, 1) := by decide +kernel
theorem dX10_haulsOf_75 : decode cX10_haulsOf 75 = .ok (.getfield 7, 3) := by decide +kernel
theorem dX10_haulsOf_78 : decode cX10_haulsOf 78 = .ok (.iload_n 3, 1) := by decide +kernel
theorem dX10_haulsOf_79 : decode cX10_haulsOf 79 = .ok (.iconst 2, 1) := by decide +kernel
theorem dX10_haulsOf_80 : decode cX10_haulsOf 80 = .ok (.iadd, 1) := by decide +kernel
theorem dX10_haulsOf_81 : decode cX10_haulsOf 81 = .ok (.iaload, 1) := by decide +kernel
theorem dX10_haulsOf_82 : decode cX10_haulsOf 82 = .ok (.iadd, 1) := by decide +kernel
theorem dX10_haulsOf_83 : decode cX10_haulsOf 83 = .ok (.ireturn, 1) := by decide +kernel
theorem dX10_haulsOf_84 : decode cX10_haulsOf 84 = .ok (.iconst 2, 1) := by decide +kernel
theorem dX10_haulsOf_85 : decode cX10_haulsOf 85 = .ok (.iload 4, 2) := by decide +kernel
theorem dX10_haulsOf_87 : decode cX10_haulsOf 87 = .ok (.aload_n 0, 1) := by decide +kernel
theorem dX10_haulsOf_88 : decode cX10_haulsOf 88 = .ok (.getfield 7, 3) := by decide +kernel
theorem dX10_haulsOf_91 : decode cX10_haulsOf 91 = .ok (.iload_n 3, 1) := by decide +kernel
theorem dX10_haulsOf_92 : decode cX10_haulsOf 92 = .ok (.iconst 2, 1) := by decide +kernel
theorem dX10_haulsOf_93 : decode cX10_haulsOf 93 = .ok (.iadd, 1) := by decide +kernel
theorem dX10_haulsOf_94 : decode cX10_haulsOf 94 = .ok (.iaload, 1) := by decide +kernel
theorem dX10_haulsOf_95 : decode cX10_haulsOf 95 = .ok (.iadd, 1) := by decide +kernel
theorem dX10_haulsOf_96 : decode cX10_haulsOf 96 = .ok (.imul, 1) := by decide +kernel
theorem dX10_haulsOf_97 : decode cX10_haulsOf 97 = .ok (.ireturn, 1) := by decide +kernel
theorem dX10_haulsOf_98 : decode cX10_haulsOf 98 = .ok (.iload 4, 2) := by decide +kernel
theorem dX10_haulsOf_100 : decode cX10_haulsOf 100 = .ok (.iload_n 2, 1) := by decide +kernel
theorem dX10_haulsOf_101 : decode cX10_haulsOf 101 = .ok (.bipush 10, 2) := by decide +kernel
theorem dX10_haulsOf_103 : decode cX10_haulsOf 103 = .ok (.idiv, 1) := by decide +kernel
theorem dX10_haulsOf_104 : decode cX10_haulsOf 104 = .ok (.iadd, 1) := by decide +kernel
theorem dX10_haulsOf_105 : decode cX10_haulsOf 105 = .ok (.ireturn, 1) := by decide +kernel
theorem dX10_haulsOf_106 : decode cX10_haulsOf 106 = .ok (.iload 4, 2) := by decide +kernel
theorem dX10_haulsOf_108 : decode cX10_haulsOf 108 = .ok (.ireturn, 1) := by decide +kernel
theorem dX10_laysOf_0 : decode cX10_laysOf 0 = .ok (.aload_n 0, 1) := by decide +kernel
theorem dX10_laysOf_1 : decode cX10_laysOf 1 = .ok (.iload_n 1, 1) := by decide +kernel
theorem dX10_laysOf_2 : decode cX10_laysOf 2 = .ok (.iload_n 3, 1) := by decide +kernel
theorem dX10_laysOf_3 : decode cX10_laysOf 3 = .ok (.invokevirtual 60, 3) := by decide +kernel
theorem dX10_laysOf_6 : decode cX10_laysOf 6 = .ok (.istore 4, 2) := by decide +kernel
theorem dX10_laysOf_8 : decode cX10_laysOf 8 = .ok (.aload_n 0, 1) := by decide +kernel
theorem dX10_laysOf_9 : decode cX10_laysOf 9 = .ok (.getfield 7, 3) := by decide +kernel
theorem dX10_laysOf_12 : decode cX10_laysOf 12 = .ok (.bipush 13, 2) := by decide +kernel
theorem dX10_laysOf_14 : decode cX10_laysOf 14 = .ok (.iconst 3, 1) := by decide +kernel
theorem dX10_laysOf_15 : decode cX10_laysOf 15 = .ok (.iload_n 1, 1) := by decide +kernel
theorem dX10_laysOf_16 : decode cX10_laysOf 16 = .ok (.imul, 1) := by decide +kernel
theorem dX10_laysOf_17 : decode cX10_laysOf 17 = .ok (.iadd, 1) := by decide +kernel
theorem dX10_laysOf_18 : decode cX10_laysOf 18 = .ok (.iaload, 1) := by decide +kernel
theorem dX10_laysOf_19 : decode cX10_laysOf 19 = .ok (.istore 5, 2) := by decide +kernel
theorem dX10_laysOf_21 : decode cX10_laysOf 21 = .ok (.iload_n 2, 1) := by decide +kernel
theorem dX10_laysOf_22 : decode cX10_laysOf 22 = .ok (.ifCond .eq 14, 3) := by decide +kernel
theorem dX10_laysOf_25 : decode cX10_laysOf 25 = .ok (.iload_n 2, 1) := by decide +kernel
theorem dX10_laysOf_26 : decode cX10_laysOf 26 = .ok (.iconst 1, 1) := by decide +kernel
theorem dX10_laysOf_27 : decode cX10_laysOf 27 = .ok (.if_icmp .ne 12, 3) := by decide +kernel
theorem dX10_laysOf_30 : decode cX10_laysOf 30 = .ok (.iload 5, 2) := by decide +kernel
theorem dX10_laysOf_32 : decode cX10_laysOf 32 = .ok (.iconst 2, 1) := by decide +kernel
theorem dX10_laysOf_33 : decode cX10_laysOf 33 = .ok (.if_icmp .ne 6, 3) := by decide +kernel
theorem dX10_laysOf_36 : decode cX10_laysOf 36 = .ok (.iload 4, 2) := by decide +kernel
theorem dX10_laysOf_38 : decode cX10_laysOf 38 = .ok (.ireturn, 1) := by decide +kernel
theorem dX10_laysOf_39 : decode cX10_laysOf 39 = .ok (.iload_n 2, 1) := by decide +kernel
theorem dX10_laysOf_40 : decode cX10_laysOf 40 = .ok (.iconst 1, 1) := by decide +kernel
theorem dX10_laysOf_41 : decode cX10_laysOf 41 = .ok (.if_icmp .ne 10, 3) := by decide +kernel
theorem dX10_laysOf_44 : decode cX10_laysOf 44 = .ok (.iload 4, 2) := by decide +kernel
theorem dX10_laysOf_46 : decode cX10_laysOf 46 = .ok (.iconst 2, 1) := by decide +kernel
theorem dX10_laysOf_47 : decode cX10_laysOf 47 = .ok (.idiv, 1) := by decide +kernel
theorem dX10_laysOf_48 : decode cX10_laysOf 48 = .ok (.goto 20, 3) := by decide +kernel
theorem dX10_laysOf_51 : decode cX10_laysOf 51 = .ok (.iload 5, 2) := by decide +kernel
theorem dX10_laysOf_53 : decode cX10_laysOf 53 = .ok (.iconst 3, 1) := by decide +kernel
theorem dX10_laysOf_54 : decode cX10_laysOf 54 = .ok (.if_icmp .ne 10, 3) := by decide +kernel
theorem dX10_laysOf_57 : decode cX10_laysOf 57 = .ok (.iload 4, 2) := by decide +kernel
theorem dX10_laysOf_59 : decode cX10_laysOf 59 = .ok (.iconst 3, 1) := by decide +kernel
theorem dX10_laysOf_60 : decode cX10_laysOf 60 = .ok (.isub, 1) := by decide +kernel
theorem dX10_laysOf_61 : decode cX10_laysOf 61 = .ok (.goto 7, 3) := by decide +kernel
theorem dX10_laysOf_64 : decode cX10_laysOf 64 = .ok (.iload 4, 2) := by decide +kernel
theorem dX10_laysOf_66 : decode cX10_laysOf 66 = .ok (.iconst 1, 1) := by decide +kernel
theorem dX10_laysOf_67 : decode cX10_laysOf 67 = .ok (.isub, 1) := by decide +kernel
theorem dX10_laysOf_68 : decode cX10_laysOf 68 = .ok (.istore 6, 2) := by decide +kernel
theorem dX10_laysOf_70 : decode cX10_laysOf 70 = .ok (.iload 6, 2) := by decide +kernel
theorem dX10_laysOf_72 : decode cX10_laysOf 72 = .ok (.ifCond .ge 7, 3) := by decide +kernel
theorem dX10_laysOf_75 : decode cX10_laysOf 75 = .ok (.iconst 0, 1) := by decide +kernel
theorem dX10_laysOf_76 : decode cX10_laysOf 76 = .ok (.goto 5, 3) := by decide +kernel
theorem dX10_laysOf_79 : decode cX10_laysOf 79 = .ok (.iload 6, 2) := by decide +kernel
theorem dX10_laysOf_81 : decode cX10_laysOf 81 = .ok (.ireturn, 1) := by decide +kernel
theorem dX10_behind_0 : decode cX10_behind 0 = .ok (.iconst 0, 1) := by decide +kernel
theorem dX10_behind_1 : decode cX10_behind 1 = .ok (.istore 4, 2) := by decide +kernel
theorem dX10_behind_3 : decode cX10_behind 3 = .ok (.iconst 0, 1) := by decide +kernel
theorem dX10_behind_4 : decode cX10_behind 4 = .ok (.istore 5, 2) := by decide +kernel
theorem dX10_behind_6 : decode cX10_behind 6 = .ok (.iload 5, 2) := by decide +kernel
theorem dX10_behind_8 : decode cX10_behind 8 = .ok (.aload_n 0, 1) := by decide +kernel
theorem dX10_behind_9 : decode cX10_behind 9 = .ok (.getfield 7, 3) := by decide +kernel
theorem dX10_behind_12 : decode cX10_behind 12 = .ok (.iconst 0, 1) := by decide +kernel
theorem dX10_behind_13 : decode cX10_behind 13 = .ok (.iaload, 1) := by decide +kernel
theorem dX10_behind_14 : decode cX10_behind 14 = .ok (.if_icmp .ge 22, 3) := by decide +kernel
theorem dX10_behind_17 : decode cX10_behind 17 = .ok (.iload 4, 2) := by decide +kernel
theorem dX10_behind_19 : decode cX10_behind 19 = .ok (.aload_n 0, 1) := by decide +kernel
theorem dX10_behind_20 : decode cX10_behind 20 = .ok (.iload 5, 2) := by decide +kernel
theorem dX10_behind_22 : decode cX10_behind 22 = .ok (.iload_n 1, 1) := by decide +kernel
theorem dX10_behind_23 : decode cX10_behind 23 = .ok (.iload_n 2, 1) := by decide +kernel
theorem dX10_behind_24 : decode cX10_behind 24 = .ok (.invokevirtual 64, 3) := by decide +kernel
theorem dX10_behind_27 : decode cX10_behind 27 = .ok (.iadd, 1) := by decide +kernel
theorem dX10_behind_28 : decode cX10_behind 28 = .ok (.istore 4, 2) := by decide +kernel
theorem dX10_behind_30 : decode cX10_behind 30 = .ok (.iinc 5 1, 3) := by decide +kernel
theorem dX10_behind_33 : decode cX10_behind 33 = .ok (.goto (-27), 3) := by decide +kernel
theorem dX10_behind_36 : decode cX10_behind 36 = .ok (.iload_n 2, 1) := by decide +kernel
theorem dX10_behind_37 : decode cX10_behind 37 = .ok (.iload 4, 2) := by decide +kernel
theorem dX10_behind_39 : decode cX10_behind 39 = .ok (.iload_n 3, 1) := by decide +kernel
theorem dX10_behind_40 : decode cX10_behind 40 = .ok (.if_icmp .ge 7, 3) := by decide +kernel
theorem dX10_behind_43 : decode cX10_behind 43 = .ok (.iconst 0, 1) := by decide +kernel
theorem dX10_behind_44 : decode cX10_behind 44 = .ok (.goto 7, 3) := by decide +kernel
theorem dX10_behind_47 : decode cX10_behind 47 = .ok (.iload 4, 2) := by decide +kernel
theorem dX10_behind_49 : decode cX10_behind 49 = .ok (.iload_n 3, 1) := by decide +kernel
theorem dX10_behind_50 : decode cX10_behind 50 = .ok (.isub, 1) := by decide +kernel
theorem dX10_behind_51 : decode cX10_behind 51 = .ok (.iadd, 1) := by decide +kernel
theorem dX10_behind_52 : decode cX10_behind 52 = .ok (.istore 5, 2) := by decide +kernel
theorem dX10_behind_54 : decode cX10_behind 54 = .ok (.iload 5, 2) := by decide +kernel
theorem dX10_behind_56 : decode cX10_behind 56 = .ok (.aload_n 0, 1) := by decide +kernel
theorem dX10_behind_57 : decode cX10_behind 57 = .ok (.getfield 7, 3) := by decide +kernel
theorem dX10_behind_60 : decode cX10_behind 60 = .ok (.iconst 2, 1) := by decide +kernel
theorem dX10_behind_61 : decode cX10_behind 61 = .ok (.iaload, 1) := by decide +kernel
theorem dX10_behind_62 : decode cX10_behind 62 = .ok (.if_icmp .le 12, 3) := by decide +kernel
theorem dX10_behind_65 : decode cX10_behind 65 = .ok (.aload_n 0, 1) := by decide +kernel
theorem dX10_behind_66 : decode cX10_behind 66 = .ok (.getfield 7, 3) := by decide +kernel
theorem dX10_behind_69 : decode cX10_behind 69 = .ok (.iconst 2, 1) := by decide +kernel
theorem dX10_behind_70 : decode cX10_behind 70 = .ok (.iaload, 1) := by decide +kernel
theorem dX10_behind_71 : decode cX10_behind 71 = .ok (.goto 5, 3) := by decide +kernel
theorem dX10_behind_74 : decode cX10_behind 74 = .ok (.iload 5, 2) := by decide +kernel
theorem dX10_behind_76 : decode cX10_behind 76 = .ok (.ireturn, 1) := by decide +kernel
theorem dX10_builder_0 : decode cX10_builder 0 = .ok (.iload_n 1, 1) := by decide +kernel
theorem dX10_builder_1 : decode cX10_builder 1 = .ok (.i2l, 1) := by decide +kernel
theorem dX10_builder_2 : decode cX10_builder 2 = .ok (.lconst 0, 1) := by decide +kernel
theorem dX10_builder_3 : decode cX10_builder 3 = .ok (.ldc2_w 68, 3) := by decide +kernel
theorem dX10_builder_6 : decode cX10_builder 6 = .ok (.invokestatic 51, 3) := by decide +kernel
theorem dX10_builder_9 : decode cX10_builder 9 = .ok (.ifCond .eq 27, 3) := by decide +kernel
theorem dX10_builder_12 : decode cX10_builder 12 = .ok (.iload_n 2, 1) := by decide +kernel
theorem dX10_builder_13 : decode cX10_builder 13 = .ok (.i2l, 1) := by decide +kernel
theorem dX10_builder_14 : decode cX10_builder 14 = .ok (.lconst 1, 1) := by decide +kernel
theorem dX10_builder_15 : decode cX10_builder 15 = .ok (.ldc2_w 70, 3) := by decide +kernel
theorem dX10_builder_18 : decode cX10_builder 18 = .ok (.invokestatic 51, 3) := by decide +kernel
theorem dX10_builder_21 : decode cX10_builder 21 = .ok (.ifCond .eq 15, 3) := by decide +kernel
theorem dX10_builder_24 : decode cX10_builder 24 = .ok (.iload_n 3, 1) := by decide +kernel
theorem dX10_builder_25 : decode cX10_builder 25 = .ok (.i2l, 1) := by decide +kernel
theorem dX10_builder_26 : decode cX10_builder 26 = .ok (.lconst 0, 1) := by decide +kernel
theorem dX10_builder_27 : decode cX10_builder 27 = .ok (.ldc2_w 70, 3) := by decide +kernel
theorem dX10_builder_30 : decode cX10_builder 30 = .ok (.invokestatic 51, 3) := by decide +kernel
theorem dX10_builder_33 : decode cX10_builder 33 = .ok (.ifCond .ne 5, 3) := by decide +kernel
theorem dX10_builder_36 : decode cX10_builder 36 = .ok (.iconst (-1), 1) := by decide +kernel
theorem dX10_builder_37 : decode cX10_builder 37 = .ok (.ireturn, 1) := by decide +kernel
theorem dX10_builder_38 : decode cX10_builder 38 = .ok (.aload_n 0, 1) := by decide +kernel
theorem dX10_builder_39 : decode cX10_builder 39 = .ok (.getfield 7, 3) := by decide +kernel
theorem dX10_builder_42 : decode cX10_builder 42 = .ok (.iconst 0, 1) := by decide +kernel
theorem dX10_builder_43 : decode cX10_builder 43 = .ok (.iaload, 1) := by decide +kernel
theorem dX10_builder_44 : decode cX10_builder 44 = .ok (.iconst 4, 1) := by decide +kernel
theorem dX10_builder_45 : decode cX10_builder 45 = .ok (.if_icmp .ne 6, 3) := by decide +kernel
theorem dX10_builder_48 : decode cX10_builder 48 = .ok (.bipush (-3), 2) := by decide +kernel
theorem dX10_builder_50 : decode cX10_builder 50 = .ok (.ireturn, 1) := by decide +kernel
theorem dX10_builder_51 : decode cX10_builder 51 = .ok (.bipush 13, 2) := by decide +kernel
theorem dX10_builder_53 : decode cX10_builder 53 = .ok (.iconst 3, 1) := by decide +kernel
theorem dX10_builder_54 : decode cX10_builder 54 = .ok (.aload_n 0, 1) := by decide +kernel
theorem dX10_builder_55 : decode cX10_builder 55 = .ok (.getfield 7, 3) := by decide +kernel
theorem dX10_builder_58 : decode cX10_builder 58 = .ok (.iconst 0, 1) := by decide +kernel
theorem dX10_builder_59 : decode cX10_builder 59 = .ok (.iaload, 1) := by decide +kernel
theorem dX10_builder_60 : decode cX10_builder 60 = .ok (.imul, 1) := by decide +kernel
theorem dX10_builder_61 : decode cX10_builder 61 = .ok (.iadd, 1) := by decide +kernel
theorem dX10_builder_62 : decode cX10_builder 62 = .ok (.istore 4, 2) := by decide +kernel
theorem dX10_builder_64 : decode cX10_builder 64 = .ok (.aload_n 0, 1) := by decide +kernel
theorem dX10_builder_65 : decode cX10_builder 65 = .ok (.getfield 7, 3) := by decide +kernel
theorem dX10_builder_68 : decode cX10_builder 68 = .ok (.iload 4, 2) := by decide +kernel
theorem dX10_builder_70 : decode cX10_builder 70 = .ok (.iload_n 1, 1) := by decide +kernel
theorem dX10_builder_71 : decode cX10_builder 71 = .ok (.iastore, 1) := by decide +kernel
theorem dX10_builder_72 : decode cX10_builder 72 = .ok (.aload_n 0, 1) := by decide +kernel
theorem dX10_builder_73 : decode cX10_builder 73 = .ok (.getfield 7, 3) := by decide +kernel
theorem dX10_builder_76 : decode cX10_builder 76 = .ok (.iload 4, 2) := by decide +kernel
theorem dX10_builder_78 : decode cX10_builder 78 = .ok (.iconst 1, 1) := by decide +kernel
theorem dX10_builder_79 : decode cX10_builder 79 = .ok (.iadd, 1) := by decide +kernel
theorem dX10_builder_80 : decode cX10_builder 80 = .ok (.iload_n 2, 1) := by decide +kernel
theorem dX10_builder_81 : decode cX10_builder 81 = .ok (.iastore, 1) := by decide +kernel
theorem dX10_builder_82 : decode cX10_builder 82 = .ok (.aload_n 0, 1) := by decide +kernel
theorem dX10_builder_83 : decode cX10_builder 83 = .ok (.getfield 7, 3) := by decide +kernel
theorem dX10_builder_86 : decode cX10_builder 86 = .ok (.iload 4, 2) := by decide +kernel
theorem dX10_builder_88 : decode cX10_builder 88 = .ok (.iconst 2, 1) := by decide +kernel
theorem dX10_builder_89 : decode cX10_builder 89 = .ok (.iadd, 1) := by decide +kernel
theorem dX10_builder_90 : decode cX10_builder 90 = .ok (.iload_n 3, 1) := by decide +kernel
theorem dX10_builder_91 : decode cX10_builder 91 = .ok (.iastore, 1) := by decide +kernel
theorem dX10_builder_92 : decode cX10_builder 92 = .ok (.aload_n 0, 1) := by decide +kernel
theorem dX10_builder_93 : decode cX10_builder 93 = .ok (.getfield 7, 3) := by decide +kernel
theorem dX10_builder_96 : decode cX10_builder 96 = .ok (.iconst 0, 1) := by decide +kernel
theorem dX10_builder_97 : decode cX10_builder 97 = .ok (.dup2, 1) := by decide +kernel
theorem dX10_builder_98 : decode cX10_builder 98 = .ok (.iaload, 1) := by decide +kernel
theorem dX10_builder_99 : decode cX10_builder 99 = .ok (.iconst 1, 1) := by decide +kernel
theorem dX10_builder_100 : decode cX10_builder 100 = .ok (.iadd, 1) := by decide +kernel
theorem dX10_builder_101 : decode cX10_builder 101 = .ok (.iastore, 1) := by decide +kernel
theorem dX10_builder_102 : decode cX10_builder 102 = .ok (.aload_n 0, 1) := by decide +kernel
theorem dX10_builder_103 : decode cX10_builder 103 = .ok (.iconst 0, 1) := by decide +kernel
theorem dX10_builder_104 : decode cX10_builder 104 = .ok (.putfield 72, 3) := by decide +kernel
theorem dX10_builder_107 : decode cX10_builder 107 = .ok (.aload_n 0, 1) := by decide +kernel
theorem dX10_builder_108 : decode cX10_builder 108 = .ok (.getfield 7, 3) := by decide +kernel
theorem dX10_builder_111 : decode cX10_builder 111 = .ok (.iconst 0, 1) := by decide +kernel
theorem dX10_builder_112 : decode cX10_builder 112 = .ok (.iaload, 1) := by decide +kernel
theorem dX10_builder_113 : decode cX10_builder 113 = .ok (.iconst 1, 1) := by decide +kernel
theorem dX10_builder_114 : decode cX10_builder 114 = .ok (.isub, 1) := by decide +kernel
theorem dX10_builder_115 : decode cX10_builder 115 = .ok (.ireturn, 1) := by decide +kernel
theorem dX10_of_0 : decode cX10_of 0 = .ok (.aload_n 0, 1) := by decide +kernel
theorem dX10_of_1 : decode cX10_of 1 = .ok (.iload_n 1, 1) := by decide +kernel
theorem dX10_of_2 : decode cX10_of 2 = .ok (.invokevirtual 75, 3) := by decide +kernel
theorem dX10_of_5 : decode cX10_of 5 = .ok (.ifCond .eq 15, 3) := by decide +kernel
theorem dX10_of_8 : decode cX10_of 8 = .ok (.iload_n 2, 1) := by decide +kernel
theorem dX10_of_9 : decode cX10_of 9 = .ok (.i2l, 1) := by decide +kernel
theorem dX10_of_10 : decode cX10_of 10 = .ok (.lconst 0, 1) := by decide +kernel
theorem dX10_of_11 : decode cX10_of 11 = .ok (.ldc2_w 79, 3) := by decide +kernel
theorem dX10_of_14 : decode cX10_of 14 = .ok (.invokestatic 51, 3) := by decide +kernel
theorem dX10_of_17 : decode cX10_of 17 = .ok (.ifCond .ne 5, 3) := by decide +kernel
theorem dX10_of_20 : decode cX10_of 20 = .ok (.iconst (-1), 1) := by decide +kernel
theorem dX10_of_21 : decode cX10_of 21 = .ok (.ireturn, 1) := by decide +kernel
theorem dX10_of_22 : decode cX10_of 22 = .ok (.iload_n 2, 1) := by decide +kernel
theorem dX10_of_23 : decode cX10_of 23 = .ok (.iconst 3, 1) := by decide +kernel
theorem dX10_of_24 : decode cX10_of 24 = .ok (.if_icmp .ge 19, 3) := by decide +kernel
theorem dX10_of_27 : decode cX10_of 27 = .ok (.aload_n 0, 1) := by decide +kernel
theorem dX10_of_28 : decode cX10_of 28 = .ok (.getfield 7, 3) := by decide +kernel
theorem dX10_of_31 : decode cX10_of 31 = .ok (.bipush 13, 2) := by decide +kernel
theorem dX10_of_33 : decode cX10_of 33 = .ok (.iconst 3, 1) := by decide +kernel
theorem dX10_of_34 : decode cX10_of 34 = .ok (.iload_n 1, 1) := by decide +kernel
theorem dX10_of_35 : decode cX10_of 35 = .ok (.imul, 1) := by decide +kernel
theorem dX10_of_36 : decode cX10_of 36 = .ok (.iadd, 1) := by decide +kernel
theorem dX10_of_37 : decode cX10_of 37 = .ok (.iload_n 2, 1) := by decide +kernel
theorem dX10_of_38 : decode cX10_of 38 = .ok (.iadd, 1) := by decide +kernel
theorem dX10_of_39 : decode cX10_of 39 = .ok (.iaload, 1) := by decide +kernel
theorem dX10_of_40 : decode cX10_of 40 = .ok (.goto 38, 3) := by decide +kernel
theorem dX10_of_43 : decode cX10_of 43 = .ok (.iload_n 2, 1) := by decide +kernel
theorem dX10_of_44 : decode cX10_of 44 = .ok (.iconst 3, 1) := by decide +kernel
theorem dX10_of_45 : decode cX10_of 45 = .ok (.if_icmp .ne 18, 3) := by decide +kernel
theorem dX10_of_48 : decode cX10_of 48 = .ok (.aload_n 0, 1) := by decide +kernel
theorem dX10_of_49 : decode cX10_of 49 = .ok (.iload_n 1, 1) := by decide +kernel
theorem dX10_of_50 : decode cX10_of 50 = .ok (.aload_n 0, 1) := by decide +kernel
theorem dX10_of_51 : decode cX10_of 51 = .ok (.getfield 7, 3) := by decide +kernel
theorem dX10_of_54 : decode cX10_of 54 = .ok (.bipush 7, 2) := by decide +kernel
theorem dX10_of_56 : decode cX10_of 56 = .ok (.iaload, 1) := by decide +kernel
theorem dX10_of_57 : decode cX10_of 57 = .ok (.invokevirtual 60, 3) := by decide +kernel
theorem dX10_of_60 : decode cX10_of 60 = .ok (.goto 18, 3) := by decide +kernel
theorem dX10_of_63 : decode cX10_of 63 = .ok (.aload_n 0, 1) := by decide +kernel
theorem dX10_of_64 : decode cX10_of 64 = .ok (.iload_n 1, 1) := by decide +kernel
theorem dX10_of_65 : decode cX10_of 65 = .ok (.iload_n 2, 1) := by decide +kernel
theorem dX10_of_66 : decode cX10_of 66 = .ok (.iconst 4, 1) := by decide +kernel
theorem dX10_of_67 : decode cX10_of 67 = .ok (.isub, 1) := by decide +kernel
theorem dX10_of_68 : decode cX10_of 68 = .ok (.aload_n 0, 1) := by decide +kernel
theorem dX10_of_69 : decode cX10_of 69 = .ok (.getfield 7, 3) := by decide +kernel
theorem dX10_of_72 : decode cX10_of 72 = .ok (.bipush 7, 2) := by decide +kernel
theorem dX10_of_74 : decode cX10_of 74 = .ok (.iaload, 1) := by decide +kernel
theorem dX10_of_75 : decode cX10_of 75 = .ok (.invokevirtual 64, 3) := by decide +kernel
theorem dX10_of_78 : decode cX10_of 78 = .ok (.ireturn, 1) := by decide +kernel
theorem dX10_wall_0 : decode cX10_wall 0 = .ok (.iload_n 1, 1) := by decide +kernel
theorem dX10_wall_1 : decode cX10_wall 1 = .ok (.ifCond .ne 15, 3) := by decide +kernel
theorem dX10_wall_4 : decode cX10_wall 4 = .ok (.iload_n 2, 1) := by decide +kernel
theorem dX10_wall_5 : decode cX10_wall 5 = .ok (.i2l, 1) := by decide +kernel
theorem dX10_wall_6 : decode cX10_wall 6 = .ok (.lconst 1, 1) := by decide +kernel
theorem dX10_wall_7 : decode cX10_wall 7 = .ok (.ldc2_w 81, 3) := by decide +kernel
theorem dX10_wall_10 : decode cX10_wall 10 = .ok (.invokestatic 51, 3) := by decide +kernel
theorem dX10_wall_13 : decode cX10_wall 13 = .ok (.goto 47, 3) := by decide +kernel
theorem dX10_wall_16 : decode cX10_wall 16 = .ok (.iload_n 1, 1) := by decide +kernel
theorem dX10_wall_17 : decode cX10_wall 17 = .ok (.iconst 1, 1) := by decide +kernel
theorem dX10_wall_18 : decode cX10_wall 18 = .ok (.if_icmp .ne 15, 3) := by decide +kernel
theorem dX10_wall_21 : decode cX10_wall 21 = .ok (.iload_n 2, 1) := by decide +kernel
theorem dX10_wall_22 : decode cX10_wall 22 = .ok (.i2l, 1) := by decide +kernel
theorem dX10_wall_23 : decode cX10_wall 23 = .ok (.lconst 1, 1) := by decide +kernel
theorem dX10_wall_24 : decode cX10_wall 24 = .ok (.ldc2_w 83, 3) := by decide +kernel
theorem dX10_wall_27 : decode cX10_wall 27 = .ok (.invokestatic 51, 3) := by decide +kernel
theorem dX10_wall_30 : decode cX10_wall 30 = .ok (.goto 30, 3) := by decide +kernel
theorem dX10_wall_33 : decode cX10_wall 33 = .ok (.iload_n 1, 1) := by decide +kernel
theorem dX10_wall_34 : decode cX10_wall 34 = .ok (.iconst 2, 1) := by decide +kernel
theorem dX10_wall_35 : decode cX10_wall 35 = .ok (.if_icmp .eq 8, 3) := by decide +kernel
theorem dX10_wall_38 : decode cX10_wall 38 = .ok (.iload_n 1, 1) := by decide +kernel
theorem dX10_wall_39 : decode cX10_wall 39 = .ok (.iconst 3, 1) := by decide +kernel
theorem dX10_wall_40 : decode cX10_wall 40 = .ok (.if_icmp .ne 19, 3) := by decide +kernel
theorem dX10_wall_43 : decode cX10_wall 43 = .ok (.iload_n 2, 1) := by decide +kernel
theorem dX10_wall_44 : decode cX10_wall 44 = .ok (.i2l, 1) := by decide +kernel
theorem dX10_wall_45 : decode cX10_wall 45 = .ok (.lconst 0, 1) := by decide +kernel
theorem dX10_wall_46 : decode cX10_wall 46 = .ok (.ldc2_w 85, 3) := by decide +kernel
theorem dX10_wall_49 : decode cX10_wall 49 = .ok (.invokestatic 51, 3) := by decide +kernel
theorem dX10_wall_52 : decode cX10_wall 52 = .ok (.ifCond .eq 7, 3) := by decide +kernel
theorem dX10_wall_55 : decode cX10_wall 55 = .ok (.iconst 1, 1) := by decide +kernel
theorem dX10_wall_56 : decode cX10_wall 56 = .ok (.goto 4, 3) := by decide +kernel
theorem dX10_wall_59 : decode cX10_wall 59 = .ok (.iconst 0, 1) := by decide +kernel
theorem dX10_wall_60 : decode cX10_wall 60 = .ok (.istore_n 3, 1) := by decide +kernel
theorem dX10_wall_61 : decode cX10_wall 61 = .ok (.iload_n 3, 1) := by decide +kernel
theorem dX10_wall_62 : decode cX10_wall 62 = .ok (.ifCond .ne 5, 3) := by decide +kernel
theorem dX10_wall_65 : decode cX10_wall 65 = .ok (.iconst (-1), 1) := by decide +kernel
theorem dX10_wall_66 : decode cX10_wall 66 = .ok (.ireturn, 1) := by decide +kernel
theorem dX10_wall_67 : decode cX10_wall 67 = .ok (.iload_n 1, 1) := by decide +kernel
theorem dX10_wall_68 : decode cX10_wall 68 = .ok (.ifCond .ne 13, 3) := by decide +kernel
theorem dX10_wall_71 : decode cX10_wall 71 = .ok (.aload_n 0, 1) := by decide +kernel
theorem dX10_wall_72 : decode cX10_wall 72 = .ok (.getfield 7, 3) := by decide +kernel
theorem dX10_wall_75 : decode cX10_wall 75 = .ok (.bipush 7, 2) := by decide +kernel
theorem dX10_wall_77 : decode cX10_wall 77 = .ok (.iaload, 1) := by decide +kernel
theorem dX10_wall_78 : decode cX10_wall 78 = .ok (.goto 19, 3) := by decide +kernel
theorem dX10_wall_81 : decode cX10_wall 81 = .ok (.iload_n 1, 1) := by decide +kernel
theorem dX10_wall_82 : decode cX10_wall 82 = .ok (.iconst 1, 1) := by decide +kernel
theorem dX10_wall_83 : decode cX10_wall 83 = .ok (.if_icmp .ne 13, 3) := by decide +kernel
theorem dX10_wall_86 : decode cX10_wall 86 = .ok (.aload_n 0, 1) := by decide +kernel
theorem dX10_wall_87 : decode cX10_wall 87 = .ok (.getfield 7, 3) := by decide +kernel
theorem dX10_wall_90 : decode cX10_wall 90 = .ok (.bipush 6, 2) := by decide +kernel
theorem dX10_wall_92 : decode cX10_wall 92 = .ok (.iaload, 1) := by decide +kernel
theorem dX10_wall_93 : decode cX10_wall 93 = .ok (.goto 4, 3) := by decide +kernel
theorem dX10_wall_96 : decode cX10_wall 96 = .ok (.iconst 0, 1) := by decide +kernel
theorem dX10_wall_97 : decode cX10_wall 97 = .ok (.istore 4, 2) := by decide +kernel
theorem dX10_wall_99 : decode cX10_wall 99 = .ok (.iload_n 1, 1) := by decide +kernel
theorem dX10_wall_100 : decode cX10_wall 100 = .ok (.iconst 2, 1) := by decide +kernel
theorem dX10_wall_101 : decode cX10_wall 101 = .ok (.if_icmp .ne 15, 3) := by decide +kernel
theorem dX10_wall_104 : decode cX10_wall 104 = .ok (.bipush 10, 2) := by decide +kernel
theorem dX10_wall_106 : decode cX10_wall 106 = .ok (.aload_n 0, 1) := by decide +kernel
theorem dX10_wall_107 : decode cX10_wall 107 = .ok (.getfield 7, 3) := by decide +kernel
theorem dX10_wall_110 : decode cX10_wall 110 = .ok (.iconst 5, 1) := by decide +kernel
theorem dX10_wall_111 : decode cX10_wall 111 = .ok (.iaload, 1) := by decide +kernel
theorem dX10_wall_112 : decode cX10_wall 112 = .ok (.isub, 1) := by decide +kernel
theorem dX10_wall_113 : decode cX10_wall 113 = .ok (.goto 23, 3) := by decide +kernel
theorem dX10_wall_116 : decode cX10_wall 116 = .ok (.iload_n 1, 1) := by decide +kernel
theorem dX10_wall_117 : decode cX10_wall 117 = .ok (.iconst 3, 1) := by decide +kernel
theorem dX10_wall_118 : decode cX10_wall 118 = .ok (.if_icmp .ne 15, 3) := by decide +kernel
theorem dX10_wall_121 : decode cX10_wall 121 = .ok (.bipush 10, 2) := by decide +kernel
theorem dX10_wall_123 : decode cX10_wall 123 = .ok (.aload_n 0, 1) := by decide +kernel
theorem dX10_wall_124 : decode cX10_wall 124 = .ok (.getfield 7, 3) := by decide +kernel
theorem dX10_wall_127 : decode cX10_wall 127 = .ok (.iconst 4, 1) := by decide +kernel
theorem dX10_wall_128 : decode cX10_wall 128 = .ok (.iaload, 1) := by decide +kernel
theorem dX10_wall_129 : decode cX10_wall 129 = .ok (.isub, 1) := by decide +kernel
theorem dX10_wall_130 : decode cX10_wall 130 = .ok (.goto 6, 3) := by decide +kernel
theorem dX10_wall_133 : decode cX10_wall 133 = .ok (.sipush 200, 3) := by decide +kernel
theorem dX10_wall_136 : decode cX10_wall 136 = .ok (.istore 5, 2) := by decide +kernel
theorem dX10_wall_138 : decode cX10_wall 138 = .ok (.iload_n 2, 1) := by decide +kernel
theorem dX10_wall_139 : decode cX10_wall 139 = .ok (.iload 4, 2) := by decide +kernel
theorem dX10_wall_141 : decode cX10_wall 141 = .ok (.if_icmp .lt 9, 3) := by decide +kernel
theorem dX10_wall_144 : decode cX10_wall 144 = .ok (.iload_n 2, 1) := by decide +kernel
theorem dX10_wall_145 : decode cX10_wall 145 = .ok (.iload 5, 2) := by decide +kernel
theorem dX10_wall_147 : decode cX10_wall 147 = .ok (.if_icmp .le 6, 3) := by decide +kernel
theorem dX10_wall_150 : decode cX10_wall 150 = .ok (.bipush (-2), 2) := by decide +kernel
theorem dX10_wall_152 : decode cX10_wall 152 = .ok (.ireturn, 1) := by decide +kernel
theorem dX10_wall_153 : decode cX10_wall 153 = .ok (.aload_n 0, 1) := by decide +kernel
theorem dX10_wall_154 : decode cX10_wall 154 = .ok (.getfield 7, 3) := by decide +kernel
theorem dX10_wall_157 : decode cX10_wall 157 = .ok (.iconst 2, 1) := by decide +kernel
theorem dX10_wall_158 : decode cX10_wall 158 = .ok (.iload_n 1, 1) := by decide +kernel
theorem dX10_wall_159 : decode cX10_wall 159 = .ok (.iadd, 1) := by decide +kernel
theorem dX10_wall_160 : decode cX10_wall 160 = .ok (.iaload, 1) := by decide +kernel
theorem dX10_wall_161 : decode cX10_wall 161 = .ok (.istore 6, 2) := by decide +kernel
theorem dX10_wall_163 : decode cX10_wall 163 = .ok (.aload_n 0, 1) := by decide +kernel
theorem dX10_wall_164 : decode cX10_wall 164 = .ok (.getfield 7, 3) := by decide +kernel
theorem dX10_wall_167 : decode cX10_wall 167 = .ok (.iconst 2, 1) := by decide +kernel
theorem dX10_wall_168 : decode cX10_wall 168 = .ok (.iload_n 1, 1) := by decide +kernel
theorem dX10_wall_169 : decode cX10_wall 169 = .ok (.iadd, 1) := by decide +kernel
theorem dX10_wall_170 : decode cX10_wall 170 = .ok (.iload_n 2, 1) := by decide +kernel
theorem dX10_wall_171 : decode cX10_wall 171 = .ok (.iastore, 1) := by decide +kernel
theorem dX10_wall_172 : decode cX10_wall 172 = .ok (.iload 6, 2) := by decide +kernel
theorem dX10_wall_174 : decode cX10_wall 174 = .ok (.ireturn, 1) := by decide +kernel
theorem dX10_hindrance_0 : decode cX10_hindrance 0 = .ok (.iload_n 1, 1) := by decide +kernel
theorem dX10_hindrance_1 : decode cX10_hindrance 1 = .ok (.i2l, 1) := by decide +kernel
theorem dX10_hindrance_2 : decode cX10_hindrance 2 = .ok (.lconst 1, 1) := by decide +kernel
theorem dX10_hindrance_3 : decode cX10_hindrance 3 = .ok (.ldc2_w 70, 3) := by decide +kernel
theorem dX10_hindrance_6 : decode cX10_hindrance 6 = .ok (.invokestatic 51, 3) := by decide +kernel
theorem dX10_hindrance_9 : decode cX10_hindrance 9 = .ok (.ifCond .eq 21, 3) := by decide +kernel
theorem dX10_hindrance_12 : decode cX10_hindrance 12 = .ok (.iload_n 2, 1) := by decide +kernel
theorem dX10_hindrance_13 : decode cX10_hindrance 13 = .ok (.bipush (-4), 2) := by decide +kernel
theorem dX10_hindrance_15 : decode cX10_hindrance 15 = .ok (.if_icmp .eq 17, 3) := by decide +kernel
theorem dX10_hindrance_18 : decode cX10_hindrance 18 = .ok (.iload_n 2, 1) := by decide +kernel
theorem dX10_hindrance_19 : decode cX10_hindrance 19 = .ok (.i2l, 1) := by decide +kernel
theorem dX10_hindrance_20 : decode cX10_hindrance 20 = .ok (.lconst 0, 1) := by decide +kernel
theorem dX10_hindrance_21 : decode cX10_hindrance 21 = .ok (.ldc2_w 87, 3) := by decide +kernel
theorem dX10_hindrance_24 : decode cX10_hindrance 24 = .ok (.invokestatic 51, 3) := by decide +kernel
theorem dX10_hindrance_27 : decode cX10_hindrance 27 = .ok (.ifCond .ne 5, 3) := by decide +kernel
theorem dX10_hindrance_30 : decode cX10_hindrance 30 = .ok (.iconst (-1), 1) := by decide +kernel
theorem dX10_hindrance_31 : decode cX10_hindrance 31 = .ok (.ireturn, 1) := by decide +kernel
theorem dX10_hindrance_32 : decode cX10_hindrance 32 = .ok (.aload_n 0, 1) := by decide +kernel
theorem dX10_hindrance_33 : decode cX10_hindrance 33 = .ok (.getfield 7, 3) := by decide +kernel
theorem dX10_hindrance_36 : decode cX10_hindrance 36 = .ok (.iconst 1, 1) := by decide +kernel
theorem dX10_hindrance_37 : decode cX10_hindrance 37 = .ok (.iaload, 1) := by decide +kernel
theorem dX10_hindrance_38 : decode cX10_hindrance 38 = .ok (.bipush 6, 2) := by decide +kernel
theorem dX10_hindrance_40 : decode cX10_hindrance 40 = .ok (.if_icmp .ne 6, 3) := by decide +kernel
theorem dX10_hindrance_43 : decode cX10_hindrance 43 = .ok (.bipush (-3), 2) := by decide +kernel
theorem dX10_hindrance_45 : decode cX10_hindrance 45 = .ok (.ireturn, 1) := by decide +kernel
theorem dX10_hindrance_46 : decode cX10_hindrance 46 = .ok (.aload_n 0, 1) := by decide +kernel
theorem dX10_hindrance_47 : decode cX10_hindrance 47 = .ok (.getfield 7, 3) := by decide +kernel
theorem dX10_hindrance_50 : decode cX10_hindrance 50 = .ok (.bipush 25, 2) := by decide +kernel
theorem dX10_hindrance_52 : decode cX10_hindrance 52 = .ok (.iconst 2, 1) := by decide +kernel
theorem dX10_hindrance_53 : decode cX10_hindrance 53 = .ok (.aload_n 0, 1) := by decide +kernel
theorem dX10_hindrance_54 : decode cX10_hindrance 54 = .ok (.getfield 7, 3) := by decide +kernel
theorem dX10_hindrance_57 : decode cX10_hindrance 57 = .ok (.iconst 1, 1) := by decide +kernel
theorem dX10_hindrance_58 : decode cX10_hindrance 58 = .ok (.iaload, 1) := by decide +kernel
theorem dX10_hindrance_59 : decode cX10_hindrance 59 = .ok (.imul, 1) := by decide +kernel
theorem dX10_hindrance_60 : decode cX10_hindrance 60 = .ok (.iadd, 1) := by decide +kernel
theorem dX10_hindrance_61 : decode cX10_hindrance 61 = .ok (.iload_n 1, 1) := by decide +kernel
theorem dX10_hindrance_62 : decode cX10_hindrance 62 = .ok (.iastore, 1) := by decide +kernel
theorem dX10_hindrance_63 : decode cX10_hindrance 63 = .ok (.aload_n 0, 1) := by decide +kernel
theorem dX10_hindrance_64 : decode cX10_hindrance 64 = .ok (.getfield 7, 3) := by decide +kernel
theorem dX10_hindrance_67 : decode cX10_hindrance 67 = .ok (.bipush 25, 2) := by decide +kernel
theorem dX10_hindrance_69 : decode cX10_hindrance 69 = .ok (.iconst 2, 1) := by decide +kernel
theorem dX10_hindrance_70 : decode cX10_hindrance 70 = .ok (.aload_n 0, 1) := by decide +kernel
theorem dX10_hindrance_71 : decode cX10_hindrance 71 = .ok (.getfield 7, 3) := by decide +kernel
theorem dX10_hindrance_74 : decode cX10_hindrance 74 = .ok (.iconst 1, 1) := by decide +kernel
theorem dX10_hindrance_75 : decode cX10_hindrance 75 = .ok (.iaload, 1) := by decide +kernel
theorem dX10_hindrance_76 : decode cX10_hindrance 76 = .ok (.imul, 1) := by decide +kernel
theorem dX10_hindrance_77 : decode cX10_hindrance 77 = .ok (.iadd, 1) := by decide +kernel
theorem dX10_hindrance_78 : decode cX10_hindrance 78 = .ok (.iconst 1, 1) := by decide +kernel
theorem dX10_hindrance_79 : decode cX10_hindrance 79 = .ok (.iadd, 1) := by decide +kernel
theorem dX10_hindrance_80 : decode cX10_hindrance 80 = .ok (.iload_n 2, 1) := by decide +kernel
theorem dX10_hindrance_81 : decode cX10_hindrance 81 = .ok (.iastore, 1) := by decide +kernel
theorem dX10_hindrance_82 : decode cX10_hindrance 82 = .ok (.aload_n 0, 1) := by decide +kernel
theorem dX10_hindrance_83 : decode cX10_hindrance 83 = .ok (.getfield 7, 3) := by decide +kernel
theorem dX10_hindrance_86 : decode cX10_hindrance 86 = .ok (.iconst 1, 1) := by decide +kernel
theorem dX10_hindrance_87 : decode cX10_hindrance 87 = .ok (.dup2, 1) := by decide +kernel
theorem dX10_hindrance_88 : decode cX10_hindrance 88 = .ok (.iaload, 1) := by decide +kernel
theorem dX10_hindrance_89 : decode cX10_hindrance 89 = .ok (.iconst 1, 1) := by decide +kernel
theorem dX10_hindrance_90 : decode cX10_hindrance 90 = .ok (.iadd, 1) := by decide +kernel
theorem dX10_hindrance_91 : decode cX10_hindrance 91 = .ok (.iastore, 1) := by decide +kernel
theorem dX10_hindrance_92 : decode cX10_hindrance 92 = .ok (.aload_n 0, 1) := by decide +kernel
theorem dX10_hindrance_93 : decode cX10_hindrance 93 = .ok (.iconst 0, 1) := by decide +kernel
theorem dX10_hindrance_94 : decode cX10_hindrance 94 = .ok (.putfield 72, 3) := by decide +kernel
theorem dX10_hindrance_97 : decode cX10_hindrance 97 = .ok (.aload_n 0, 1) := by decide +kernel
theorem dX10_hindrance_98 : decode cX10_hindrance 98 = .ok (.getfield 7, 3) := by decide +kernel
theorem dX10_hindrance_101 : decode cX10_hindrance 101 = .ok (.iconst 1, 1) := by decide +kernel
theorem dX10_hindrance_102 : decode cX10_hindrance 102 = .ok (.iaload, 1) := by decide +kernel
theorem dX10_hindrance_103 : decode cX10_hindrance 103 = .ok (.iconst 1, 1) := by decide +kernel
theorem dX10_hindrance_104 : decode cX10_hindrance 104 = .ok (.isub, 1) := by decide +kernel
theorem dX10_hindrance_105 : decode cX10_hindrance 105 = .ok (.ireturn, 1) := by decide +kernel
theorem dX10_oath_0 : decode cX10_oath 0 = .ok (.iload_n 1, 1) := by decide +kernel
theorem dX10_oath_1 : decode cX10_oath 1 = .ok (.i2l, 1) := by decide +kernel
theorem dX10_oath_2 : decode cX10_oath 2 = .ok (.lconst 0, 1) := by decide +kernel
theorem dX10_oath_3 : decode cX10_oath 3 = .ok (.ldc2_w 87, 3) := by decide +kernel
theorem dX10_oath_6 : decode cX10_oath 6 = .ok (.invokestatic 51, 3) := by decide +kernel
theorem dX10_oath_9 : decode cX10_oath 9 = .ok (.ifCond .eq 13, 3) := by decide +kernel
theorem dX10_oath_12 : decode cX10_oath 12 = .ok (.iload_n 2, 1) := by decide +kernel
theorem dX10_oath_13 : decode cX10_oath 13 = .ok (.i2l, 1) := by decide +kernel
theorem dX10_oath_14 : decode cX10_oath 14 = .ok (.lconst 0, 1) := by decide +kernel
theorem dX10_oath_15 : decode cX10_oath 15 = .ok (.lconst 1, 1) := by decide +kernel
theorem dX10_oath_16 : decode cX10_oath 16 = .ok (.invokestatic 51, 3) := by decide +kernel
theorem dX10_oath_19 : decode cX10_oath 19 = .ok (.ifCond .ne 5, 3) := by decide +kernel
theorem dX10_oath_22 : decode cX10_oath 22 = .ok (.iconst (-1), 1) := by decide +kernel
theorem dX10_oath_23 : decode cX10_oath 23 = .ok (.ireturn, 1) := by decide +kernel
theorem dX10_oath_24 : decode cX10_oath 24 = .ok (.aload_n 0, 1) := by decide +kernel
theorem dX10_oath_25 : decode cX10_oath 25 = .ok (.getfield 7, 3) := by decide +kernel
theorem dX10_oath_28 : decode cX10_oath 28 = .ok (.bipush 11, 2) := by decide +kernel
theorem dX10_oath_30 : decode cX10_oath 30 = .ok (.iaload, 1) := by decide +kernel
theorem dX10_oath_31 : decode cX10_oath 31 = .ok (.iload_n 1, 1) := by decide +kernel
theorem dX10_oath_32 : decode cX10_oath 32 = .ok (.ishr, 1) := by decide +kernel
theorem dX10_oath_33 : decode cX10_oath 33 = .ok (.iconst 1, 1) := by decide +kernel
theorem dX10_oath_34 : decode cX10_oath 34 = .ok (.iand, 1) := by decide +kernel
theorem dX10_oath_35 : decode cX10_oath 35 = .ok (.istore_n 3, 1) := by decide +kernel
theorem dX10_oath_36 : decode cX10_oath 36 = .ok (.aload_n 0, 1) := by decide +kernel
theorem dX10_oath_37 : decode cX10_oath 37 = .ok (.getfield 7, 3) := by decide +kernel
theorem dX10_oath_40 : decode cX10_oath 40 = .ok (.bipush 11, 2) := by decide +kernel
theorem dX10_oath_42 : decode cX10_oath 42 = .ok (.iload_n 2, 1) := by decide +kernel
theorem dX10_oath_43 : decode cX10_oath 43 = .ok (.iconst 1, 1) := by decide +kernel
theorem dX10_oath_44 : decode cX10_oath 44 = .ok (.if_icmp .ne 17, 3) := by decide +kernel
theorem dX10_oath_47 : decode cX10_oath 47 = .ok (.aload_n 0, 1) := by decide +kernel
theorem dX10_oath_48 : decode cX10_oath 48 = .ok (.getfield 7, 3) := by decide +kernel
theorem dX10_oath_51 : decode cX10_oath 51 = .ok (.bipush 11, 2) := by decide +kernel
theorem dX10_oath_53 : decode cX10_oath 53 = .ok (.iaload, 1) := by decide +kernel
theorem dX10_oath_54 : decode cX10_oath 54 = .ok (.iconst 1, 1) := by decide +kernel
theorem dX10_oath_55 : decode cX10_oath 55 = .ok (.iload_n 1, 1) := by decide +kernel
theorem dX10_oath_56 : decode cX10_oath 56 = .ok (.ishl, 1) := by decide +kernel
theorem dX10_oath_57 : decode cX10_oath 57 = .ok (.ior, 1) := by decide +kernel
theorem dX10_oath_58 : decode cX10_oath 58 = .ok (.goto 16, 3) := by decide +kernel
theorem dX10_oath_61 : decode cX10_oath 61 = .ok (.aload_n 0, 1) := by decide +kernel
theorem dX10_oath_62 : decode cX10_oath 62 = .ok (.getfield 7, 3) := by decide +kernel
theorem dX10_oath_65 : decode cX10_oath 65 = .ok (.bipush 11, 2) := by decide +kernel
theorem dX10_oath_67 : decode cX10_oath 67 = .ok (.iaload, 1) := by decide +kernel
theorem dX10_oath_68 : decode cX10_oath 68 = .ok (.iconst 1, 1) := by decide +kernel
theorem dX10_oath_69 : decode cX10_oath 69 = .ok (.iload_n 1, 1) := by decide +kernel
theorem dX10_oath_70 : decode cX10_oath 70 = .ok (.ishl, 1) := by decide +kernel
theorem dX10_oath_71 : decode cX10_oath 71 = .ok (.iconst (-1), 1) := by decide +kernel
theorem dX10_oath_72 : decode cX10_oath 72 = .ok (.ixor, 1) := by decide +kernel
theorem dX10_oath_73 : decode cX10_oath 73 = .ok (.iand, 1) := by decide +kernel
theorem dX10_oath_74 : decode cX10_oath 74 = .ok (.iastore, 1) := by decide +kernel
theorem dX10_oath_75 : decode cX10_oath 75 = .ok (.iload_n 3, 1) := by decide +kernel
theorem dX10_oath_76 : decode cX10_oath 76 = .ok (.ireturn, 1) := by decide +kernel
theorem dX10_count_0 : decode cX10_count 0 = .ok (.iload_n 1, 1) := by decide +kernel
theorem dX10_count_1 : decode cX10_count 1 = .ok (.i2l, 1) := by decide +kernel
theorem dX10_count_2 : decode cX10_count 2 = .ok (.lconst 0, 1) := by decide +kernel
theorem dX10_count_3 : decode cX10_count 3 = .ok (.ldc2_w 89, 3) := by decide +kernel
theorem dX10_count_6 : decode cX10_count 6 = .ok (.invokestatic 51, 3) := by decide +kernel
theorem dX10_count_9 : decode cX10_count 9 = .ok (.ifCond .eq 12, 3) := by decide +kernel
theorem dX10_count_12 : decode cX10_count 12 = .ok (.aload_n 0, 1) := by decide +kernel
theorem dX10_count_13 : decode cX10_count 13 = .ok (.getfield 7, 3) := by decide +kernel
theorem dX10_count_16 : decode cX10_count 16 = .ok (.iload_n 1, 1) := by decide +kernel
theorem dX10_count_17 : decode cX10_count 17 = .ok (.iaload, 1) := by decide +kernel
theorem dX10_count_18 : decode cX10_count 18 = .ok (.goto 17, 3) := by decide +kernel
theorem dX10_count_21 : decode cX10_count 21 = .ok (.iload_n 1, 1) := by decide +kernel
theorem dX10_count_22 : decode cX10_count 22 = .ok (.bipush 12, 2) := by decide +kernel
theorem dX10_count_24 : decode cX10_count 24 = .ok (.if_icmp .ne 10, 3) := by decide +kernel
theorem dX10_count_27 : decode cX10_count 27 = .ok (.aload_n 0, 1) := by decide +kernel
theorem dX10_count_28 : decode cX10_count 28 = .ok (.getfield 72, 3) := by decide +kernel
theorem dX10_count_31 : decode cX10_count 31 = .ok (.goto 4, 3) := by decide +kernel
theorem dX10_count_34 : decode cX10_count 34 = .ok (.iconst (-1), 1) := by decide +kernel
theorem dX10_count_35 : decode cX10_count 35 = .ok (.ireturn, 1) := by decide +kernel
theorem dX10_type_0 : decode cX10_type 0 = .ok (.iload_n 1, 1) := by decide +kernel
theorem dX10_type_1 : decode cX10_type 1 = .ok (.i2l, 1) := by decide +kernel
theorem dX10_type_2 : decode cX10_type 2 = .ok (.ldc2_w 91, 3) := by decide +kernel
theorem dX10_type_5 : decode cX10_type 5 = .ok (.ldc2_w 93, 3) := by decide +kernel
theorem dX10_type_8 : decode cX10_type 8 = .ok (.invokestatic 51, 3) := by decide +kernel
theorem dX10_type_11 : decode cX10_type 11 = .ok (.ifCond .ne 5, 3) := by decide +kernel
theorem dX10_type_14 : decode cX10_type 14 = .ok (.iconst (-1), 1) := by decide +kernel
theorem dX10_type_15 : decode cX10_type 15 = .ok (.ireturn, 1) := by decide +kernel
theorem dX10_type_16 : decode cX10_type 16 = .ok (.aload_n 0, 1) := by decide +kernel
theorem dX10_type_17 : decode cX10_type 17 = .ok (.getfield 95, 3) := by decide +kernel
theorem dX10_type_20 : decode cX10_type 20 = .ok (.bipush 60, 2) := by decide +kernel
theorem dX10_type_22 : decode cX10_type 22 = .ok (.if_icmp .ne 6, 3) := by decide +kernel
theorem dX10_type_25 : decode cX10_type 25 = .ok (.bipush (-3), 2) := by decide +kernel
theorem dX10_type_27 : decode cX10_type 27 = .ok (.ireturn, 1) := by decide +kernel
theorem dX10_type_28 : decode cX10_type 28 = .ok (.aload_n 0, 1) := by decide +kernel
theorem dX10_type_29 : decode cX10_type 29 = .ok (.getfield 17, 3) := by decide +kernel
theorem dX10_type_32 : decode cX10_type 32 = .ok (.aload_n 0, 1) := by decide +kernel
theorem dX10_type_33 : decode cX10_type 33 = .ok (.getfield 95, 3) := by decide +kernel
theorem dX10_type_36 : decode cX10_type 36 = .ok (.iload_n 1, 1) := by decide +kernel
theorem dX10_type_37 : decode cX10_type 37 = .ok (.iastore, 1) := by decide +kernel
theorem dX10_type_38 : decode cX10_type 38 = .ok (.aload_n 0, 1) := by decide +kernel
theorem dX10_type_39 : decode cX10_type 39 = .ok (.dup, 1) := by decide +kernel
theorem dX10_type_40 : decode cX10_type 40 = .ok (.getfield 95, 3) := by decide +kernel
theorem dX10_type_43 : decode cX10_type 43 = .ok (.iconst 1, 1) := by decide +kernel
theorem dX10_type_44 : decode cX10_type 44 = .ok (.iadd, 1) := by decide +kernel
theorem dX10_type_45 : decode cX10_type 45 = .ok (.putfield 95, 3) := by decide +kernel
theorem dX10_type_48 : decode cX10_type 48 = .ok (.aload_n 0, 1) := by decide +kernel
theorem dX10_type_49 : decode cX10_type 49 = .ok (.getfield 95, 3) := by decide +kernel
theorem dX10_type_52 : decode cX10_type 52 = .ok (.ireturn, 1) := by decide +kernel
theorem dX10_here_0 : decode cX10_here 0 = .ok (.aload_n 0, 1) := by decide +kernel
theorem dX10_here_1 : decode cX10_here 1 = .ok (.getfield 98, 3) := by decide +kernel
theorem dX10_here_4 : decode cX10_here 4 = .ok (.aload_n 0, 1) := by decide +kernel
theorem dX10_here_5 : decode cX10_here 5 = .ok (.getfield 95, 3) := by decide +kernel
theorem dX10_here_8 : decode cX10_here 8 = .ok (.if_icmp .ge 30, 3) := by decide +kernel
theorem dX10_here_11 : decode cX10_here 11 = .ok (.aload_n 0, 1) := by decide +kernel
theorem dX10_here_12 : decode cX10_here 12 = .ok (.getfield 17, 3) := by decide +kernel
theorem dX10_here_15 : decode cX10_here 15 = .ok (.aload_n 0, 1) := by decide +kernel
theorem dX10_here_16 : decode cX10_here 16 = .ok (.getfield 98, 3) := by decide +kernel
theorem dX10_here_19 : decode cX10_here 19 = .ok (.iaload, 1) := by decide +kernel
theorem dX10_here_20 : decode cX10_here 20 = .ok (.bipush 32, 2) := by decide +kernel
theorem dX10_here_22 : decode cX10_here 22 = .ok (.if_icmp .ne 16, 3) := by decide +kernel
theorem dX10_here_25 : decode cX10_here 25 = .ok (.aload_n 0, 1) := by decide +kernel
theorem dX10_here_26 : decode cX10_here 26 = .ok (.dup, 1) := by decide +kernel
theorem dX10_here_27 : decode cX10_here 27 = .ok (.getfield 98, 3) := by decide +kernel
theorem dX10_here_30 : decode cX10_here 30 = .ok (.iconst 1, 1) := by decide +kernel
theorem dX10_here_31 : decode cX10_here 31 = .ok (.iadd, 1) := by decide +kernel
theorem dX10_here_32 : decode cX10_here 32 = .ok (.putfield 98, 3) := by decide +kernel
theorem dX10_here_35 : decode cX10_here 35 = .ok (.goto (-35), 3) := by decide +kernel
theorem dX10_here_38 : decode cX10_here 38 = .ok (.aload_n 0, 1) := by decide +kernel
theorem dX10_here_39 : decode cX10_here 39 = .ok (.getfield 98, 3) := by decide +kernel
theorem dX10_here_42 : decode cX10_here 42 = .ok (.aload_n 0, 1) := by decide +kernel
theorem dX10_here_43 : decode cX10_here 43 = .ok (.getfield 95, 3) := by decide +kernel
theorem dX10_here_46 : decode cX10_here 46 = .ok (.if_icmp .ge 15, 3) := by decide +kernel
theorem dX10_here_49 : decode cX10_here 49 = .ok (.aload_n 0, 1) := by decide +kernel
theorem dX10_here_50 : decode cX10_here 50 = .ok (.getfield 17, 3) := by decide +kernel
theorem dX10_here_53 : decode cX10_here 53 = .ok (.aload_n 0, 1) := by decide +kernel
theorem dX10_here_54 : decode cX10_here 54 = .ok (.getfield 98, 3) := by decide +kernel
theorem dX10_here_57 : decode cX10_here 57 = .ok (.iaload, 1) := by decide +kernel
theorem dX10_here_58 : decode cX10_here 58 = .ok (.goto 4, 3) := by decide +kernel
theorem dX10_here_61 : decode cX10_here 61 = .ok (.iconst 0, 1) := by decide +kernel
theorem dX10_here_62 : decode cX10_here 62 = .ok (.ireturn, 1) := by decide +kernel
theorem dX10_must_0 : decode cX10_must 0 = .ok (.aload_n 0, 1) := by decide +kernel
theorem dX10_must_1 : decode cX10_must 1 = .ok (.aload_n 0, 1) := by decide +kernel
theorem dX10_must_2 : decode cX10_must 2 = .ok (.getfield 101, 3) := by decide +kernel
theorem dX10_must_5 : decode cX10_must 5 = .ok (.ifCond .ne 7, 3) := by decide +kernel
theorem dX10_must_8 : decode cX10_must 8 = .ok (.iload_n 1, 1) := by decide +kernel
theorem dX10_must_9 : decode cX10_must 9 = .ok (.ifCond .ne 7, 3) := by decide +kernel
theorem dX10_must_12 : decode cX10_must 12 = .ok (.iconst 1, 1) := by decide +kernel
theorem dX10_must_13 : decode cX10_must 13 = .ok (.goto 4, 3) := by decide +kernel
theorem dX10_must_16 : decode cX10_must 16 = .ok (.iconst 0, 1) := by decide +kernel
theorem dX10_must_17 : decode cX10_must 17 = .ok (.putfield 101, 3) := by decide +kernel
theorem dX10_must_20 : decode cX10_must 20 = .ok (.return_, 1) := by decide +kernel
theorem dX10_takes_0 : decode cX10_takes 0 = .ok (.aload_n 0, 1) := by decide +kernel
theorem dX10_takes_1 : decode cX10_takes 1 = .ok (.aload_n 0, 1) := by decide +kernel
theorem dX10_takes_2 : decode cX10_takes 2 = .ok (.invokevirtual 105, 3) := by decide +kernel
theorem dX10_takes_5 : decode cX10_takes 5 = .ok (.iload_n 1, 1) := by decide +kernel
theorem dX10_takes_6 : decode cX10_takes 6 = .ok (.if_icmp .ne 7, 3) := by decide +kernel
theorem dX10_takes_9 : decode cX10_takes 9 = .ok (.iconst 1, 1) := by decide +kernel
theorem dX10_takes_10 : decode cX10_takes 10 = .ok (.goto 4, 3) := by decide +kernel
theorem dX10_takes_13 : decode cX10_takes 13 = .ok (.iconst 0, 1) := by decide +kernel
theorem dX10_takes_14 : decode cX10_takes 14 = .ok (.invokevirtual 109, 3) := by decide +kernel
theorem dX10_takes_17 : decode cX10_takes 17 = .ok (.aload_n 0, 1) := by decide +kernel
theorem dX10_takes_18 : decode cX10_takes 18 = .ok (.dup, 1) := by decide +kernel
theorem dX10_takes_19 : decode cX10_takes 19 = .ok (.getfield 98, 3) := by decide +kernel
theorem dX10_takes_22 : decode cX10_takes 22 = .ok (.aload_n 0, 1) := by decide +kernel
theorem dX10_takes_23 : decode cX10_takes 23 = .ok (.getfield 101, 3) := by decide +kernel
theorem dX10_takes_26 : decode cX10_takes 26 = .ok (.ifCond .eq 7, 3) := by decide +kernel
theorem dX10_takes_29 : decode cX10_takes 29 = .ok (.iconst 0, 1) := by decide +kernel
theorem dX10_takes_30 : decode cX10_takes 30 = .ok (.goto 4, 3) := by decide +kernel
theorem dX10_takes_33 : decode cX10_takes 33 = .ok (.iconst 1, 1) := by decide +kernel
theorem dX10_takes_34 : decode cX10_takes 34 = .ok (.iadd, 1) := by decide +kernel
theorem dX10_takes_35 : decode cX10_takes 35 = .ok (.putfield 98, 3) := by decide +kernel
theorem dX10_takes_38 : decode cX10_takes 38 = .ok (.return_, 1) := by decide +kernel
theorem dX10_digit_0 : decode cX10_digit 0 = .ok (.aload_n 0, 1) := by decide +kernel
theorem dX10_digit_1 : decode cX10_digit 1 = .ok (.getfield 101, 3) := by decide +kernel
theorem dX10_digit_4 : decode cX10_digit 4 = .ok (.ifCond .eq 7, 3) := by decide +kernel
theorem dX10_digit_7 : decode cX10_digit 7 = .ok (.iconst (-1), 1) := by decide +kernel
theorem dX10_digit_8 : decode cX10_digit 8 = .ok (.goto 10, 3) := by decide +kernel
theorem dX10_digit_11 : decode cX10_digit 11 = .ok (.aload_n 0, 1) := by decide +kernel
theorem dX10_digit_12 : decode cX10_digit 12 = .ok (.invokevirtual 105, 3) := by decide +kernel
theorem dX10_digit_15 : decode cX10_digit 15 = .ok (.bipush 48, 2) := by decide +kernel
theorem dX10_digit_17 : decode cX10_digit 17 = .ok (.isub, 1) := by decide +kernel
theorem dX10_digit_18 : decode cX10_digit 18 = .ok (.istore_n 3, 1) := by decide +kernel
theorem dX10_digit_19 : decode cX10_digit 19 = .ok (.aload_n 0, 1) := by decide +kernel
theorem dX10_digit_20 : decode cX10_digit 20 = .ok (.iload_n 3, 1) := by decide +kernel
theorem dX10_digit_21 : decode cX10_digit 21 = .ok (.i2l, 1) := by decide +kernel
theorem dX10_digit_22 : decode cX10_digit 22 = .ok (.iload_n 1, 1) := by decide +kernel
theorem dX10_digit_23 : decode cX10_digit 23 = .ok (.i2l, 1) := by decide +kernel
theorem dX10_digit_24 : decode cX10_digit 24 = .ok (.iload_n 2, 1) := by decide +kernel
theorem dX10_digit_25 : decode cX10_digit 25 = .ok (.i2l, 1) := by decide +kernel
theorem dX10_digit_26 : decode cX10_digit 26 = .ok (.invokestatic 51, 3) := by decide +kernel
theorem dX10_digit_29 : decode cX10_digit 29 = .ok (.invokevirtual 109, 3) := by decide +kernel
theorem dX10_digit_32 : decode cX10_digit 32 = .ok (.aload_n 0, 1) := by decide +kernel
theorem dX10_digit_33 : decode cX10_digit 33 = .ok (.dup, 1) := by decide +kernel
theorem dX10_digit_34 : decode cX10_digit 34 = .ok (.getfield 98, 3) := by decide +kernel
theorem dX10_digit_37 : decode cX10_digit 37 = .ok (.aload_n 0, 1) := by decide +kernel
theorem dX10_digit_38 : decode cX10_digit 38 = .ok (.getfield 101, 3) := by decide +kernel
theorem dX10_digit_41 : decode cX10_digit 41 = .ok (.ifCond .eq 7, 3) := by decide +kernel
theorem dX10_digit_44 : decode cX10_digit 44 = .ok (.iconst 0, 1) := by decide +kernel
theorem dX10_digit_45 : decode cX10_digit 45 = .ok (.goto 4, 3) := by decide +kernel
theorem dX10_digit_48 : decode cX10_digit 48 = .ok (.iconst 1, 1) := by decide +kernel
theorem dX10_digit_49 : decode cX10_digit 49 = .ok (.iadd, 1) := by decide +kernel
theorem dX10_digit_50 : decode cX10_digit 50 = .ok (.putfield 98, 3) := by decide +kernel
theorem dX10_digit_53 : decode cX10_digit 53 = .ok (.iload_n 3, 1) := by decide +kernel
theorem dX10_digit_54 : decode cX10_digit 54 = .ok (.ireturn, 1) := by decide +kernel
theorem dX10_number_0 : decode cX10_number 0 = .ok (.aload_n 0, 1) := by decide +kernel
theorem dX10_number_1 : decode cX10_number 1 = .ok (.getfield 101, 3) := by decide +kernel
theorem dX10_number_4 : decode cX10_number 4 = .ok (.ifCond .eq 7, 3) := by decide +kernel
theorem dX10_number_7 : decode cX10_number 7 = .ok (.iconst 0, 1) := by decide +kernel
theorem dX10_number_8 : decode cX10_number 8 = .ok (.goto 7, 3) := by decide +kernel
theorem dX10_number_11 : decode cX10_number 11 = .ok (.aload_n 0, 1) := by decide +kernel
theorem dX10_number_12 : decode cX10_number 12 = .ok (.invokevirtual 105, 3) := by decide +kernel
theorem dX10_number_15 : decode cX10_number 15 = .ok (.istore_n 3, 1) := by decide +kernel
theorem dX10_number_16 : decode cX10_number 16 = .ok (.aload_n 0, 1) := by decide +kernel
theorem dX10_number_17 : decode cX10_number 17 = .ok (.getfield 98, 3) := by decide +kernel
theorem dX10_number_20 : decode cX10_number 20 = .ok (.istore 4, 2) := by decide +kernel
theorem dX10_number_22 : decode cX10_number 22 = .ok (.iconst 0, 1) := by decide +kernel
theorem dX10_number_23 : decode cX10_number 23 = .ok (.istore 5, 2) := by decide +kernel
theorem dX10_number_25 : decode cX10_number 25 = .ok (.aload_n 0, 1) := by decide +kernel
theorem dX10_number_26 : decode cX10_number 26 = .ok (.iload_n 3, 1) := by decide +kernel
theorem dX10_number_27 : decode cX10_number 27 = .ok (.i2l, 1) := by decide +kernel
theorem dX10_number_28 : decode cX10_number 28 = .ok (.ldc2_w 113, 3) := by decide +kernel
theorem dX10_number_31 : decode cX10_number 31 = .ok (.ldc2_w 115, 3) := by decide +kernel
theorem dX10_number_34 : decode cX10_number 34 = .ok (.invokestatic 51, 3) := by decide +kernel
theorem dX10_number_37 : decode cX10_number 37 = .ok (.invokevirtual 109, 3) := by decide +kernel
theorem dX10_number_40 : decode cX10_number 40 = .ok (.aload_n 0, 1) := by decide +kernel
theorem dX10_number_41 : decode cX10_number 41 = .ok (.getfield 101, 3) := by decide +kernel
theorem dX10_number_44 : decode cX10_number 44 = .ok (.ifCond .ne 80, 3) := by decide +kernel
theorem dX10_number_47 : decode cX10_number 47 = .ok (.aload_n 0, 1) := by decide +kernel
theorem dX10_number_48 : decode cX10_number 48 = .ok (.getfield 98, 3) := by decide +kernel
theorem dX10_number_51 : decode cX10_number 51 = .ok (.aload_n 0, 1) := by decide +kernel
theorem dX10_number_52 : decode cX10_number 52 = .ok (.getfield 95, 3) := by decide +kernel
theorem dX10_number_55 : decode cX10_number 55 = .ok (.if_icmp .ge 69, 3) := by decide +kernel
theorem dX10_number_58 : decode cX10_number 58 = .ok (.aload_n 0, 1) := by decide +kernel
theorem dX10_number_59 : decode cX10_number 59 = .ok (.getfield 98, 3) := by decide +kernel
theorem dX10_number_62 : decode cX10_number 62 = .ok (.iload 4, 2) := by decide +kernel
theorem dX10_number_64 : decode cX10_number 64 = .ok (.isub, 1) := by decide +kernel
theorem dX10_number_65 : decode cX10_number 65 = .ok (.iconst 3, 1) := by decide +kernel
theorem dX10_number_66 : decode cX10_number 66 = .ok (.if_icmp .ge 58, 3) := by decide +kernel
theorem dX10_number_69 : decode cX10_number 69 = .ok (.aload_n 0, 1) := by decide +kernel
theorem dX10_number_70 : decode cX10_number 70 = .ok (.getfield 17, 3) := by decide +kernel
theorem dX10_number_73 : decode cX10_number 73 = .ok (.aload_n 0, 1) := by decide +kernel
theorem dX10_number_74 : decode cX10_number 74 = .ok (.getfield 98, 3) := by decide +kernel
theorem dX10_number_77 : decode cX10_number 77 = .ok (.iaload, 1) := by decide +kernel
theorem dX10_number_78 : decode cX10_number 78 = .ok (.i2l, 1) := by decide +kernel
theorem dX10_number_79 : decode cX10_number 79 = .ok (.ldc2_w 113, 3) := by decide +kernel
theorem dX10_number_82 : decode cX10_number 82 = .ok (.ldc2_w 115, 3) := by decide +kernel
theorem dX10_number_85 : decode cX10_number 85 = .ok (.invokestatic 51, 3) := by decide +kernel
theorem dX10_number_88 : decode cX10_number 88 = .ok (.ifCond .eq 36, 3) := by decide +kernel
theorem dX10_number_91 : decode cX10_number 91 = .ok (.bipush 10, 2) := by decide +kernel
theorem dX10_number_93 : decode cX10_number 93 = .ok (.iload 5, 2) := by decide +kernel
theorem dX10_number_95 : decode cX10_number 95 = .ok (.imul, 1) := by decide +kernel
theorem dX10_number_96 : decode cX10_number 96 = .ok (.aload_n 0, 1) := by decide +kernel
theorem dX10_number_97 : decode cX10_number 97 = .ok (.getfield 17, 3) := by decide +kernel
theorem dX10_number_100 : decode cX10_number 100 = .ok (.aload_n 0, 1) := by decide +kernel
theorem dX10_number_101 : decode cX10_number 101 = .ok (.getfield 98, 3) := by decide +kernel
theorem dX10_number_104 : decode cX10_number 104 = .ok (.iaload, 1) := by decide +kernel
theorem dX10_number_105 : decode cX10_number 105 = .ok (.iadd, 1) := by decide +kernel
theorem dX10_number_106 : decode cX10_number 106 = .ok (.bipush 48, 2) := by decide +kernel
theorem dX10_number_108 : decode cX10_number 108 = .ok (.isub, 1) := by decide +kernel
theorem dX10_number_109 : decode cX10_number 109 = .ok (.istore 5, 2) := by decide +kernel
theorem dX10_number_111 : decode cX10_number 111 = .ok (.aload_n 0, 1) := by decide +kernel
theorem dX10_number_112 : decode cX10_number 112 = .ok (.dup, 1) := by decide +kernel
theorem dX10_number_113 : decode cX10_number 113 = .ok (.getfield 98, 3) := by decide +kernel
theorem dX10_number_116 : decode cX10_number 116 = .ok (.iconst 1, 1) := by decide +kernel
theorem dX10_number_117 : decode cX10_number 117 = .ok (.iadd, 1) := by decide +kernel
theorem dX10_number_118 : decode cX10_number 118 = .ok (.putfield 98, 3) := by decide +kernel
theorem dX10_number_121 : decode cX10_number 121 = .ok (.goto (-81), 3) := by decide +kernel
theorem dX10_number_124 : decode cX10_number 124 = .ok (.aload_n 0, 1) := by decide +kernel
theorem dX10_number_125 : decode cX10_number 125 = .ok (.getfield 101, 3) := by decide +kernel
theorem dX10_number_128 : decode cX10_number 128 = .ok (.ifCond .ne 27, 3) := by decide +kernel
theorem dX10_number_131 : decode cX10_number 131 = .ok (.iload 5, 2) := by decide +kernel
theorem dX10_number_133 : decode cX10_number 133 = .ok (.i2l, 1) := by decide +kernel
theorem dX10_number_134 : decode cX10_number 134 = .ok (.iload_n 1, 1) := by decide +kernel
theorem dX10_number_135 : decode cX10_number 135 = .ok (.i2l, 1) := by decide +kernel
theorem dX10_number_136 : decode cX10_number 136 = .ok (.iload_n 2, 1) := by decide +kernel
theorem dX10_number_137 : decode cX10_number 137 = .ok (.i2l, 1) := by decide +kernel
theorem dX10_number_138 : decode cX10_number 138 = .ok (.invokestatic 51, 3) := by decide +kernel
theorem dX10_number_141 : decode cX10_number 141 = .ok (.ifCond .ne 14, 3) := by decide +kernel
theorem dX10_number_144 : decode cX10_number 144 = .ok (.aload_n 0, 1) := by decide +kernel
theorem dX10_number_145 : decode cX10_number 145 = .ok (.iconst 1, 1) := by decide +kernel
theorem dX10_number_146 : decode cX10_number 146 = .ok (.putfield 101, 3) := by decide +kernel
theorem dX10_number_149 : decode cX10_number 149 = .ok (.aload_n 0, 1) := by decide +kernel
theorem dX10_number_150 : decode cX10_number 150 = .ok (.iload 4, 2) := by decide +kernel
theorem dX10_number_152 : decode cX10_number 152 = .ok (.putfield 98, 3) := by decide +kernel
theorem dX10_number_155 : decode cX10_number 155 = .ok (.iload 5, 2) := by decide +kernel
theorem dX10_number_157 : decode cX10_number 157 = .ok (.ireturn, 1) := by decide +kernel
theorem dX10_readBuilders_0 : decode cX10_readBuilders 0 = .ok (.iconst 0, 1) := by decide +kernel
theorem dX10_readBuilders_1 : decode cX10_readBuilders 1 = .ok (.istore_n 1, 1) := by decide +kernel
theorem dX10_readBuilders_2 : decode cX10_readBuilders 2 = .ok (.aload_n 0, 1) := by decide +kernel
theorem dX10_readBuilders_3 : decode cX10_readBuilders 3 = .ok (.getfield 101, 3) := by decide +kernel
theorem dX10_readBuilders_6 : decode cX10_readBuilders 6 = .ok (.ifCond .ne 237, 3) := by decide +kernel
theorem dX10_readBuilders_9 : decode cX10_readBuilders 9 = .ok (.iload_n 1, 1) := by decide +kernel
theorem dX10_readBuilders_10 : decode cX10_readBuilders 10 = .ok (.ifCond .eq 19, 3) := by decide +kernel
theorem dX10_readBuilders_13 : decode cX10_readBuilders 13 = .ok (.aload_n 0, 1) := by decide +kernel
theorem dX10_readBuilders_14 : decode cX10_readBuilders 14 = .ok (.invokevirtual 105, 3) := by decide +kernel
theorem dX10_readBuilders_17 : decode cX10_readBuilders 17 = .ok (.ifCond .eq 226, 3) := by decide +kernel
theorem dX10_readBuilders_20 : decode cX10_readBuilders 20 = .ok (.aload_n 0, 1) := by decide +kernel
theorem dX10_readBuilders_21 : decode cX10_readBuilders 21 = .ok (.invokevirtual 105, 3) := by decide +kernel
theorem dX10_readBuilders_24 : decode cX10_readBuilders 24 = .ok (.bipush 59, 2) := by decide +kernel
theorem dX10_readBuilders_26 : decode cX10_readBuilders 26 = .ok (.if_icmp .eq 217, 3) := by decide +kernel
theorem dX10_readBuilders_29 : decode cX10_readBuilders 29 = .ok (.iload_n 1, 1) := by decide +kernel
theorem dX10_readBuilders_30 : decode cX10_readBuilders 30 = .ok (.ifCond .le 47, 3) := by decide +kernel
theorem dX10_readBuilders_33 : decode cX10_readBuilders 33 = .ok (.aload_n 0, 1) := by decide +kernel
theorem dX10_readBuilders_34 : decode cX10_readBuilders 34 = .ok (.iload_n 1, 1) := by decide +kernel
theorem dX10_readBuilders_35 : decode cX10_readBuilders 35 = .ok (.iconst 4, 1) := by decide +kernel
theorem dX10_readBuilders_36 : decode cX10_readBuilders 36 = .ok (.if_icmp .ge 16, 3) := by decide +kernel
theorem dX10_readBuilders_39 : decode cX10_readBuilders 39 = .ok (.aload_n 0, 1) := by decide +kernel
theorem dX10_readBuilders_40 : decode cX10_readBuilders 40 = .ok (.invokevirtual 105, 3) := by decide +kernel
theorem dX10_readBuilders_43 : decode cX10_readBuilders 43 = .ok (.bipush 44, 2) := by decide +kernel
theorem dX10_readBuilders_45 : decode cX10_readBuilders 45 = .ok (.if_icmp .ne 7, 3) := by decide +kernel
theorem dX10_readBuilders_48 : decode cX10_readBuilders 48 = .ok (.iconst 1, 1) := by decide +kernel
theorem dX10_readBuilders_49 : decode cX10_readBuilders 49 = .ok (.goto 4, 3) := by decide +kernel
theorem dX10_readBuilders_52 : decode cX10_readBuilders 52 = .ok (.iconst 0, 1) := by decide +kernel
theorem dX10_readBuilders_53 : decode cX10_readBuilders 53 = .ok (.invokevirtual 109, 3) := by decide +kernel
theorem dX10_readBuilders_56 : decode cX10_readBuilders 56 = .ok (.aload_n 0, 1) := by decide +kernel
theorem dX10_readBuilders_57 : decode cX10_readBuilders 57 = .ok (.dup, 1) := by decide +kernel
theorem dX10_readBuilders_58 : decode cX10_readBuilders 58 = .ok (.getfield 98, 3) := by decide +kernel
theorem dX10_readBuilders_61 : decode cX10_readBuilders 61 = .ok (.aload_n 0, 1) := by decide +kernel
theorem dX10_readBuilders_62 : decode cX10_readBuilders 62 = .ok (.getfield 101, 3) := by decide +kernel
theorem dX10_readBuilders_65 : decode cX10_readBuilders 65 = .ok (.ifCond .eq 7, 3) := by decide +kernel
theorem dX10_readBuilders_68 : decode cX10_readBuilders 68 = .ok (.iconst 0, 1) := by decide +kernel
theorem dX10_readBuilders_69 : decode cX10_readBuilders 69 = .ok (.goto 4, 3) := by decide +kernel
theorem dX10_readBuilders_72 : decode cX10_readBuilders 72 = .ok (.iconst 1, 1) := by decide +kernel
theorem dX10_readBuilders_73 : decode cX10_readBuilders 73 = .ok (.iadd, 1) := by decide +kernel
theorem dX10_readBuilders_74 : decode cX10_readBuilders 74 = .ok (.putfield 98, 3) := by decide +kernel
theorem dX10_readBuilders_77 : decode cX10_readBuilders 77 = .ok (.aload_n 0, 1) := by decide +kernel
theorem dX10_readBuilders_78 : decode cX10_readBuilders 78 = .ok (.getfield 101, 3) := by decide +kernel
theorem dX10_readBuilders_81 : decode cX10_readBuilders 81 = .ok (.ifCond .eq 7, 3) := by decide +kernel
theorem dX10_readBuilders_84 : decode cX10_readBuilders 84 = .ok (.iconst 0, 1) := by decide +kernel
theorem dX10_readBuilders_85 : decode cX10_readBuilders 85 = .ok (.goto 7, 3) := by decide +kernel
theorem dX10_readBuilders_88 : decode cX10_readBuilders 88 = .ok (.aload_n 0, 1) := by decide +kernel
theorem dX10_readBuilders_89 : decode cX10_readBuilders 89 = .ok (.invokevirtual 105, 3) := by decide +kernel
theorem dX10_readBuilders_92 : decode cX10_readBuilders 92 = .ok (.istore_n 2, 1) := by decide +kernel
theorem dX10_readBuilders_93 : decode cX10_readBuilders 93 = .ok (.iload_n 2, 1) := by decide +kernel
theorem dX10_readBuilders_94 : decode cX10_readBuilders 94 = .ok (.bipush 112, 2) := by decide +kernel
theorem dX10_readBuilders_96 : decode cX10_readBuilders 96 = .ok (.if_icmp .ne 7, 3) := by decide +kernel
theorem dX10_readBuilders_99 : decode cX10_readBuilders 99 = .ok (.iconst 0, 1) := by decide +kernel
theorem dX10_readBuilders_100 : decode cX10_readBuilders 100 = .ok (.goto 44, 3) := by decide +kernel
theorem dX10_readBuilders_103 : decode cX10_readBuilders 103 = .ok (.iload_n 2, 1) := by decide +kernel
theorem dX10_readBuilders_104 : decode cX10_readBuilders 104 = .ok (.bipush 104, 2) := by decide +kernel
theorem dX10_readBuilders_106 : decode cX10_readBuilders 106 = .ok (.if_icmp .ne 7, 3) := by decide +kernel
theorem dX10_readBuilders_109 : decode cX10_readBuilders 109 = .ok (.iconst 1, 1) := by decide +kernel
theorem dX10_readBuilders_110 : decode cX10_readBuilders 110 = .ok (.goto 34, 3) := by decide +kernel
theorem dX10_readBuilders_113 : decode cX10_readBuilders 113 = .ok (.iload_n 2, 1) := by decide +kernel
theorem dX10_readBuilders_114 : decode cX10_readBuilders 114 = .ok (.bipush 98, 2) := by decide +kernel
theorem dX10_readBuilders_116 : decode cX10_readBuilders 116 = .ok (.if_icmp .ne 7, 3) := by decide +kernel
theorem dX10_readBuilders_119 : decode cX10_readBuilders 119 = .ok (.iconst 2, 1) := by decide +kernel
theorem dX10_readBuilders_120 : decode cX10_readBuilders 120 = .ok (.goto 24, 3) := by decide +kernel
theorem dX10_readBuilders_123 : decode cX10_readBuilders 123 = .ok (.iload_n 2, 1) := by decide +kernel
theorem dX10_readBuilders_124 : decode cX10_readBuilders 124 = .ok (.bipush 103, 2) := by decide +kernel
theorem dX10_readBuilders_126 : decode cX10_readBuilders 126 = .ok (.if_icmp .ne 7, 3) := by decide +kernel
theorem dX10_readBuilders_129 : decode cX10_readBuilders 129 = .ok (.iconst 3, 1) := by decide +kernel
theorem dX10_readBuilders_130 : decode cX10_readBuilders 130 = .ok (.goto 14, 3) := by decide +kernel
theorem dX10_readBuilders_133 : decode cX10_readBuilders 133 = .ok (.iload_n 2, 1) := by decide +kernel
theorem dX10_readBuilders_134 : decode cX10_readBuilders 134 = .ok (.bipush 119, 2) := by decide +kernel
theorem dX10_readBuilders_136 : decode cX10_readBuilders 136 = .ok (.if_icmp .ne 7, 3) := by decide +kernel
theorem dX10_readBuilders_139 : decode cX10_readBuilders 139 = .ok (.iconst 4, 1) := by decide +kernel
theorem dX10_readBuilders_140 : decode cX10_readBuilders 140 = .ok (.goto 4, 3) := by decide +kernel
theorem dX10_readBuilders_143 : decode cX10_readBuilders 143 = .ok (.iconst (-1), 1) := by decide +kernel
theorem dX10_readBuilders_144 : decode cX10_readBuilders 144 = .ok (.istore_n 3, 1) := by decide +kernel
theorem dX10_readBuilders_145 : decode cX10_readBuilders 145 = .ok (.aload_n 0, 1) := by decide +kernel
theorem dX10_readBuilders_146 : decode cX10_readBuilders 146 = .ok (.iload_n 3, 1) := by decide +kernel
theorem dX10_readBuilders_147 : decode cX10_readBuilders 147 = .ok (.ifCond .lt 7, 3) := by decide +kernel
theorem dX10_readBuilders_150 : decode cX10_readBuilders 150 = .ok (.iconst 1, 1) := by decide +kernel
theorem dX10_readBuilders_151 : decode cX10_readBuilders 151 = .ok (.goto 4, 3) := by decide +kernel
theorem dX10_readBuilders_154 : decode cX10_readBuilders 154 = .ok (.iconst 0, 1) := by decide +kernel
theorem dX10_readBuilders_155 : decode cX10_readBuilders 155 = .ok (.invokevirtual 109, 3) := by decide +kernel
theorem dX10_readBuilders_158 : decode cX10_readBuilders 158 = .ok (.aload_n 0, 1) := by decide +kernel
theorem dX10_readBuilders_159 : decode cX10_readBuilders 159 = .ok (.dup, 1) := by decide +kernel
theorem dX10_readBuilders_160 : decode cX10_readBuilders 160 = .ok (.getfield 98, 3) := by decide +kernel
theorem dX10_readBuilders_163 : decode cX10_readBuilders 163 = .ok (.aload_n 0, 1) := by decide +kernel
theorem dX10_readBuilders_164 : decode cX10_readBuilders 164 = .ok (.getfield 101, 3) := by decide +kernel
theorem dX10_readBuilders_167 : decode cX10_readBuilders 167 = .ok (.ifCond .eq 7, 3) := by decide +kernel
theorem dX10_readBuilders_170 : decode cX10_readBuilders 170 = .ok (.iconst 0, 1) := by decide +kernel
theorem dX10_readBuilders_171 : decode cX10_readBuilders 171 = .ok (.goto 4, 3) := by decide +kernel
theorem dX10_readBuilders_174 : decode cX10_readBuilders 174 = .ok (.iconst 1, 1) := by decide +kernel
theorem dX10_readBuilders_175 : decode cX10_readBuilders 175 = .ok (.iadd, 1) := by decide +kernel
theorem dX10_readBuilders_176 : decode cX10_readBuilders 176 = .ok (.putfield 98, 3) := by decide +kernel
theorem dX10_readBuilders_179 : decode cX10_readBuilders 179 = .ok (.aload_n 0, 1) := by decide +kernel
theorem dX10_readBuilders_180 : decode cX10_readBuilders 180 = .ok (.iconst 1, 1) := by decide +kernel
theorem dX10_readBuilders_181 : decode cX10_readBuilders 181 = .ok (.bipush 9, 2) := by decide +kernel
theorem dX10_readBuilders_183 : decode cX10_readBuilders 183 = .ok (.invokevirtual 117, 3) := by decide +kernel
theorem dX10_readBuilders_186 : decode cX10_readBuilders 186 = .ok (.istore 4, 2) := by decide +kernel
theorem dX10_readBuilders_188 : decode cX10_readBuilders 188 = .ok (.aload_n 0, 1) := by decide +kernel
theorem dX10_readBuilders_189 : decode cX10_readBuilders 189 = .ok (.iconst 0, 1) := by decide +kernel
theorem dX10_readBuilders_190 : decode cX10_readBuilders 190 = .ok (.bipush 9, 2) := by decide +kernel
theorem dX10_readBuilders_192 : decode cX10_readBuilders 192 = .ok (.invokevirtual 117, 3) := by decide +kernel
theorem dX10_readBuilders_195 : decode cX10_readBuilders 195 = .ok (.istore 5, 2) := by decide +kernel
theorem dX10_readBuilders_197 : decode cX10_readBuilders 197 = .ok (.aload_n 0, 1) := by decide +kernel
theorem dX10_readBuilders_198 : decode cX10_readBuilders 198 = .ok (.getfield 101, 3) := by decide +kernel
theorem dX10_readBuilders_201 : decode cX10_readBuilders 201 = .ok (.ifCond .ne 36, 3) := by decide +kernel
theorem dX10_readBuilders_204 : decode cX10_readBuilders 204 = .ok (.aload_n 0, 1) := by decide +kernel
theorem dX10_readBuilders_205 : decode cX10_readBuilders 205 = .ok (.getfield 20, 3) := by decide +kernel
theorem dX10_readBuilders_208 : decode cX10_readBuilders 208 = .ok (.iconst 3, 1) := by decide +kernel
theorem dX10_readBuilders_209 : decode cX10_readBuilders 209 = .ok (.iload_n 1, 1) := by decide +kernel
theorem dX10_readBuilders_210 : decode cX10_readBuilders 210 = .ok (.imul, 1) := by decide +kernel
theorem dX10_readBuilders_211 : decode cX10_readBuilders 211 = .ok (.iload_n 3, 1) := by decide +kernel
theorem dX10_readBuilders_212 : decode cX10_readBuilders 212 = .ok (.iastore, 1) := by decide +kernel
theorem dX10_readBuilders_213 : decode cX10_readBuilders 213 = .ok (.aload_n 0, 1) := by decide +kernel
theorem dX10_readBuilders_214 : decode cX10_readBuilders 214 = .ok (.getfield 20, 3) := by decide +kernel
theorem dX10_readBuilders_217 : decode cX10_readBuilders 217 = .ok (.iconst 3, 1) := by decide +kernel
theorem dX10_readBuilders_218 : decode cX10_readBuilders 218 = .ok (.iload_n 1, 1) := by decide +kernel
theorem dX10_readBuilders_219 : decode cX10_readBuilders 219 = .ok (.imul, 1) := by decide +kernel
theorem dX10_readBuilders_220 : decode cX10_readBuilders 220 = .ok (.iconst 1, 1) := by decide +kernel
theorem dX10_readBuilders_221 : decode cX10_readBuilders 221 = .ok (.iadd, 1) := by decide +kernel
theorem dX10_readBuilders_222 : decode cX10_readBuilders 222 = .ok (.iload 4, 2) := by decide +kernel
theorem dX10_readBuilders_224 : decode cX10_readBuilders 224 = .ok (.iastore, 1) := by decide +kernel
theorem dX10_readBuilders_225 : decode cX10_readBuilders 225 = .ok (.aload_n 0, 1) := by decide +kernel
theorem dX10_readBuilders_226 : decode cX10_readBuilders 226 = .ok (.getfield 20, 3) := by decide +kernel
theorem dX10_readBuilders_229 : decode cX10_readBuilders 229 = .ok (.iconst 3, 1) := by decide +kernel
theorem dX10_readBuilders_230 : decode cX10_readBuilders 230 = .ok (.iload_n 1, 1) := by decide +kernel
theorem dX10_readBuilders_231 : decode cX10_readBuilders 231 = .ok (.imul, 1) := by decide +kernel
theorem dX10_readBuilders_232 : decode cX10_readBuilders 232 = .ok (.iconst 2, 1) := by decide +kernel
theorem dX10_readBuilders_233 : decode cX10_readBuilders 233 = .ok (.iadd, 1) := by decide +kernel
theorem dX10_readBuilders_234 : decode cX10_readBuilders 234 = .ok (.iload 5, 2) := by decide +kernel
theorem dX10_readBuilders_236 : decode cX10_readBuilders 236 = .ok (.iastore, 1) := by decide +kernel
theorem dX10_readBuilders_237 : decode cX10_readBuilders 237 = .ok (.iinc 1 1, 3) := by decide +kernel
theorem dX10_readBuilders_240 : decode cX10_readBuilders 240 = .ok (.goto (-238), 3) := by decide +kernel
theorem dX10_readBuilders_243 : decode cX10_readBuilders 243 = .ok (.iload_n 1, 1) := by decide +kernel
theorem dX10_readBuilders_244 : decode cX10_readBuilders 244 = .ok (.ireturn, 1) := by decide +kernel
theorem dX10_readHindrances_0 : decode cX10_readHindrances 0 = .ok (.iconst 0, 1) := by decide +kernel
theorem dX10_readHindrances_1 : decode cX10_readHindrances 1 = .ok (.istore_n 1, 1) := by decide +kernel
theorem dX10_readHindrances_2 : decode cX10_readHindrances 2 = .ok (.aload_n 0, 1) := by decide +kernel
theorem dX10_readHindrances_3 : decode cX10_readHindrances 3 = .ok (.getfield 101, 3) := by decide +kernel
theorem dX10_readHindrances_6 : decode cX10_readHindrances 6 = .ok (.ifCond .ne 169, 3) := by decide +kernel
theorem dX10_readHindrances_9 : decode cX10_readHindrances 9 = .ok (.iload_n 1, 1) := by decide +kernel
theorem dX10_readHindrances_10 : decode cX10_readHindrances 10 = .ok (.ifCond .eq 10, 3) := by decide +kernel
theorem dX10_readHindrances_13 : decode cX10_readHindrances 13 = .ok (.aload_n 0, 1) := by decide +kernel
theorem dX10_readHindrances_14 : decode cX10_readHindrances 14 = .ok (.invokevirtual 105, 3) := by decide +kernel
theorem dX10_readHindrances_17 : decode cX10_readHindrances 17 = .ok (.ifCond .eq 158, 3) := by decide +kernel
theorem dX10_readHindrances_20 : decode cX10_readHindrances 20 = .ok (.iload_n 1, 1) := by decide +kernel
theorem dX10_readHindrances_21 : decode cX10_readHindrances 21 = .ok (.ifCond .le 48, 3) := by decide +kernel
theorem dX10_readHindrances_24 : decode cX10_readHindrances 24 = .ok (.aload_n 0, 1) := by decide +kernel
theorem dX10_readHindrances_25 : decode cX10_readHindrances 25 = .ok (.iload_n 1, 1) := by decide +kernel
theorem dX10_readHindrances_26 : decode cX10_readHindrances 26 = .ok (.bipush 6, 2) := by decide +kernel
theorem dX10_readHindrances_28 : decode cX10_readHindrances 28 = .ok (.if_icmp .ge 16, 3) := by decide +kernel
theorem dX10_readHindrances_31 : decode cX10_readHindrances 31 = .ok (.aload_n 0, 1) := by decide +kernel
theorem dX10_readHindrances_32 : decode cX10_readHindrances 32 = .ok (.invokevirtual 105, 3) := by decide +kernel
theorem dX10_readHindrances_35 : decode cX10_readHindrances 35 = .ok (.bipush 44, 2) := by decide +kernel
theorem dX10_readHindrances_37 : decode cX10_readHindrances 37 = .ok (.if_icmp .ne 7, 3) := by decide +kernel
theorem dX10_readHindrances_40 : decode cX10_readHindrances 40 = .ok (.iconst 1, 1) := by decide +kernel
theorem dX10_readHindrances_41 : decode cX10_readHindrances 41 = .ok (.goto 4, 3) := by decide +kernel
theorem dX10_readHindrances_44 : decode cX10_readHindrances 44 = .ok (.iconst 0, 1) := by decide +kernel
theorem dX10_readHindrances_45 : decode cX10_readHindrances 45 = .ok (.invokevirtual 109, 3) := by decide +kernel
theorem dX10_readHindrances_48 : decode cX10_readHindrances 48 = .ok (.aload_n 0, 1) := by decide +kernel
theorem dX10_readHindrances_49 : decode cX10_readHindrances 49 = .ok (.dup, 1) := by decide +kernel
theorem dX10_readHindrances_50 : decode cX10_readHindrances 50 = .ok (.getfield 98, 3) := by decide +kernel
theorem dX10_readHindrances_53 : decode cX10_readHindrances 53 = .ok (.aload_n 0, 1) := by decide +kernel
theorem dX10_readHindrances_54 : decode cX10_readHindrances 54 = .ok (.getfield 101, 3) := by decide +kernel
theorem dX10_readHindrances_57 : decode cX10_readHindrances 57 = .ok (.ifCond .eq 7, 3) := by decide +kernel
theorem dX10_readHindrances_60 : decode cX10_readHindrances 60 = .ok (.iconst 0, 1) := by decide +kernel
theorem dX10_readHindrances_61 : decode cX10_readHindrances 61 = .ok (.goto 4, 3) := by decide +kernel
theorem dX10_readHindrances_64 : decode cX10_readHindrances 64 = .ok (.iconst 1, 1) := by decide +kernel
theorem dX10_readHindrances_65 : decode cX10_readHindrances 65 = .ok (.iadd, 1) := by decide +kernel
theorem dX10_readHindrances_66 : decode cX10_readHindrances 66 = .ok (.putfield 98, 3) := by decide +kernel
theorem dX10_readHindrances_69 : decode cX10_readHindrances 69 = .ok (.aload_n 0, 1) := by decide +kernel
theorem dX10_readHindrances_70 : decode cX10_readHindrances 70 = .ok (.iconst 1, 1) := by decide +kernel
theorem dX10_readHindrances_71 : decode cX10_readHindrances 71 = .ok (.bipush 9, 2) := by decide +kernel
theorem dX10_readHindrances_73 : decode cX10_readHindrances 73 = .ok (.invokevirtual 117, 3) := by decide +kernel
theorem dX10_readHindrances_76 : decode cX10_readHindrances 76 = .ok (.istore_n 2, 1) := by decide +kernel
theorem dX10_readHindrances_77 : decode cX10_readHindrances 77 = .ok (.aload_n 0, 1) := by decide +kernel
theorem dX10_readHindrances_78 : decode cX10_readHindrances 78 = .ok (.getfield 101, 3) := by decide +kernel
theorem dX10_readHindrances_81 : decode cX10_readHindrances 81 = .ok (.ifCond .eq 7, 3) := by decide +kernel
theorem dX10_readHindrances_84 : decode cX10_readHindrances 84 = .ok (.iconst 0, 1) := by decide +kernel
theorem dX10_readHindrances_85 : decode cX10_readHindrances 85 = .ok (.goto 7, 3) := by decide +kernel
theorem dX10_readHindrances_88 : decode cX10_readHindrances 88 = .ok (.aload_n 0, 1) := by decide +kernel
theorem dX10_readHindrances_89 : decode cX10_readHindrances 89 = .ok (.invokevirtual 105, 3) := by decide +kernel
theorem dX10_readHindrances_92 : decode cX10_readHindrances 92 = .ok (.istore_n 3, 1) := by decide +kernel
theorem dX10_readHindrances_93 : decode cX10_readHindrances 93 = .ok (.iload_n 3, 1) := by decide +kernel
theorem dX10_readHindrances_94 : decode cX10_readHindrances 94 = .ok (.i2l, 1) := by decide +kernel
theorem dX10_readHindrances_95 : decode cX10_readHindrances 95 = .ok (.ldc2_w 120, 3) := by decide +kernel
theorem dX10_readHindrances_98 : decode cX10_readHindrances 98 = .ok (.ldc2_w 122, 3) := by decide +kernel
theorem dX10_readHindrances_101 : decode cX10_readHindrances 101 = .ok (.invokestatic 51, 3) := by decide +kernel
theorem dX10_readHindrances_104 : decode cX10_readHindrances 104 = .ok (.istore 4, 2) := by decide +kernel
theorem dX10_readHindrances_106 : decode cX10_readHindrances 106 = .ok (.aload_n 0, 1) := by decide +kernel
theorem dX10_readHindrances_107 : decode cX10_readHindrances 107 = .ok (.dup, 1) := by decide +kernel
theorem dX10_readHindrances_108 : decode cX10_readHindrances 108 = .ok (.getfield 98, 3) := by decide +kernel
theorem dX10_readHindrances_111 : decode cX10_readHindrances 111 = .ok (.iload 4, 2) := by decide +kernel
theorem dX10_readHindrances_113 : decode cX10_readHindrances 113 = .ok (.ifCond .eq 7, 3) := by decide +kernel
theorem dX10_readHindrances_116 : decode cX10_readHindrances 116 = .ok (.iconst 1, 1) := by decide +kernel
theorem dX10_readHindrances_117 : decode cX10_readHindrances 117 = .ok (.goto 4, 3) := by decide +kernel
theorem dX10_readHindrances_120 : decode cX10_readHindrances 120 = .ok (.iconst 0, 1) := by decide +kernel
theorem dX10_readHindrances_121 : decode cX10_readHindrances 121 = .ok (.iadd, 1) := by decide +kernel
theorem dX10_readHindrances_122 : decode cX10_readHindrances 122 = .ok (.putfield 98, 3) := by decide +kernel
theorem dX10_readHindrances_125 : decode cX10_readHindrances 125 = .ok (.aload_n 0, 1) := by decide +kernel
theorem dX10_readHindrances_126 : decode cX10_readHindrances 126 = .ok (.getfield 101, 3) := by decide +kernel
theorem dX10_readHindrances_129 : decode cX10_readHindrances 129 = .ok (.ifCond .ne 40, 3) := by decide +kernel
theorem dX10_readHindrances_132 : decode cX10_readHindrances 132 = .ok (.aload_n 0, 1) := by decide +kernel
theorem dX10_readHindrances_133 : decode cX10_readHindrances 133 = .ok (.getfield 20, 3) := by decide +kernel
theorem dX10_readHindrances_136 : decode cX10_readHindrances 136 = .ok (.bipush 12, 2) := by decide +kernel
theorem dX10_readHindrances_138 : decode cX10_readHindrances 138 = .ok (.iconst 2, 1) := by decide +kernel
theorem dX10_readHindrances_139 : decode cX10_readHindrances 139 = .ok (.iload_n 1, 1) := by decide +kernel
theorem dX10_readHindrances_140 : decode cX10_readHindrances 140 = .ok (.imul, 1) := by decide +kernel
theorem dX10_readHindrances_141 : decode cX10_readHindrances 141 = .ok (.iadd, 1) := by decide +kernel
theorem dX10_readHindrances_142 : decode cX10_readHindrances 142 = .ok (.iload_n 2, 1) := by decide +kernel
theorem dX10_readHindrances_143 : decode cX10_readHindrances 143 = .ok (.iastore, 1) := by decide +kernel
theorem dX10_readHindrances_144 : decode cX10_readHindrances 144 = .ok (.aload_n 0, 1) := by decide +kernel
theorem dX10_readHindrances_145 : decode cX10_readHindrances 145 = .ok (.getfield 20, 3) := by decide +kernel
theorem dX10_readHindrances_148 : decode cX10_readHindrances 148 = .ok (.bipush 13, 2) := by decide +kernel
theorem dX10_readHindrances_150 : decode cX10_readHindrances 150 = .ok (.iconst 2, 1) := by decide +kernel
theorem dX10_readHindrances_151 : decode cX10_readHindrances 151 = .ok (.iload_n 1, 1) := by decide +kernel
theorem dX10_readHindrances_152 : decode cX10_readHindrances 152 = .ok (.imul, 1) := by decide +kernel
theorem dX10_readHindrances_153 : decode cX10_readHindrances 153 = .ok (.iadd, 1) := by decide +kernel
theorem dX10_readHindrances_154 : decode cX10_readHindrances 154 = .ok (.iload 4, 2) := by decide +kernel
theorem dX10_readHindrances_156 : decode cX10_readHindrances 156 = .ok (.ifCond .eq 10, 3) := by decide +kernel
theorem dX10_readHindrances_159 : decode cX10_readHindrances 159 = .ok (.iload_n 3, 1) := by decide +kernel
theorem dX10_readHindrances_160 : decode cX10_readHindrances 160 = .ok (.bipush 97, 2) := by decide +kernel
theorem dX10_readHindrances_162 : decode cX10_readHindrances 162 = .ok (.isub, 1) := by decide +kernel
theorem dX10_readHindrances_163 : decode cX10_readHindrances 163 = .ok (.goto 5, 3) := by decide +kernel
theorem dX10_readHindrances_166 : decode cX10_readHindrances 166 = .ok (.bipush (-4), 2) := by decide +kernel
theorem dX10_readHindrances_168 : decode cX10_readHindrances 168 = .ok (.iastore, 1) := by decide +kernel
theorem dX10_readHindrances_169 : decode cX10_readHindrances 169 = .ok (.iinc 1 1, 3) := by decide +kernel
theorem dX10_readHindrances_172 : decode cX10_readHindrances 172 = .ok (.goto (-170), 3) := by decide +kernel
theorem dX10_readHindrances_175 : decode cX10_readHindrances 175 = .ok (.iload_n 1, 1) := by decide +kernel
theorem dX10_readHindrances_176 : decode cX10_readHindrances 176 = .ok (.ireturn, 1) := by decide +kernel
theorem dX10_bargain_0 : decode cX10_bargain 0 = .ok (.aload_n 0, 1) := by decide +kernel
theorem dX10_bargain_1 : decode cX10_bargain 1 = .ok (.iconst 0, 1) := by decide +kernel
theorem dX10_bargain_2 : decode cX10_bargain 2 = .ok (.putfield 98, 3) := by decide +kernel
theorem dX10_bargain_5 : decode cX10_bargain 5 = .ok (.aload_n 0, 1) := by decide +kernel
theorem dX10_bargain_6 : decode cX10_bargain 6 = .ok (.iconst 0, 1) := by decide +kernel
theorem dX10_bargain_7 : decode cX10_bargain 7 = .ok (.putfield 101, 3) := by decide +kernel
theorem dX10_bargain_10 : decode cX10_bargain 10 = .ok (.aload_n 0, 1) := by decide +kernel
theorem dX10_bargain_11 : decode cX10_bargain 11 = .ok (.iconst 1, 1) := by decide +kernel
theorem dX10_bargain_12 : decode cX10_bargain 12 = .ok (.sipush 200, 3) := by decide +kernel
theorem dX10_bargain_15 : decode cX10_bargain 15 = .ok (.invokevirtual 124, 3) := by decide +kernel
theorem dX10_bargain_18 : decode cX10_bargain 18 = .ok (.istore_n 1, 1) := by decide +kernel
theorem dX10_bargain_19 : decode cX10_bargain 19 = .ok (.aload_n 0, 1) := by decide +kernel
theorem dX10_bargain_20 : decode cX10_bargain 20 = .ok (.bipush 44, 2) := by decide +kernel
theorem dX10_bargain_22 : decode cX10_bargain 22 = .ok (.invokevirtual 127, 3) := by decide +kernel
theorem dX10_bargain_25 : decode cX10_bargain 25 = .ok (.aload_n 0, 1) := by decide +kernel
theorem dX10_bargain_26 : decode cX10_bargain 26 = .ok (.iconst 1, 1) := by decide +kernel
theorem dX10_bargain_27 : decode cX10_bargain 27 = .ok (.bipush 40, 2) := by decide +kernel
theorem dX10_bargain_29 : decode cX10_bargain 29 = .ok (.invokevirtual 124, 3) := by decide +kernel
theorem dX10_bargain_32 : decode cX10_bargain 32 = .ok (.istore_n 2, 1) := by decide +kernel
theorem dX10_bargain_33 : decode cX10_bargain 33 = .ok (.aload_n 0, 1) := by decide +kernel
theorem dX10_bargain_34 : decode cX10_bargain 34 = .ok (.bipush 59, 2) := by decide +kernel
theorem dX10_bargain_36 : decode cX10_bargain 36 = .ok (.invokevirtual 127, 3) := by decide +kernel
theorem dX10_bargain_39 : decode cX10_bargain 39 = .ok (.aload_n 0, 1) := by decide +kernel
theorem dX10_bargain_40 : decode cX10_bargain 40 = .ok (.invokevirtual 131, 3) := by decide +kernel
theorem dX10_bargain_43 : decode cX10_bargain 43 = .ok (.istore_n 3, 1) := by decide +kernel
theorem dX10_bargain_44 : decode cX10_bargain 44 = .ok (.iconst 0, 1) := by decide +kernel
theorem dX10_bargain_45 : decode cX10_bargain 45 = .ok (.istore 4, 2) := by decide +kernel
theorem dX10_bargain_47 : decode cX10_bargain 47 = .ok (.aload_n 0, 1) := by decide +kernel
theorem dX10_bargain_48 : decode cX10_bargain 48 = .ok (.getfield 101, 3) := by decide +kernel
theorem dX10_bargain_51 : decode cX10_bargain 51 = .ok (.ifCond .ne 28, 3) := by decide +kernel
theorem dX10_bargain_54 : decode cX10_bargain 54 = .ok (.aload_n 0, 1) := by decide +kernel
theorem dX10_bargain_55 : decode cX10_bargain 55 = .ok (.invokevirtual 105, 3) := by decide +kernel
theorem dX10_bargain_58 : decode cX10_bargain 58 = .ok (.bipush 59, 2) := by decide +kernel
theorem dX10_bargain_60 : decode cX10_bargain 60 = .ok (.if_icmp .ne 19, 3) := by decide +kernel
theorem dX10_bargain_63 : decode cX10_bargain 63 = .ok (.aload_n 0, 1) := by decide +kernel
theorem dX10_bargain_64 : decode cX10_bargain 64 = .ok (.dup, 1) := by decide +kernel
theorem dX10_bargain_65 : decode cX10_bargain 65 = .ok (.getfield 98, 3) := by decide +kernel
theorem dX10_bargain_68 : decode cX10_bargain 68 = .ok (.iconst 1, 1) := by decide +kernel
theorem dX10_bargain_69 : decode cX10_bargain 69 = .ok (.iadd, 1) := by decide +kernel
theorem dX10_bargain_70 : decode cX10_bargain 70 = .ok (.putfield 98, 3) := by decide +kernel
theorem dX10_bargain_73 : decode cX10_bargain 73 = .ok (.aload_n 0, 1) := by decide +kernel
theorem dX10_bargain_74 : decode cX10_bargain 74 = .ok (.invokevirtual 134, 3) := by decide +kernel
theorem dX10_bargain_77 : decode cX10_bargain 77 = .ok (.istore 4, 2) := by decide +kernel
theorem dX10_bargain_79 : decode cX10_bargain 79 = .ok (.aload_n 0, 1) := by decide +kernel
theorem dX10_bargain_80 : decode cX10_bargain 80 = .ok (.iconst 0, 1) := by decide +kernel
theorem dX10_bargain_81 : decode cX10_bargain 81 = .ok (.putfield 95, 3) := by decide +kernel
theorem dX10_bargain_84 : decode cX10_bargain 84 = .ok (.aload_n 0, 1) := by decide +kernel
theorem dX10_bargain_85 : decode cX10_bargain 85 = .ok (.getfield 101, 3) := by decide +kernel
theorem dX10_bargain_88 : decode cX10_bargain 88 = .ok (.ifCond .eq 11, 3) := by decide +kernel
theorem dX10_bargain_91 : decode cX10_bargain 91 = .ok (.bipush (-20), 2) := by decide +kernel
theorem dX10_bargain_93 : decode cX10_bargain 93 = .ok (.aload_n 0, 1) := by decide +kernel
theorem dX10_bargain_94 : decode cX10_bargain 94 = .ok (.getfield 98, 3) := by decide +kernel
theorem dX10_bargain_97 : decode cX10_bargain 97 = .ok (.isub, 1) := by decide +kernel
theorem dX10_bargain_98 : decode cX10_bargain 98 = .ok (.ireturn, 1) := by decide +kernel
theorem dX10_bargain_99 : decode cX10_bargain 99 = .ok (.iconst 0, 1) := by decide +kernel
theorem dX10_bargain_100 : decode cX10_bargain 100 = .ok (.istore 5, 2) := by decide +kernel
theorem dX10_bargain_102 : decode cX10_bargain 102 = .ok (.iload 5, 2) := by decide +kernel
theorem dX10_bargain_104 : decode cX10_bargain 104 = .ok (.bipush 24, 2) := by decide +kernel
theorem dX10_bargain_106 : decode cX10_bargain 106 = .ok (.if_icmp .ge 26, 3) := by decide +kernel
theorem dX10_bargain_109 : decode cX10_bargain 109 = .ok (.aload_n 0, 1) := by decide +kernel
theorem dX10_bargain_110 : decode cX10_bargain 110 = .ok (.getfield 7, 3) := by decide +kernel
theorem dX10_bargain_113 : decode cX10_bargain 113 = .ok (.bipush 13, 2) := by decide +kernel
theorem dX10_bargain_115 : decode cX10_bargain 115 = .ok (.iload 5, 2) := by decide +kernel
theorem dX10_bargain_117 : decode cX10_bargain 117 = .ok (.iadd, 1) := by decide +kernel
theorem dX10_bargain_118 : decode cX10_bargain 118 = .ok (.aload_n 0, 1) := by decide +kernel
theorem dX10_bargain_119 : decode cX10_bargain 119 = .ok (.getfield 20, 3) := by decide +kernel
theorem dX10_bargain_122 : decode cX10_bargain 122 = .ok (.iload 5, 2) := by decide +kernel
theorem dX10_bargain_124 : decode cX10_bargain 124 = .ok (.iaload, 1) := by decide +kernel
theorem dX10_bargain_125 : decode cX10_bargain 125 = .ok (.iastore, 1) := by decide +kernel
theorem dX10_bargain_126 : decode cX10_bargain 126 = .ok (.iinc 5 1, 3) := by decide +kernel
theorem dX10_bargain_129 : decode cX10_bargain 129 = .ok (.goto (-27), 3) := by decide +kernel
theorem dX10_bargain_132 : decode cX10_bargain 132 = .ok (.aload_n 0, 1) := by decide +kernel
theorem dX10_bargain_133 : decode cX10_bargain 133 = .ok (.getfield 7, 3) := by decide +kernel
theorem dX10_bargain_136 : decode cX10_bargain 136 = .ok (.iconst 0, 1) := by decide +kernel
theorem dX10_bargain_137 : decode cX10_bargain 137 = .ok (.iload_n 3, 1) := by decide +kernel
theorem dX10_bargain_138 : decode cX10_bargain 138 = .ok (.iastore, 1) := by decide +kernel
theorem dX10_bargain_139 : decode cX10_bargain 139 = .ok (.aload_n 0, 1) := by decide +kernel
theorem dX10_bargain_140 : decode cX10_bargain 140 = .ok (.getfield 7, 3) := by decide +kernel
theorem dX10_bargain_143 : decode cX10_bargain 143 = .ok (.iconst 1, 1) := by decide +kernel
theorem dX10_bargain_144 : decode cX10_bargain 144 = .ok (.iload 4, 2) := by decide +kernel
theorem dX10_bargain_146 : decode cX10_bargain 146 = .ok (.iastore, 1) := by decide +kernel
theorem dX10_bargain_147 : decode cX10_bargain 147 = .ok (.aload_n 0, 1) := by decide +kernel
theorem dX10_bargain_148 : decode cX10_bargain 148 = .ok (.getfield 7, 3) := by decide +kernel
theorem dX10_bargain_151 : decode cX10_bargain 151 = .ok (.iconst 2, 1) := by decide +kernel
theorem dX10_bargain_152 : decode cX10_bargain 152 = .ok (.iload_n 1, 1) := by decide +kernel
theorem dX10_bargain_153 : decode cX10_bargain 153 = .ok (.iastore, 1) := by decide +kernel
theorem dX10_bargain_154 : decode cX10_bargain 154 = .ok (.aload_n 0, 1) := by decide +kernel
theorem dX10_bargain_155 : decode cX10_bargain 155 = .ok (.getfield 7, 3) := by decide +kernel
theorem dX10_bargain_158 : decode cX10_bargain 158 = .ok (.iconst 3, 1) := by decide +kernel
theorem dX10_bargain_159 : decode cX10_bargain 159 = .ok (.iload_n 2, 1) := by decide +kernel
theorem dX10_bargain_160 : decode cX10_bargain 160 = .ok (.iastore, 1) := by decide +kernel
theorem dX10_bargain_161 : decode cX10_bargain 161 = .ok (.bipush 6, 2) := by decide +kernel
theorem dX10_bargain_163 : decode cX10_bargain 163 = .ok (.istore 5, 2) := by decide +kernel
theorem dX10_bargain_165 : decode cX10_bargain 165 = .ok (.iload 5, 2) := by decide +kernel
theorem dX10_bargain_167 : decode cX10_bargain 167 = .ok (.bipush 10, 2) := by decide +kernel
theorem dX10_bargain_169 : decode cX10_bargain 169 = .ok (.if_icmp .gt 17, 3) := by decide +kernel
theorem dX10_bargain_172 : decode cX10_bargain 172 = .ok (.aload_n 0, 1) := by decide +kernel
theorem dX10_bargain_173 : decode cX10_bargain 173 = .ok (.getfield 7, 3) := by decide +kernel
theorem dX10_bargain_176 : decode cX10_bargain 176 = .ok (.iload 5, 2) := by decide +kernel
theorem dX10_bargain_178 : decode cX10_bargain 178 = .ok (.iconst 0, 1) := by decide +kernel
theorem dX10_bargain_179 : decode cX10_bargain 179 = .ok (.iastore, 1) := by decide +kernel
theorem dX10_bargain_180 : decode cX10_bargain 180 = .ok (.iinc 5 1, 3) := by decide +kernel
theorem dX10_bargain_183 : decode cX10_bargain 183 = .ok (.goto (-18), 3) := by decide +kernel
theorem dX10_bargain_186 : decode cX10_bargain 186 = .ok (.aload_n 0, 1) := by decide +kernel
theorem dX10_bargain_187 : decode cX10_bargain 187 = .ok (.iconst 0, 1) := by decide +kernel
theorem dX10_bargain_188 : decode cX10_bargain 188 = .ok (.putfield 72, 3) := by decide +kernel
theorem dX10_bargain_191 : decode cX10_bargain 191 = .ok (.iload_n 3, 1) := by decide +kernel
theorem dX10_bargain_192 : decode cX10_bargain 192 = .ok (.ireturn, 1) := by decide +kernel
theorem dX10_notes_0 : decode cX10_notes 0 = .ok (.aload_n 0, 1) := by decide +kernel
theorem dX10_notes_1 : decode cX10_notes 1 = .ok (.getfield 72, 3) := by decide +kernel
theorem dX10_notes_4 : decode cX10_notes 4 = .ok (.bipush 8, 2) := by decide +kernel
theorem dX10_notes_6 : decode cX10_notes 6 = .ok (.if_icmp .ne 39, 3) := by decide +kernel
theorem dX10_notes_9 : decode cX10_notes 9 = .ok (.bipush 6, 2) := by decide +kernel
theorem dX10_notes_11 : decode cX10_notes 11 = .ok (.istore_n 1, 1) := by decide +kernel
theorem dX10_notes_12 : decode cX10_notes 12 = .ok (.iload_n 1, 1) := by decide +kernel
theorem dX10_notes_13 : decode cX10_notes 13 = .ok (.bipush 48, 2) := by decide +kernel
theorem dX10_notes_15 : decode cX10_notes 15 = .ok (.if_icmp .ge 24, 3) := by decide +kernel
theorem dX10_notes_18 : decode cX10_notes 18 = .ok (.aload_n 0, 1) := by decide +kernel
theorem dX10_notes_19 : decode cX10_notes 19 = .ok (.getfield 23, 3) := by decide +kernel
theorem dX10_notes_22 : decode cX10_notes 22 = .ok (.iload_n 1, 1) := by decide +kernel
theorem dX10_notes_23 : decode cX10_notes 23 = .ok (.bipush 6, 2) := by decide +kernel
theorem dX10_notes_25 : decode cX10_notes 25 = .ok (.isub, 1) := by decide +kernel
theorem dX10_notes_26 : decode cX10_notes 26 = .ok (.aload_n 0, 1) := by decide +kernel
theorem dX10_notes_27 : decode cX10_notes 27 = .ok (.getfield 23, 3) := by decide +kernel
theorem dX10_notes_30 : decode cX10_notes 30 = .ok (.iload_n 1, 1) := by decide +kernel
theorem dX10_notes_31 : decode cX10_notes 31 = .ok (.iaload, 1) := by decide +kernel
theorem dX10_notes_32 : decode cX10_notes 32 = .ok (.iastore, 1) := by decide +kernel
theorem dX10_notes_33 : decode cX10_notes 33 = .ok (.iinc 1 1, 3) := by decide +kernel
theorem dX10_notes_36 : decode cX10_notes 36 = .ok (.goto (-24), 3) := by decide +kernel
theorem dX10_notes_39 : decode cX10_notes 39 = .ok (.aload_n 0, 1) := by decide +kernel
theorem dX10_notes_40 : decode cX10_notes 40 = .ok (.bipush 7, 2) := by decide +kernel
theorem dX10_notes_42 : decode cX10_notes 42 = .ok (.putfield 72, 3) := by decide +kernel
theorem dX10_notes_45 : decode cX10_notes 45 = .ok (.iconst 0, 1) := by decide +kernel
theorem dX10_notes_46 : decode cX10_notes 46 = .ok (.istore_n 1, 1) := by decide +kernel
theorem dX10_notes_47 : decode cX10_notes 47 = .ok (.iload_n 1, 1) := by decide +kernel
theorem dX10_notes_48 : decode cX10_notes 48 = .ok (.iconst 5, 1) := by decide +kernel
theorem dX10_notes_49 : decode cX10_notes 49 = .ok (.if_icmp .ge 32, 3) := by decide +kernel
theorem dX10_notes_52 : decode cX10_notes 52 = .ok (.aload_n 0, 1) := by decide +kernel
theorem dX10_notes_53 : decode cX10_notes 53 = .ok (.getfield 23, 3) := by decide +kernel
theorem dX10_notes_56 : decode cX10_notes 56 = .ok (.bipush 6, 2) := by decide +kernel
theorem dX10_notes_58 : decode cX10_notes 58 = .ok (.aload_n 0, 1) := by decide +kernel
theorem dX10_notes_59 : decode cX10_notes 59 = .ok (.getfield 72, 3) := by decide +kernel
theorem dX10_notes_62 : decode cX10_notes 62 = .ok (.imul, 1) := by decide +kernel
theorem dX10_notes_63 : decode cX10_notes 63 = .ok (.iload_n 1, 1) := by decide +kernel
theorem dX10_notes_64 : decode cX10_notes 64 = .ok (.iadd, 1) := by decide +kernel
theorem dX10_notes_65 : decode cX10_notes 65 = .ok (.aload_n 0, 1) := by decide +kernel
theorem dX10_notes_66 : decode cX10_notes 66 = .ok (.getfield 7, 3) := by decide +kernel
theorem dX10_notes_69 : decode cX10_notes 69 = .ok (.bipush 6, 2) := by decide +kernel
theorem dX10_notes_71 : decode cX10_notes 71 = .ok (.iload_n 1, 1) := by decide +kernel
theorem dX10_notes_72 : decode cX10_notes 72 = .ok (.iadd, 1) := by decide +kernel
theorem dX10_notes_73 : decode cX10_notes 73 = .ok (.iaload, 1) := by decide +kernel
theorem dX10_notes_74 : decode cX10_notes 74 = .ok (.iastore, 1) := by decide +kernel
theorem dX10_notes_75 : decode cX10_notes 75 = .ok (.iinc 1 1, 3) := by decide +kernel
theorem dX10_notes_78 : decode cX10_notes 78 = .ok (.goto (-31), 3) := by decide +kernel
theorem dX10_notes_81 : decode cX10_notes 81 = .ok (.aload_n 0, 1) := by decide +kernel
theorem dX10_notes_82 : decode cX10_notes 82 = .ok (.getfield 23, 3) := by decide +kernel
theorem dX10_notes_85 : decode cX10_notes 85 = .ok (.bipush 6, 2) := by decide +kernel
theorem dX10_notes_87 : decode cX10_notes 87 = .ok (.aload_n 0, 1) := by decide +kernel
theorem dX10_notes_88 : decode cX10_notes 88 = .ok (.getfield 72, 3) := by decide +kernel
theorem dX10_notes_91 : decode cX10_notes 91 = .ok (.imul, 1) := by decide +kernel
theorem dX10_notes_92 : decode cX10_notes 92 = .ok (.iconst 5, 1) := by decide +kernel
theorem dX10_notes_93 : decode cX10_notes 93 = .ok (.iadd, 1) := by decide +kernel
theorem dX10_notes_94 : decode cX10_notes 94 = .ok (.aload_n 0, 1) := by decide +kernel
theorem dX10_notes_95 : decode cX10_notes 95 = .ok (.getfield 7, 3) := by decide +kernel
theorem dX10_notes_98 : decode cX10_notes 98 = .ok (.bipush 12, 2) := by decide +kernel
theorem dX10_notes_100 : decode cX10_notes 100 = .ok (.iaload, 1) := by decide +kernel
theorem dX10_notes_101 : decode cX10_notes 101 = .ok (.iastore, 1) := by decide +kernel
theorem dX10_notes_102 : decode cX10_notes 102 = .ok (.aload_n 0, 1) := by decide +kernel
theorem dX10_notes_103 : decode cX10_notes 103 = .ok (.dup, 1) := by decide +kernel
theorem dX10_notes_104 : decode cX10_notes 104 = .ok (.getfield 72, 3) := by decide +kernel
theorem dX10_notes_107 : decode cX10_notes 107 = .ok (.iconst 1, 1) := by decide +kernel
theorem dX10_notes_108 : decode cX10_notes 108 = .ok (.iadd, 1) := by decide +kernel
theorem dX10_notes_109 : decode cX10_notes 109 = .ok (.putfield 72, 3) := by decide +kernel
theorem dX10_notes_112 : decode cX10_notes 112 = .ok (.return_, 1) := by decide +kernel
theorem dX10_isSummer_0 : decode cX10_isSummer 0 = .ok (.aload_n 0, 1) := by decide +kernel
theorem dX10_isSummer_1 : decode cX10_isSummer 1 = .ok (.getfield 7, 3) := by decide +kernel
theorem dX10_isSummer_4 : decode cX10_isSummer 4 = .ok (.bipush 6, 2) := by decide +kernel
theorem dX10_isSummer_6 : decode cX10_isSummer 6 = .ok (.iaload, 1) := by decide +kernel
theorem dX10_isSummer_7 : decode cX10_isSummer 7 = .ok (.aload_n 0, 1) := by decide +kernel
theorem dX10_isSummer_8 : decode cX10_isSummer 8 = .ok (.getfield 7, 3) := by decide +kernel
theorem dX10_isSummer_11 : decode cX10_isSummer 11 = .ok (.iconst 3, 1) := by decide +kernel
theorem dX10_isSummer_12 : decode cX10_isSummer 12 = .ok (.iaload, 1) := by decide +kernel
theorem dX10_isSummer_13 : decode cX10_isSummer 13 = .ok (.if_icmp .ne 7, 3) := by decide +kernel
theorem dX10_isSummer_16 : decode cX10_isSummer 16 = .ok (.iconst 1, 1) := by decide +kernel
theorem dX10_isSummer_17 : decode cX10_isSummer 17 = .ok (.goto 4, 3) := by decide +kernel
theorem dX10_isSummer_20 : decode cX10_isSummer 20 = .ok (.iconst 0, 1) := by decide +kernel
theorem dX10_isSummer_21 : decode cX10_isSummer 21 = .ok (.ireturn, 1) := by decide +kernel
theorem dX10_goesBy_0 : decode cX10_goesBy 0 = .ok (.aload_n 0, 1) := by decide +kernel
theorem dX10_goesBy_1 : decode cX10_goesBy 1 = .ok (.getfield 7, 3) := by decide +kernel
theorem dX10_goesBy_4 : decode cX10_goesBy 4 = .ok (.bipush 7, 2) := by decide +kernel
theorem dX10_goesBy_6 : decode cX10_goesBy 6 = .ok (.iaload, 1) := by decide +kernel
theorem dX10_goesBy_7 : decode cX10_goesBy 7 = .ok (.istore_n 2, 1) := by decide +kernel
theorem dX10_goesBy_8 : decode cX10_goesBy 8 = .ok (.aload_n 0, 1) := by decide +kernel
theorem dX10_goesBy_9 : decode cX10_goesBy 9 = .ok (.getfield 7, 3) := by decide +kernel
theorem dX10_goesBy_12 : decode cX10_goesBy 12 = .ok (.bipush 7, 2) := by decide +kernel
theorem dX10_goesBy_14 : decode cX10_goesBy 14 = .ok (.aload_n 0, 1) := by decide +kernel
theorem dX10_goesBy_15 : decode cX10_goesBy 15 = .ok (.iload_n 1, 1) := by decide +kernel
theorem dX10_goesBy_16 : decode cX10_goesBy 16 = .ok (.iload_n 2, 1) := by decide +kernel
theorem dX10_goesBy_17 : decode cX10_goesBy 17 = .ok (.aload_n 0, 1) := by decide +kernel
theorem dX10_goesBy_18 : decode cX10_goesBy 18 = .ok (.getfield 7, 3) := by decide +kernel
theorem dX10_goesBy_21 : decode cX10_goesBy 21 = .ok (.bipush 9, 2) := by decide +kernel
theorem dX10_goesBy_23 : decode cX10_goesBy 23 = .ok (.iaload, 1) := by decide +kernel
theorem dX10_goesBy_24 : decode cX10_goesBy 24 = .ok (.invokevirtual 137, 3) := by decide +kernel
theorem dX10_goesBy_27 : decode cX10_goesBy 27 = .ok (.iastore, 1) := by decide +kernel
theorem dX10_goesBy_28 : decode cX10_goesBy 28 = .ok (.aload_n 0, 1) := by decide +kernel
theorem dX10_goesBy_29 : decode cX10_goesBy 29 = .ok (.getfield 7, 3) := by decide +kernel
theorem dX10_goesBy_32 : decode cX10_goesBy 32 = .ok (.bipush 9, 2) := by decide +kernel
theorem dX10_goesBy_34 : decode cX10_goesBy 34 = .ok (.iconst 0, 1) := by decide +kernel
theorem dX10_goesBy_35 : decode cX10_goesBy 35 = .ok (.iastore, 1) := by decide +kernel
theorem dX10_goesBy_36 : decode cX10_goesBy 36 = .ok (.aload_n 0, 1) := by decide +kernel
theorem dX10_goesBy_37 : decode cX10_goesBy 37 = .ok (.getfield 7, 3) := by decide +kernel
theorem dX10_goesBy_40 : decode cX10_goesBy 40 = .ok (.bipush 6, 2) := by decide +kernel
theorem dX10_goesBy_42 : decode cX10_goesBy 42 = .ok (.dup2, 1) := by decide +kernel
theorem dX10_goesBy_43 : decode cX10_goesBy 43 = .ok (.iaload, 1) := by decide +kernel
theorem dX10_goesBy_44 : decode cX10_goesBy 44 = .ok (.iconst 1, 1) := by decide +kernel
theorem dX10_goesBy_45 : decode cX10_goesBy 45 = .ok (.iadd, 1) := by decide +kernel
theorem dX10_goesBy_46 : decode cX10_goesBy 46 = .ok (.iastore, 1) := by decide +kernel
theorem dX10_goesBy_47 : decode cX10_goesBy 47 = .ok (.aload_n 0, 1) := by decide +kernel
theorem dX10_goesBy_48 : decode cX10_goesBy 48 = .ok (.getfield 7, 3) := by decide +kernel
theorem dX10_goesBy_51 : decode cX10_goesBy 51 = .ok (.bipush 7, 2) := by decide +kernel
theorem dX10_goesBy_53 : decode cX10_goesBy 53 = .ok (.iaload, 1) := by decide +kernel
theorem dX10_goesBy_54 : decode cX10_goesBy 54 = .ok (.iload_n 2, 1) := by decide +kernel
theorem dX10_goesBy_55 : decode cX10_goesBy 55 = .ok (.isub, 1) := by decide +kernel
theorem dX10_goesBy_56 : decode cX10_goesBy 56 = .ok (.ireturn, 1) := by decide +kernel
theorem dX10_day_0 : decode cX10_day 0 = .ok (.iload_n 1, 1) := by decide +kernel
theorem dX10_day_1 : decode cX10_day 1 = .ok (.invokestatic 140, 3) := by decide +kernel
theorem dX10_day_4 : decode cX10_day 4 = .ok (.ifCond .ne 5, 3) := by decide +kernel
theorem dX10_day_7 : decode cX10_day 7 = .ok (.iconst (-1), 1) := by decide +kernel
theorem dX10_day_8 : decode cX10_day 8 = .ok (.ireturn, 1) := by decide +kernel
theorem dX10_day_9 : decode cX10_day 9 = .ok (.aload_n 0, 1) := by decide +kernel
theorem dX10_day_10 : decode cX10_day 10 = .ok (.invokevirtual 143, 3) := by decide +kernel
theorem dX10_day_13 : decode cX10_day 13 = .ok (.ifCond .eq 6, 3) := by decide +kernel
theorem dX10_day_16 : decode cX10_day 16 = .ok (.bipush (-3), 2) := by decide +kernel
theorem dX10_day_18 : decode cX10_day 18 = .ok (.ireturn, 1) := by decide +kernel
theorem dX10_day_19 : decode cX10_day 19 = .ok (.aload_n 0, 1) := by decide +kernel
theorem dX10_day_20 : decode cX10_day 20 = .ok (.invokevirtual 147, 3) := by decide +kernel
theorem dX10_day_23 : decode cX10_day 23 = .ok (.aload_n 0, 1) := by decide +kernel
theorem dX10_day_24 : decode cX10_day 24 = .ok (.iload_n 1, 1) := by decide +kernel
theorem dX10_day_25 : decode cX10_day 25 = .ok (.invokevirtual 150, 3) := by decide +kernel
theorem dX10_day_28 : decode cX10_day 28 = .ok (.ireturn, 1) := by decide +kernel
theorem dX10_costOf_0 : decode cX10_costOf 0 = .ok (.aload_n 0, 1) := by decide +kernel
theorem dX10_costOf_1 : decode cX10_costOf 1 = .ok (.getfield 7, 3) := by decide +kernel
theorem dX10_costOf_4 : decode cX10_costOf 4 = .ok (.bipush 25, 2) := by decide +kernel
theorem dX10_costOf_6 : decode cX10_costOf 6 = .ok (.iconst 2, 1) := by decide +kernel
theorem dX10_costOf_7 : decode cX10_costOf 7 = .ok (.iload_n 1, 1) := by decide +kernel
theorem dX10_costOf_8 : decode cX10_costOf 8 = .ok (.imul, 1) := by decide +kernel
theorem dX10_costOf_9 : decode cX10_costOf 9 = .ok (.iadd, 1) := by decide +kernel
theorem dX10_costOf_10 : decode cX10_costOf 10 = .ok (.iaload, 1) := by decide +kernel
theorem dX10_costOf_11 : decode cX10_costOf 11 = .ok (.ireturn, 1) := by decide +kernel
theorem dX10_oathOf_0 : decode cX10_oathOf 0 = .ok (.aload_n 0, 1) := by decide +kernel
theorem dX10_oathOf_1 : decode cX10_oathOf 1 = .ok (.getfield 7, 3) := by decide +kernel
theorem dX10_oathOf_4 : decode cX10_oathOf 4 = .ok (.bipush 25, 2) := by decide +kernel
theorem dX10_oathOf_6 : decode cX10_oathOf 6 = .ok (.iconst 2, 1) := by decide +kernel
theorem dX10_oathOf_7 : decode cX10_oathOf 7 = .ok (.iload_n 1, 1) := by decide +kernel
theorem dX10_oathOf_8 : decode cX10_oathOf 8 = .ok (.imul, 1) := by decide +kernel
theorem dX10_oathOf_9 : decode cX10_oathOf 9 = .ok (.iadd, 1) := by decide +kernel
theorem dX10_oathOf_10 : decode cX10_oathOf 10 = .ok (.iconst 1, 1) := by decide +kernel
theorem dX10_oathOf_11 : decode cX10_oathOf 11 = .ok (.iadd, 1) := by decide +kernel
theorem dX10_oathOf_12 : decode cX10_oathOf 12 = .ok (.iaload, 1) := by decide +kernel
theorem dX10_oathOf_13 : decode cX10_oathOf 13 = .ok (.ireturn, 1) := by decide +kernel
theorem dX10_breaks_0 : decode cX10_breaks 0 = .ok (.aload_n 0, 1) := by decide +kernel
theorem dX10_breaks_1 : decode cX10_breaks 1 = .ok (.iload_n 1, 1) := by decide +kernel
theorem dX10_breaks_2 : decode cX10_breaks 2 = .ok (.invokevirtual 154, 3) := by decide +kernel
theorem dX10_breaks_5 : decode cX10_breaks 5 = .ok (.bipush (-4), 2) := by decide +kernel
theorem dX10_breaks_7 : decode cX10_breaks 7 = .ok (.if_icmp .eq 26, 3) := by decide +kernel
theorem dX10_breaks_10 : decode cX10_breaks 10 = .ok (.aload_n 0, 1) := by decide +kernel
theorem dX10_breaks_11 : decode cX10_breaks 11 = .ok (.getfield 7, 3) := by decide +kernel
theorem dX10_breaks_14 : decode cX10_breaks 14 = .ok (.bipush 11, 2) := by decide +kernel
theorem dX10_breaks_16 : decode cX10_breaks 16 = .ok (.iaload, 1) := by decide +kernel
theorem dX10_breaks_17 : decode cX10_breaks 17 = .ok (.aload_n 0, 1) := by decide +kernel
theorem dX10_breaks_18 : decode cX10_breaks 18 = .ok (.iload_n 1, 1) := by decide +kernel
theorem dX10_breaks_19 : decode cX10_breaks 19 = .ok (.invokevirtual 154, 3) := by decide +kernel
theorem dX10_breaks_22 : decode cX10_breaks 22 = .ok (.ishr, 1) := by decide +kernel
theorem dX10_breaks_23 : decode cX10_breaks 23 = .ok (.iconst 1, 1) := by decide +kernel
theorem dX10_breaks_24 : decode cX10_breaks 24 = .ok (.iand, 1) := by decide +kernel
theorem dX10_breaks_25 : decode cX10_breaks 25 = .ok (.iconst 1, 1) := by decide +kernel
theorem dX10_breaks_26 : decode cX10_breaks 26 = .ok (.if_icmp .ne 7, 3) := by decide +kernel
theorem dX10_breaks_29 : decode cX10_breaks 29 = .ok (.iconst 1, 1) := by decide +kernel
theorem dX10_breaks_30 : decode cX10_breaks 30 = .ok (.goto 4, 3) := by decide +kernel
theorem dX10_breaks_33 : decode cX10_breaks 33 = .ok (.iconst 0, 1) := by decide +kernel
theorem dX10_breaks_34 : decode cX10_breaks 34 = .ok (.ireturn, 1) := by decide +kernel
theorem dX10_isUsed_0 : decode cX10_isUsed 0 = .ok (.aload_n 0, 1) := by decide +kernel
theorem dX10_isUsed_1 : decode cX10_isUsed 1 = .ok (.getfield 7, 3) := by decide +kernel
theorem dX10_isUsed_4 : decode cX10_isUsed 4 = .ok (.bipush 8, 2) := by decide +kernel
theorem dX10_isUsed_6 : decode cX10_isUsed 6 = .ok (.iaload, 1) := by decide +kernel
theorem dX10_isUsed_7 : decode cX10_isUsed 7 = .ok (.iload_n 1, 1) := by decide +kernel
theorem dX10_isUsed_8 : decode cX10_isUsed 8 = .ok (.ishr, 1) := by decide +kernel
theorem dX10_isUsed_9 : decode cX10_isUsed 9 = .ok (.iconst 1, 1) := by decide +kernel
theorem dX10_isUsed_10 : decode cX10_isUsed 10 = .ok (.iand, 1) := by decide +kernel
theorem dX10_isUsed_11 : decode cX10_isUsed 11 = .ok (.iconst 1, 1) := by decide +kernel
theorem dX10_isUsed_12 : decode cX10_isUsed 12 = .ok (.if_icmp .ne 7, 3) := by decide +kernel
theorem dX10_isUsed_15 : decode cX10_isUsed 15 = .ok (.iconst 1, 1) := by decide +kernel
theorem dX10_isUsed_16 : decode cX10_isUsed 16 = .ok (.goto 4, 3) := by decide +kernel
theorem dX10_isUsed_19 : decode cX10_isUsed 19 = .ok (.iconst 0, 1) := by decide +kernel
theorem dX10_isUsed_20 : decode cX10_isUsed 20 = .ok (.ireturn, 1) := by decide +kernel
theorem dX10_use_0 : decode cX10_use 0 = .ok (.aload_n 0, 1) := by decide +kernel
theorem dX10_use_1 : decode cX10_use 1 = .ok (.iload_n 1, 1) := by decide +kernel
theorem dX10_use_2 : decode cX10_use 2 = .ok (.invokevirtual 157, 3) := by decide +kernel
theorem dX10_use_5 : decode cX10_use 5 = .ok (.ifCond .ne 5, 3) := by decide +kernel
theorem dX10_use_8 : decode cX10_use 8 = .ok (.iconst (-1), 1) := by decide +kernel
theorem dX10_use_9 : decode cX10_use 9 = .ok (.ireturn, 1) := by decide +kernel
theorem dX10_use_10 : decode cX10_use 10 = .ok (.aload_n 0, 1) := by decide +kernel
theorem dX10_use_11 : decode cX10_use 11 = .ok (.iload_n 1, 1) := by decide +kernel
theorem dX10_use_12 : decode cX10_use 12 = .ok (.invokevirtual 160, 3) := by decide +kernel
theorem dX10_use_15 : decode cX10_use 15 = .ok (.ifCond .eq 6, 3) := by decide +kernel
theorem dX10_use_18 : decode cX10_use 18 = .ok (.bipush (-2), 2) := by decide +kernel
theorem dX10_use_20 : decode cX10_use 20 = .ok (.ireturn, 1) := by decide +kernel
theorem dX10_use_21 : decode cX10_use 21 = .ok (.aload_n 0, 1) := by decide +kernel
theorem dX10_use_22 : decode cX10_use 22 = .ok (.invokevirtual 143, 3) := by decide +kernel
theorem dX10_use_25 : decode cX10_use 25 = .ok (.ifCond .eq 6, 3) := by decide +kernel
theorem dX10_use_28 : decode cX10_use 28 = .ok (.bipush (-3), 2) := by decide +kernel
theorem dX10_use_30 : decode cX10_use 30 = .ok (.ireturn, 1) := by decide +kernel
theorem dX10_use_31 : decode cX10_use 31 = .ok (.aload_n 0, 1) := by decide +kernel
theorem dX10_use_32 : decode cX10_use 32 = .ok (.invokevirtual 147, 3) := by decide +kernel
theorem dX10_use_35 : decode cX10_use 35 = .ok (.aload_n 0, 1) := by decide +kernel
theorem dX10_use_36 : decode cX10_use 36 = .ok (.getfield 7, 3) := by decide +kernel
theorem dX10_use_39 : decode cX10_use 39 = .ok (.bipush 8, 2) := by decide +kernel
theorem dX10_use_41 : decode cX10_use 41 = .ok (.dup2, 1) := by decide +kernel
theorem dX10_use_42 : decode cX10_use 42 = .ok (.iaload, 1) := by decide +kernel
theorem dX10_use_43 : decode cX10_use 43 = .ok (.iconst 1, 1) := by decide +kernel
theorem dX10_use_44 : decode cX10_use 44 = .ok (.iload_n 1, 1) := by decide +kernel
theorem dX10_use_45 : decode cX10_use 45 = .ok (.ishl, 1) := by decide +kernel
theorem dX10_use_46 : decode cX10_use 46 = .ok (.ior, 1) := by decide +kernel
theorem dX10_use_47 : decode cX10_use 47 = .ok (.iastore, 1) := by decide +kernel
theorem dX10_use_48 : decode cX10_use 48 = .ok (.aload_n 0, 1) := by decide +kernel
theorem dX10_use_49 : decode cX10_use 49 = .ok (.getfield 7, 3) := by decide +kernel
theorem dX10_use_52 : decode cX10_use 52 = .ok (.bipush 9, 2) := by decide +kernel
theorem dX10_use_54 : decode cX10_use 54 = .ok (.dup2, 1) := by decide +kernel
theorem dX10_use_55 : decode cX10_use 55 = .ok (.iaload, 1) := by decide +kernel
theorem dX10_use_56 : decode cX10_use 56 = .ok (.aload_n 0, 1) := by decide +kernel
theorem dX10_use_57 : decode cX10_use 57 = .ok (.iload_n 1, 1) := by decide +kernel
theorem dX10_use_58 : decode cX10_use 58 = .ok (.invokevirtual 163, 3) := by decide +kernel
theorem dX10_use_61 : decode cX10_use 61 = .ok (.iadd, 1) := by decide +kernel
theorem dX10_use_62 : decode cX10_use 62 = .ok (.iastore, 1) := by decide +kernel
theorem dX10_use_63 : decode cX10_use 63 = .ok (.aload_n 0, 1) := by decide +kernel
theorem dX10_use_64 : decode cX10_use 64 = .ok (.getfield 7, 3) := by decide +kernel
theorem dX10_use_67 : decode cX10_use 67 = .ok (.bipush 10, 2) := by decide +kernel
theorem dX10_use_69 : decode cX10_use 69 = .ok (.dup2, 1) := by decide +kernel
theorem dX10_use_70 : decode cX10_use 70 = .ok (.iaload, 1) := by decide +kernel
theorem dX10_use_71 : decode cX10_use 71 = .ok (.aload_n 0, 1) := by decide +kernel
theorem dX10_use_72 : decode cX10_use 72 = .ok (.iload_n 1, 1) := by decide +kernel
theorem dX10_use_73 : decode cX10_use 73 = .ok (.invokevirtual 166, 3) := by decide +kernel
theorem dX10_use_76 : decode cX10_use 76 = .ok (.ifCond .eq 13, 3) := by decide +kernel
theorem dX10_use_79 : decode cX10_use 79 = .ok (.iconst 1, 1) := by decide +kernel
theorem dX10_use_80 : decode cX10_use 80 = .ok (.aload_n 0, 1) := by decide +kernel
theorem dX10_use_81 : decode cX10_use 81 = .ok (.iload_n 1, 1) := by decide +kernel
theorem dX10_use_82 : decode cX10_use 82 = .ok (.invokevirtual 154, 3) := by decide +kernel
theorem dX10_use_85 : decode cX10_use 85 = .ok (.ishl, 1) := by decide +kernel
theorem dX10_use_86 : decode cX10_use 86 = .ok (.goto 4, 3) := by decide +kernel
theorem dX10_use_89 : decode cX10_use 89 = .ok (.iconst 0, 1) := by decide +kernel
theorem dX10_use_90 : decode cX10_use 90 = .ok (.ior, 1) := by decide +kernel
theorem dX10_use_91 : decode cX10_use 91 = .ok (.iastore, 1) := by decide +kernel
theorem dX10_use_92 : decode cX10_use 92 = .ok (.aload_n 0, 1) := by decide +kernel
theorem dX10_use_93 : decode cX10_use 93 = .ok (.getfield 7, 3) := by decide +kernel
theorem dX10_use_96 : decode cX10_use 96 = .ok (.bipush 9, 2) := by decide +kernel
theorem dX10_use_98 : decode cX10_use 98 = .ok (.iaload, 1) := by decide +kernel
theorem dX10_use_99 : decode cX10_use 99 = .ok (.ireturn, 1) := by decide +kernel
theorem dX10_drift_0 : decode cX10_drift 0 = .ok (.iload_n 1, 1) := by decide +kernel
theorem dX10_drift_1 : decode cX10_drift 1 = .ok (.i2l, 1) := by decide +kernel
theorem dX10_drift_2 : decode cX10_drift 2 = .ok (.lconst 1, 1) := by decide +kernel
theorem dX10_drift_3 : decode cX10_drift 3 = .ok (.ldc2_w 83, 3) := by decide +kernel
theorem dX10_drift_6 : decode cX10_drift 6 = .ok (.invokestatic 51, 3) := by decide +kernel
theorem dX10_drift_9 : decode cX10_drift 9 = .ok (.ifCond .ne 5, 3) := by decide +kernel
theorem dX10_drift_12 : decode cX10_drift 12 = .ok (.iconst (-1), 1) := by decide +kernel
theorem dX10_drift_13 : decode cX10_drift 13 = .ok (.ireturn, 1) := by decide +kernel
theorem dX10_drift_14 : decode cX10_drift 14 = .ok (.aload_n 0, 1) := by decide +kernel
theorem dX10_drift_15 : decode cX10_drift 15 = .ok (.invokevirtual 143, 3) := by decide +kernel
theorem dX10_drift_18 : decode cX10_drift 18 = .ok (.ifCond .eq 6, 3) := by decide +kernel
theorem dX10_drift_21 : decode cX10_drift 21 = .ok (.bipush (-3), 2) := by decide +kernel
theorem dX10_drift_23 : decode cX10_drift 23 = .ok (.ireturn, 1) := by decide +kernel
theorem dX10_drift_24 : decode cX10_drift 24 = .ok (.iconst 0, 1) := by decide +kernel
theorem dX10_drift_25 : decode cX10_drift 25 = .ok (.istore_n 2, 1) := by decide +kernel
theorem dX10_drift_26 : decode cX10_drift 26 = .ok (.iconst 0, 1) := by decide +kernel
theorem dX10_drift_27 : decode cX10_drift 27 = .ok (.istore_n 3, 1) := by decide +kernel
theorem dX10_drift_28 : decode cX10_drift 28 = .ok (.iload_n 3, 1) := by decide +kernel
theorem dX10_drift_29 : decode cX10_drift 29 = .ok (.iload_n 1, 1) := by decide +kernel
theorem dX10_drift_30 : decode cX10_drift 30 = .ok (.if_icmp .ge 108, 3) := by decide +kernel
theorem dX10_drift_33 : decode cX10_drift 33 = .ok (.aload_n 0, 1) := by decide +kernel
theorem dX10_drift_34 : decode cX10_drift 34 = .ok (.invokevirtual 143, 3) := by decide +kernel
theorem dX10_drift_37 : decode cX10_drift 37 = .ok (.ifCond .ne 101, 3) := by decide +kernel
theorem dX10_drift_40 : decode cX10_drift 40 = .ok (.aload_n 0, 1) := by decide +kernel
theorem dX10_drift_41 : decode cX10_drift 41 = .ok (.invokevirtual 147, 3) := by decide +kernel
theorem dX10_drift_44 : decode cX10_drift 44 = .ok (.aload_n 0, 1) := by decide +kernel
theorem dX10_drift_45 : decode cX10_drift 45 = .ok (.getfield 7, 3) := by decide +kernel
theorem dX10_drift_48 : decode cX10_drift 48 = .ok (.bipush 12, 2) := by decide +kernel
theorem dX10_drift_50 : decode cX10_drift 50 = .ok (.aload_n 0, 1) := by decide +kernel
theorem dX10_drift_51 : decode cX10_drift 51 = .ok (.getfield 7, 3) := by decide +kernel
theorem dX10_drift_54 : decode cX10_drift 54 = .ok (.bipush 12, 2) := by decide +kernel
theorem dX10_drift_56 : decode cX10_drift 56 = .ok (.iaload, 1) := by decide +kernel
theorem dX10_drift_57 : decode cX10_drift 57 = .ok (.i2l, 1) := by decide +kernel
theorem dX10_drift_58 : decode cX10_drift 58 = .ok (.ldc2_w 169, 3) := by decide +kernel
theorem dX10_drift_61 : decode cX10_drift 61 = .ok (.lmul, 1) := by decide +kernel
theorem dX10_drift_62 : decode cX10_drift 62 = .ok (.ldc2_w 171, 3) := by decide +kernel
theorem dX10_drift_65 : decode cX10_drift 65 = .ok (.ladd, 1) := by decide +kernel
theorem dX10_drift_66 : decode cX10_drift 66 = .ok (.ldc2_w 173, 3) := by decide +kernel
theorem dX10_drift_69 : decode cX10_drift 69 = .ok (.land, 1) := by decide +kernel
theorem dX10_drift_70 : decode cX10_drift 70 = .ok (.l2i, 1) := by decide +kernel
theorem dX10_drift_71 : decode cX10_drift 71 = .ok (.iastore, 1) := by decide +kernel
theorem dX10_drift_72 : decode cX10_drift 72 = .ok (.aload_n 0, 1) := by decide +kernel
theorem dX10_drift_73 : decode cX10_drift 73 = .ok (.getfield 7, 3) := by decide +kernel
theorem dX10_drift_76 : decode cX10_drift 76 = .ok (.bipush 12, 2) := by decide +kernel
theorem dX10_drift_78 : decode cX10_drift 78 = .ok (.iaload, 1) := by decide +kernel
theorem dX10_drift_79 : decode cX10_drift 79 = .ok (.ldc 175, 2) := by decide +kernel
theorem dX10_drift_81 : decode cX10_drift 81 = .ok (.idiv, 1) := by decide +kernel
theorem dX10_drift_82 : decode cX10_drift 82 = .ok (.bipush 10, 2) := by decide +kernel
theorem dX10_drift_84 : decode cX10_drift 84 = .ok (.irem, 1) := by decide +kernel
theorem dX10_drift_85 : decode cX10_drift 85 = .ok (.istore 4, 2) := by decide +kernel
theorem dX10_drift_87 : decode cX10_drift 87 = .ok (.iload_n 2, 1) := by decide +kernel
theorem dX10_drift_88 : decode cX10_drift 88 = .ok (.aload_n 0, 1) := by decide +kernel
theorem dX10_drift_89 : decode cX10_drift 89 = .ok (.iload 4, 2) := by decide +kernel
theorem dX10_drift_91 : decode cX10_drift 91 = .ok (.aload_n 0, 1) := by decide +kernel
theorem dX10_drift_92 : decode cX10_drift 92 = .ok (.getfield 7, 3) := by decide +kernel
theorem dX10_drift_95 : decode cX10_drift 95 = .ok (.iconst 4, 1) := by decide +kernel
theorem dX10_drift_96 : decode cX10_drift 96 = .ok (.iaload, 1) := by decide +kernel
theorem dX10_drift_97 : decode cX10_drift 97 = .ok (.if_icmp .ge 7, 3) := by decide +kernel
theorem dX10_drift_100 : decode cX10_drift 100 = .ok (.iconst 1, 1) := by decide +kernel
theorem dX10_drift_101 : decode cX10_drift 101 = .ok (.goto 26, 3) := by decide +kernel
theorem dX10_drift_104 : decode cX10_drift 104 = .ok (.iload 4, 2) := by decide +kernel
theorem dX10_drift_106 : decode cX10_drift 106 = .ok (.aload_n 0, 1) := by decide +kernel
theorem dX10_drift_107 : decode cX10_drift 107 = .ok (.getfield 7, 3) := by decide +kernel
theorem dX10_drift_110 : decode cX10_drift 110 = .ok (.iconst 4, 1) := by decide +kernel
theorem dX10_drift_111 : decode cX10_drift 111 = .ok (.iaload, 1) := by decide +kernel
theorem dX10_drift_112 : decode cX10_drift 112 = .ok (.aload_n 0, 1) := by decide +kernel
theorem dX10_drift_113 : decode cX10_drift 113 = .ok (.getfield 7, 3) := by decide +kernel
theorem dX10_drift_116 : decode cX10_drift 116 = .ok (.iconst 5, 1) := by decide +kernel
theorem dX10_drift_117 : decode cX10_drift 117 = .ok (.iaload, 1) := by decide +kernel
theorem dX10_drift_118 : decode cX10_drift 118 = .ok (.iadd, 1) := by decide +kernel
theorem dX10_drift_119 : decode cX10_drift 119 = .ok (.if_icmp .ge 7, 3) := by decide +kernel
theorem dX10_drift_122 : decode cX10_drift 122 = .ok (.iconst 2, 1) := by decide +kernel
theorem dX10_drift_123 : decode cX10_drift 123 = .ok (.goto 4, 3) := by decide +kernel
theorem dX10_drift_126 : decode cX10_drift 126 = .ok (.iconst 0, 1) := by decide +kernel
theorem dX10_drift_127 : decode cX10_drift 127 = .ok (.invokevirtual 150, 3) := by decide +kernel
theorem dX10_drift_130 : decode cX10_drift 130 = .ok (.iadd, 1) := by decide +kernel
theorem dX10_drift_131 : decode cX10_drift 131 = .ok (.istore_n 2, 1) := by decide +kernel
theorem dX10_drift_132 : decode cX10_drift 132 = .ok (.iinc 3 1, 3) := by decide +kernel
theorem dX10_drift_135 : decode cX10_drift 135 = .ok (.goto (-107), 3) := by decide +kernel
theorem dX10_drift_138 : decode cX10_drift 138 = .ok (.iload_n 2, 1) := by decide +kernel
theorem dX10_drift_139 : decode cX10_drift 139 = .ok (.ireturn, 1) := by decide +kernel
theorem dX10_undo_0 : decode cX10_undo 0 = .ok (.aload_n 0, 1) := by decide +kernel
theorem dX10_undo_1 : decode cX10_undo 1 = .ok (.getfield 72, 3) := by decide +kernel
theorem dX10_undo_4 : decode cX10_undo 4 = .ok (.ifCond .ne 6, 3) := by decide +kernel
theorem dX10_undo_7 : decode cX10_undo 7 = .ok (.bipush (-4), 2) := by decide +kernel
theorem dX10_undo_9 : decode cX10_undo 9 = .ok (.ireturn, 1) := by decide +kernel
theorem dX10_undo_10 : decode cX10_undo 10 = .ok (.aload_n 0, 1) := by decide +kernel
theorem dX10_undo_11 : decode cX10_undo 11 = .ok (.dup, 1) := by decide +kernel
theorem dX10_undo_12 : decode cX10_undo 12 = .ok (.getfield 72, 3) := by decide +kernel
theorem dX10_undo_15 : decode cX10_undo 15 = .ok (.iconst 1, 1) := by decide +kernel
theorem dX10_undo_16 : decode cX10_undo 16 = .ok (.isub, 1) := by decide +kernel
theorem dX10_undo_17 : decode cX10_undo 17 = .ok (.putfield 72, 3) := by decide +kernel
theorem dX10_undo_20 : decode cX10_undo 20 = .ok (.iconst 0, 1) := by decide +kernel
theorem dX10_undo_21 : decode cX10_undo 21 = .ok (.istore_n 1, 1) := by decide +kernel
theorem dX10_undo_22 : decode cX10_undo 22 = .ok (.iload_n 1, 1) := by decide +kernel
theorem dX10_undo_23 : decode cX10_undo 23 = .ok (.iconst 5, 1) := by decide +kernel
theorem dX10_undo_24 : decode cX10_undo 24 = .ok (.if_icmp .ge 32, 3) := by decide +kernel
theorem dX10_undo_27 : decode cX10_undo 27 = .ok (.aload_n 0, 1) := by decide +kernel
theorem dX10_undo_28 : decode cX10_undo 28 = .ok (.getfield 7, 3) := by decide +kernel
theorem dX10_undo_31 : decode cX10_undo 31 = .ok (.bipush 6, 2) := by decide +kernel
theorem dX10_undo_33 : decode cX10_undo 33 = .ok (.iload_n 1, 1) := by decide +kernel
theorem dX10_undo_34 : decode cX10_undo 34 = .ok (.iadd, 1) := by decide +kernel
theorem dX10_undo_35 : decode cX10_undo 35 = .ok (.aload_n 0, 1) := by decide +kernel
theorem dX10_undo_36 : decode cX10_undo 36 = .ok (.getfield 23, 3) := by decide +kernel
theorem dX10_undo_39 : decode cX10_undo 39 = .ok (.bipush 6, 2) := by decide +kernel
theorem dX10_undo_41 : decode cX10_undo 41 = .ok (.aload_n 0, 1) := by decide +kernel
theorem dX10_undo_42 : decode cX10_undo 42 = .ok (.getfield 72, 3) := by decide +kernel
theorem dX10_undo_45 : decode cX10_undo 45 = .ok (.imul, 1) := by decide +kernel
theorem dX10_undo_46 : decode cX10_undo 46 = .ok (.iload_n 1, 1) := by decide +kernel
theorem dX10_undo_47 : decode cX10_undo 47 = .ok (.iadd, 1) := by decide +kernel
theorem dX10_undo_48 : decode cX10_undo 48 = .ok (.iaload, 1) := by decide +kernel
theorem dX10_undo_49 : decode cX10_undo 49 = .ok (.iastore, 1) := by decide +kernel
theorem dX10_undo_50 : decode cX10_undo 50 = .ok (.iinc 1 1, 3) := by decide +kernel
theorem dX10_undo_53 : decode cX10_undo 53 = .ok (.goto (-31), 3) := by decide +kernel
theorem dX10_undo_56 : decode cX10_undo 56 = .ok (.aload_n 0, 1) := by decide +kernel
theorem dX10_undo_57 : decode cX10_undo 57 = .ok (.getfield 7, 3) := by decide +kernel
theorem dX10_undo_60 : decode cX10_undo 60 = .ok (.bipush 12, 2) := by decide +kernel
theorem dX10_undo_62 : decode cX10_undo 62 = .ok (.aload_n 0, 1) := by decide +kernel
theorem dX10_undo_63 : decode cX10_undo 63 = .ok (.getfield 23, 3) := by decide +kernel
theorem dX10_undo_66 : decode cX10_undo 66 = .ok (.bipush 6, 2) := by decide +kernel
theorem dX10_undo_68 : decode cX10_undo 68 = .ok (.aload_n 0, 1) := by decide +kernel
theorem dX10_undo_69 : decode cX10_undo 69 = .ok (.getfield 72, 3) := by decide +kernel
theorem dX10_undo_72 : decode cX10_undo 72 = .ok (.imul, 1) := by decide +kernel
theorem dX10_undo_73 : decode cX10_undo 73 = .ok (.iconst 5, 1) := by decide +kernel
theorem dX10_undo_74 : decode cX10_undo 74 = .ok (.iadd, 1) := by decide +kernel
theorem dX10_undo_75 : decode cX10_undo 75 = .ok (.iaload, 1) := by decide +kernel
theorem dX10_undo_76 : decode cX10_undo 76 = .ok (.iastore, 1) := by decide +kernel
theorem dX10_undo_77 : decode cX10_undo 77 = .ok (.aload_n 0, 1) := by decide +kernel
theorem dX10_undo_78 : decode cX10_undo 78 = .ok (.getfield 72, 3) := by decide +kernel
theorem dX10_undo_81 : decode cX10_undo 81 = .ok (.ireturn, 1) := by decide +kernel
theorem dX10_seed_0 : decode cX10_seed 0 = .ok (.iload_n 1, 1) := by decide +kernel
theorem dX10_seed_1 : decode cX10_seed 1 = .ok (.ifCond .ge 5, 3) := by decide +kernel
theorem dX10_seed_4 : decode cX10_seed 4 = .ok (.iconst (-1), 1) := by decide +kernel
theorem dX10_seed_5 : decode cX10_seed 5 = .ok (.ireturn, 1) := by decide +kernel
theorem dX10_seed_6 : decode cX10_seed 6 = .ok (.aload_n 0, 1) := by decide +kernel
theorem dX10_seed_7 : decode cX10_seed 7 = .ok (.getfield 7, 3) := by decide +kernel
theorem dX10_seed_10 : decode cX10_seed 10 = .ok (.bipush 12, 2) := by decide +kernel
theorem dX10_seed_12 : decode cX10_seed 12 = .ok (.iaload, 1) := by decide +kernel
theorem dX10_seed_13 : decode cX10_seed 13 = .ok (.istore_n 2, 1) := by decide +kernel
theorem dX10_seed_14 : decode cX10_seed 14 = .ok (.aload_n 0, 1) := by decide +kernel
theorem dX10_seed_15 : decode cX10_seed 15 = .ok (.getfield 7, 3) := by decide +kernel
theorem dX10_seed_18 : decode cX10_seed 18 = .ok (.bipush 12, 2) := by decide +kernel
theorem dX10_seed_20 : decode cX10_seed 20 = .ok (.iload_n 1, 1) := by decide +kernel
theorem dX10_seed_21 : decode cX10_seed 21 = .ok (.iastore, 1) := by decide +kernel
theorem dX10_seed_22 : decode cX10_seed 22 = .ok (.iload_n 2, 1) := by decide +kernel
theorem dX10_seed_23 : decode cX10_seed 23 = .ok (.ireturn, 1) := by decide +kernel
theorem dX10_mixed_0 : decode cX10_mixed 0 = .ok (.iload_n 1, 1) := by decide +kernel
theorem dX10_mixed_1 : decode cX10_mixed 1 = .ok (.bipush 10, 2) := by decide +kernel
theorem dX10_mixed_3 : decode cX10_mixed 3 = .ok (.aload_n 0, 1) := by decide +kernel
theorem dX10_mixed_4 : decode cX10_mixed 4 = .ok (.getfield 7, 3) := by decide +kernel
theorem dX10_mixed_7 : decode cX10_mixed 7 = .ok (.iconst 4, 1) := by decide +kernel
theorem dX10_mixed_8 : decode cX10_mixed 8 = .ok (.iaload, 1) := by decide +kernel
theorem dX10_mixed_9 : decode cX10_mixed 9 = .ok (.isub, 1) := by decide +kernel
theorem dX10_mixed_10 : decode cX10_mixed 10 = .ok (.aload_n 0, 1) := by decide +kernel
theorem dX10_mixed_11 : decode cX10_mixed 11 = .ok (.getfield 7, 3) := by decide +kernel
theorem dX10_mixed_14 : decode cX10_mixed 14 = .ok (.iconst 5, 1) := by decide +kernel
theorem dX10_mixed_15 : decode cX10_mixed 15 = .ok (.iaload, 1) := by decide +kernel
theorem dX10_mixed_16 : decode cX10_mixed 16 = .ok (.isub, 1) := by decide +kernel
theorem dX10_mixed_17 : decode cX10_mixed 17 = .ok (.imul, 1) := by decide +kernel
theorem dX10_mixed_18 : decode cX10_mixed 18 = .ok (.iload_n 2, 1) := by decide +kernel
theorem dX10_mixed_19 : decode cX10_mixed 19 = .ok (.aload_n 0, 1) := by decide +kernel
theorem dX10_mixed_20 : decode cX10_mixed 20 = .ok (.getfield 7, 3) := by decide +kernel
theorem dX10_mixed_23 : decode cX10_mixed 23 = .ok (.iconst 4, 1) := by decide +kernel
theorem dX10_mixed_24 : decode cX10_mixed 24 = .ok (.iaload, 1) := by decide +kernel
theorem dX10_mixed_25 : decode cX10_mixed 25 = .ok (.imul, 1) := by decide +kernel
theorem dX10_mixed_26 : decode cX10_mixed 26 = .ok (.iadd, 1) := by decide +kernel
theorem dX10_mixed_27 : decode cX10_mixed 27 = .ok (.iload_n 3, 1) := by decide +kernel
theorem dX10_mixed_28 : decode cX10_mixed 28 = .ok (.aload_n 0, 1) := by decide +kernel
theorem dX10_mixed_29 : decode cX10_mixed 29 = .ok (.getfield 7, 3) := by decide +kernel
theorem dX10_mixed_32 : decode cX10_mixed 32 = .ok (.iconst 5, 1) := by decide +kernel
theorem dX10_mixed_33 : decode cX10_mixed 33 = .ok (.iaload, 1) := by decide +kernel
theorem dX10_mixed_34 : decode cX10_mixed 34 = .ok (.imul, 1) := by decide +kernel
theorem dX10_mixed_35 : decode cX10_mixed 35 = .ok (.iadd, 1) := by decide +kernel
theorem dX10_mixed_36 : decode cX10_mixed 36 = .ok (.bipush 10, 2) := by decide +kernel
theorem dX10_mixed_38 : decode cX10_mixed 38 = .ok (.idiv, 1) := by decide +kernel
theorem dX10_mixed_39 : decode cX10_mixed 39 = .ok (.ireturn, 1) := by decide +kernel
theorem dX10_fills_0 : decode cX10_fills 0 = .ok (.iconst 0, 1) := by decide +kernel
theorem dX10_fills_1 : decode cX10_fills 1 = .ok (.istore 6, 2) := by decide +kernel
theorem dX10_fills_3 : decode cX10_fills 3 = .ok (.iload 6, 2) := by decide +kernel
theorem dX10_fills_5 : decode cX10_fills 5 = .ok (.aload_n 0, 1) := by decide +kernel
theorem dX10_fills_6 : decode cX10_fills 6 = .ok (.getfield 7, 3) := by decide +kernel
theorem dX10_fills_9 : decode cX10_fills 9 = .ok (.iconst 2, 1) := by decide +kernel
theorem dX10_fills_10 : decode cX10_fills 10 = .ok (.iaload, 1) := by decide +kernel
theorem dX10_fills_11 : decode cX10_fills 11 = .ok (.if_icmp .gt 44, 3) := by decide +kernel
theorem dX10_fills_14 : decode cX10_fills 14 = .ok (.aload_n 0, 1) := by decide +kernel
theorem dX10_fills_15 : decode cX10_fills 15 = .ok (.getfield 26, 3) := by decide +kernel
theorem dX10_fills_18 : decode cX10_fills 18 = .ok (.sipush 201, 3) := by decide +kernel
theorem dX10_fills_21 : decode cX10_fills 21 = .ok (.aload_n 0, 1) := by decide +kernel
theorem dX10_fills_22 : decode cX10_fills 22 = .ok (.getfield 7, 3) := by decide +kernel
theorem dX10_fills_25 : decode cX10_fills 25 = .ok (.iconst 3, 1) := by decide +kernel
theorem dX10_fills_26 : decode cX10_fills 26 = .ok (.iaload, 1) := by decide +kernel
theorem dX10_fills_27 : decode cX10_fills 27 = .ok (.imul, 1) := by decide +kernel
theorem dX10_fills_28 : decode cX10_fills 28 = .ok (.iload 6, 2) := by decide +kernel
theorem dX10_fills_30 : decode cX10_fills 30 = .ok (.iadd, 1) := by decide +kernel
theorem dX10_fills_31 : decode cX10_fills 31 = .ok (.iload 6, 2) := by decide +kernel
theorem dX10_fills_33 : decode cX10_fills 33 = .ok (.aload_n 0, 1) := by decide +kernel
theorem dX10_fills_34 : decode cX10_fills 34 = .ok (.getfield 7, 3) := by decide +kernel
theorem dX10_fills_37 : decode cX10_fills 37 = .ok (.iconst 2, 1) := by decide +kernel
theorem dX10_fills_38 : decode cX10_fills 38 = .ok (.iaload, 1) := by decide +kernel
theorem dX10_fills_39 : decode cX10_fills 39 = .ok (.if_icmp .ne 8, 3) := by decide +kernel
theorem dX10_fills_42 : decode cX10_fills 42 = .ok (.ldc 176, 2) := by decide +kernel
theorem dX10_fills_44 : decode cX10_fills 44 = .ok (.goto 4, 3) := by decide +kernel
theorem dX10_fills_47 : decode cX10_fills 47 = .ok (.iconst 0, 1) := by decide +kernel
theorem dX10_fills_48 : decode cX10_fills 48 = .ok (.iastore, 1) := by decide +kernel
theorem dX10_fills_49 : decode cX10_fills 49 = .ok (.iinc 6 1, 3) := by decide +kernel
theorem dX10_fills_52 : decode cX10_fills 52 = .ok (.goto (-49), 3) := by decide +kernel
theorem dX10_fills_55 : decode cX10_fills 55 = .ok (.aload_n 0, 1) := by decide +kernel
theorem dX10_fills_56 : decode cX10_fills 56 = .ok (.getfield 7, 3) := by decide +kernel
theorem dX10_fills_59 : decode cX10_fills 59 = .ok (.iconst 3, 1) := by decide +kernel
theorem dX10_fills_60 : decode cX10_fills 60 = .ok (.iaload, 1) := by decide +kernel
theorem dX10_fills_61 : decode cX10_fills 61 = .ok (.iconst 1, 1) := by decide +kernel
theorem dX10_fills_62 : decode cX10_fills 62 = .ok (.isub, 1) := by decide +kernel
theorem dX10_fills_63 : decode cX10_fills 63 = .ok (.istore 6, 2) := by decide +kernel
theorem dX10_fills_65 : decode cX10_fills 65 = .ok (.iload 6, 2) := by decide +kernel
theorem dX10_fills_67 : decode cX10_fills 67 = .ok (.iload_n 1, 1) := by decide +kernel
theorem dX10_fills_68 : decode cX10_fills 68 = .ok (.if_icmp .lt 155, 3) := by decide +kernel
theorem dX10_fills_71 : decode cX10_fills 71 = .ok (.iload 6, 2) := by decide +kernel
theorem dX10_fills_73 : decode cX10_fills 73 = .ok (.iload_n 2, 1) := by decide +kernel
theorem dX10_fills_74 : decode cX10_fills 74 = .ok (.if_icmp .ne 7, 3) := by decide +kernel
theorem dX10_fills_77 : decode cX10_fills 77 = .ok (.iload_n 3, 1) := by decide +kernel
theorem dX10_fills_78 : decode cX10_fills 78 = .ok (.goto 4, 3) := by decide +kernel
theorem dX10_fills_81 : decode cX10_fills 81 = .ok (.iconst 0, 1) := by decide +kernel
theorem dX10_fills_82 : decode cX10_fills 82 = .ok (.iload 6, 2) := by decide +kernel
theorem dX10_fills_84 : decode cX10_fills 84 = .ok (.iload 4, 2) := by decide +kernel
theorem dX10_fills_86 : decode cX10_fills 86 = .ok (.if_icmp .ne 8, 3) := by decide +kernel
theorem dX10_fills_89 : decode cX10_fills 89 = .ok (.iload 5, 2) := by decide +kernel
theorem dX10_fills_91 : decode cX10_fills 91 = .ok (.goto 4, 3) := by decide +kernel
theorem dX10_fills_94 : decode cX10_fills 94 = .ok (.iconst 0, 1) := by decide +kernel
theorem dX10_fills_95 : decode cX10_fills 95 = .ok (.iadd, 1) := by decide +kernel
theorem dX10_fills_96 : decode cX10_fills 96 = .ok (.istore 7, 2) := by decide +kernel
theorem dX10_fills_98 : decode cX10_fills 98 = .ok (.sipush 201, 3) := by decide +kernel
theorem dX10_fills_101 : decode cX10_fills 101 = .ok (.iload 6, 2) := by decide +kernel
theorem dX10_fills_103 : decode cX10_fills 103 = .ok (.iconst 1, 1) := by decide +kernel
theorem dX10_fills_104 : decode cX10_fills 104 = .ok (.iadd, 1) := by decide +kernel
theorem dX10_fills_105 : decode cX10_fills 105 = .ok (.imul, 1) := by decide +kernel
theorem dX10_fills_106 : decode cX10_fills 106 = .ok (.istore 8, 2) := by decide +kernel
theorem dX10_fills_108 : decode cX10_fills 108 = .ok (.iconst 0, 1) := by decide +kernel
theorem dX10_fills_109 : decode cX10_fills 109 = .ok (.istore 9, 2) := by decide +kernel
theorem dX10_fills_111 : decode cX10_fills 111 = .ok (.iload 9, 2) := by decide +kernel
theorem dX10_fills_113 : decode cX10_fills 113 = .ok (.aload_n 0, 1) := by decide +kernel
theorem dX10_fills_114 : decode cX10_fills 114 = .ok (.getfield 7, 3) := by decide +kernel
theorem dX10_fills_117 : decode cX10_fills 117 = .ok (.iconst 2, 1) := by decide +kernel
theorem dX10_fills_118 : decode cX10_fills 118 = .ok (.iaload, 1) := by decide +kernel
theorem dX10_fills_119 : decode cX10_fills 119 = .ok (.if_icmp .ge 78, 3) := by decide +kernel
theorem dX10_fills_122 : decode cX10_fills 122 = .ok (.aload_n 0, 1) := by decide +kernel
theorem dX10_fills_123 : decode cX10_fills 123 = .ok (.getfield 26, 3) := by decide +kernel
theorem dX10_fills_126 : decode cX10_fills 126 = .ok (.sipush 201, 3) := by decide +kernel
theorem dX10_fills_129 : decode cX10_fills 129 = .ok (.iload 6, 2) := by decide +kernel
theorem dX10_fills_131 : decode cX10_fills 131 = .ok (.imul, 1) := by decide +kernel
theorem dX10_fills_132 : decode cX10_fills 132 = .ok (.iload 9, 2) := by decide +kernel
theorem dX10_fills_134 : decode cX10_fills 134 = .ok (.iadd, 1) := by decide +kernel
theorem dX10_fills_135 : decode cX10_fills 135 = .ok (.aload_n 0, 1) := by decide +kernel
theorem dX10_fills_136 : decode cX10_fills 136 = .ok (.aload_n 0, 1) := by decide +kernel
theorem dX10_fills_137 : decode cX10_fills 137 = .ok (.getfield 26, 3) := by decide +kernel
theorem dX10_fills_140 : decode cX10_fills 140 = .ok (.iload 8, 2) := by decide +kernel
theorem dX10_fills_142 : decode cX10_fills 142 = .ok (.aload_n 0, 1) := by decide +kernel
theorem dX10_fills_143 : decode cX10_fills 143 = .ok (.iconst 0, 1) := by decide +kernel
theorem dX10_fills_144 : decode cX10_fills 144 = .ok (.iload 9, 2) := by decide +kernel
theorem dX10_fills_146 : decode cX10_fills 146 = .ok (.iload 7, 2) := by decide +kernel
theorem dX10_fills_148 : decode cX10_fills 148 = .ok (.invokevirtual 137, 3) := by decide +kernel
theorem dX10_fills_151 : decode cX10_fills 151 = .ok (.iadd, 1) := by decide +kernel
theorem dX10_fills_152 : decode cX10_fills 152 = .ok (.iaload, 1) := by decide +kernel
theorem dX10_fills_153 : decode cX10_fills 153 = .ok (.aload_n 0, 1) := by decide +kernel
theorem dX10_fills_154 : decode cX10_fills 154 = .ok (.getfield 26, 3) := by decide +kernel
theorem dX10_fills_157 : decode cX10_fills 157 = .ok (.iload 8, 2) := by decide +kernel
theorem dX10_fills_159 : decode cX10_fills 159 = .ok (.aload_n 0, 1) := by decide +kernel
theorem dX10_fills_160 : decode cX10_fills 160 = .ok (.iconst 1, 1) := by decide +kernel
theorem dX10_fills_161 : decode cX10_fills 161 = .ok (.iload 9, 2) := by decide +kernel
theorem dX10_fills_163 : decode cX10_fills 163 = .ok (.iload 7, 2) := by decide +kernel
theorem dX10_fills_165 : decode cX10_fills 165 = .ok (.invokevirtual 137, 3) := by decide +kernel
theorem dX10_fills_168 : decode cX10_fills 168 = .ok (.iadd, 1) := by decide +kernel
theorem dX10_fills_169 : decode cX10_fills 169 = .ok (.iaload, 1) := by decide +kernel
theorem dX10_fills_170 : decode cX10_fills 170 = .ok (.aload_n 0, 1) := by decide +kernel
theorem dX10_fills_171 : decode cX10_fills 171 = .ok (.getfield 26, 3) := by decide +kernel
theorem dX10_fills_174 : decode cX10_fills 174 = .ok (.iload 8, 2) := by decide +kernel
theorem dX10_fills_176 : decode cX10_fills 176 = .ok (.aload_n 0, 1) := by decide +kernel
theorem dX10_fills_177 : decode cX10_fills 177 = .ok (.iconst 2, 1) := by decide +kernel
theorem dX10_fills_178 : decode cX10_fills 178 = .ok (.iload 9, 2) := by decide +kernel
theorem dX10_fills_180 : decode cX10_fills 180 = .ok (.iload 7, 2) := by decide +kernel
theorem dX10_fills_182 : decode cX10_fills 182 = .ok (.invokevirtual 137, 3) := by decide +kernel
theorem dX10_fills_185 : decode cX10_fills 185 = .ok (.iadd, 1) := by decide +kernel
theorem dX10_fills_186 : decode cX10_fills 186 = .ok (.iaload, 1) := by decide +kernel
theorem dX10_fills_187 : decode cX10_fills 187 = .ok (.invokevirtual 177, 3) := by decide +kernel
theorem dX10_fills_190 : decode cX10_fills 190 = .ok (.iastore, 1) := by decide +kernel
theorem dX10_fills_191 : decode cX10_fills 191 = .ok (.iinc 9 1, 3) := by decide +kernel
theorem dX10_fills_194 : decode cX10_fills 194 = .ok (.goto (-83), 3) := by decide +kernel
theorem dX10_fills_197 : decode cX10_fills 197 = .ok (.aload_n 0, 1) := by decide +kernel
theorem dX10_fills_198 : decode cX10_fills 198 = .ok (.getfield 26, 3) := by decide +kernel
theorem dX10_fills_201 : decode cX10_fills 201 = .ok (.sipush 201, 3) := by decide +kernel
theorem dX10_fills_204 : decode cX10_fills 204 = .ok (.iload 6, 2) := by decide +kernel
theorem dX10_fills_206 : decode cX10_fills 206 = .ok (.imul, 1) := by decide +kernel
theorem dX10_fills_207 : decode cX10_fills 207 = .ok (.aload_n 0, 1) := by decide +kernel
theorem dX10_fills_208 : decode cX10_fills 208 = .ok (.getfield 7, 3) := by decide +kernel
theorem dX10_fills_211 : decode cX10_fills 211 = .ok (.iconst 2, 1) := by decide +kernel
theorem dX10_fills_212 : decode cX10_fills 212 = .ok (.iaload, 1) := by decide +kernel
theorem dX10_fills_213 : decode cX10_fills 213 = .ok (.iadd, 1) := by decide +kernel
theorem dX10_fills_214 : decode cX10_fills 214 = .ok (.ldc 176, 2) := by decide +kernel
theorem dX10_fills_216 : decode cX10_fills 216 = .ok (.iastore, 1) := by decide +kernel
theorem dX10_fills_217 : decode cX10_fills 217 = .ok (.iinc 6 (-1), 3) := by decide +kernel
theorem dX10_fills_220 : decode cX10_fills 220 = .ok (.goto (-155), 3) := by decide +kernel
theorem dX10_fills_223 : decode cX10_fills 223 = .ok (.return_, 1) := by decide +kernel
theorem dX10_oddsBy_0 : decode cX10_oddsBy 0 = .ok (.aload_n 0, 1) := by decide +kernel
theorem dX10_oddsBy_1 : decode cX10_oddsBy 1 = .ok (.aload_n 0, 1) := by decide +kernel
theorem dX10_oddsBy_2 : decode cX10_oddsBy 2 = .ok (.getfield 7, 3) := by decide +kernel
theorem dX10_oddsBy_5 : decode cX10_oddsBy 5 = .ok (.bipush 6, 2) := by decide +kernel
theorem dX10_oddsBy_7 : decode cX10_oddsBy 7 = .ok (.iaload, 1) := by decide +kernel
theorem dX10_oddsBy_8 : decode cX10_oddsBy 8 = .ok (.aload_n 0, 1) := by decide +kernel
theorem dX10_oddsBy_9 : decode cX10_oddsBy 9 = .ok (.getfield 7, 3) := by decide +kernel
theorem dX10_oddsBy_12 : decode cX10_oddsBy 12 = .ok (.bipush 6, 2) := by decide +kernel
theorem dX10_oddsBy_14 : decode cX10_oddsBy 14 = .ok (.iaload, 1) := by decide +kernel
theorem dX10_oddsBy_15 : decode cX10_oddsBy 15 = .ok (.aload_n 0, 1) := by decide +kernel
theorem dX10_oddsBy_16 : decode cX10_oddsBy 16 = .ok (.getfield 7, 3) := by decide +kernel
theorem dX10_oddsBy_19 : decode cX10_oddsBy 19 = .ok (.bipush 9, 2) := by decide +kernel
theorem dX10_oddsBy_21 : decode cX10_oddsBy 21 = .ok (.iaload, 1) := by decide +kernel
theorem dX10_oddsBy_22 : decode cX10_oddsBy 22 = .ok (.iload_n 1, 1) := by decide +kernel
theorem dX10_oddsBy_23 : decode cX10_oddsBy 23 = .ok (.iload_n 2, 1) := by decide +kernel
theorem dX10_oddsBy_24 : decode cX10_oddsBy 24 = .ok (.invokevirtual 180, 3) := by decide +kernel
theorem dX10_oddsBy_27 : decode cX10_oddsBy 27 = .ok (.aload_n 0, 1) := by decide +kernel
theorem dX10_oddsBy_28 : decode cX10_oddsBy 28 = .ok (.getfield 26, 3) := by decide +kernel
theorem dX10_oddsBy_31 : decode cX10_oddsBy 31 = .ok (.sipush 201, 3) := by decide +kernel
theorem dX10_oddsBy_34 : decode cX10_oddsBy 34 = .ok (.aload_n 0, 1) := by decide +kernel
theorem dX10_oddsBy_35 : decode cX10_oddsBy 35 = .ok (.getfield 7, 3) := by decide +kernel
theorem dX10_oddsBy_38 : decode cX10_oddsBy 38 = .ok (.bipush 6, 2) := by decide +kernel
theorem dX10_oddsBy_40 : decode cX10_oddsBy 40 = .ok (.iaload, 1) := by decide +kernel
theorem dX10_oddsBy_41 : decode cX10_oddsBy 41 = .ok (.imul, 1) := by decide +kernel
theorem dX10_oddsBy_42 : decode cX10_oddsBy 42 = .ok (.aload_n 0, 1) := by decide +kernel
theorem dX10_oddsBy_43 : decode cX10_oddsBy 43 = .ok (.getfield 7, 3) := by decide +kernel
theorem dX10_oddsBy_46 : decode cX10_oddsBy 46 = .ok (.bipush 7, 2) := by decide +kernel
theorem dX10_oddsBy_48 : decode cX10_oddsBy 48 = .ok (.iaload, 1) := by decide +kernel
theorem dX10_oddsBy_49 : decode cX10_oddsBy 49 = .ok (.iadd, 1) := by decide +kernel
theorem dX10_oddsBy_50 : decode cX10_oddsBy 50 = .ok (.iaload, 1) := by decide +kernel
theorem dX10_oddsBy_51 : decode cX10_oddsBy 51 = .ok (.ireturn, 1) := by decide +kernel
theorem dX10_odds_0 : decode cX10_odds 0 = .ok (.aload_n 0, 1) := by decide +kernel
theorem dX10_odds_1 : decode cX10_odds 1 = .ok (.iconst (-1), 1) := by decide +kernel
theorem dX10_odds_2 : decode cX10_odds 2 = .ok (.iconst 0, 1) := by decide +kernel
theorem dX10_odds_3 : decode cX10_odds 3 = .ok (.invokevirtual 184, 3) := by decide +kernel
theorem dX10_odds_6 : decode cX10_odds 6 = .ok (.ireturn, 1) := by decide +kernel
theorem dX10_oddsAt_0 : decode cX10_oddsAt 0 = .ok (.iload_n 1, 1) := by decide +kernel
theorem dX10_oddsAt_1 : decode cX10_oddsAt 1 = .ok (.i2l, 1) := by decide +kernel
theorem dX10_oddsAt_2 : decode cX10_oddsAt 2 = .ok (.lconst 0, 1) := by decide +kernel
theorem dX10_oddsAt_3 : decode cX10_oddsAt 3 = .ok (.aload_n 0, 1) := by decide +kernel
theorem dX10_oddsAt_4 : decode cX10_oddsAt 4 = .ok (.getfield 7, 3) := by decide +kernel
theorem dX10_oddsAt_7 : decode cX10_oddsAt 7 = .ok (.iconst 3, 1) := by decide +kernel
theorem dX10_oddsAt_8 : decode cX10_oddsAt 8 = .ok (.iaload, 1) := by decide +kernel
theorem dX10_oddsAt_9 : decode cX10_oddsAt 9 = .ok (.i2l, 1) := by decide +kernel
theorem dX10_oddsAt_10 : decode cX10_oddsAt 10 = .ok (.invokestatic 51, 3) := by decide +kernel
theorem dX10_oddsAt_13 : decode cX10_oddsAt 13 = .ok (.ifCond .eq 19, 3) := by decide +kernel
theorem dX10_oddsAt_16 : decode cX10_oddsAt 16 = .ok (.iload_n 2, 1) := by decide +kernel
theorem dX10_oddsAt_17 : decode cX10_oddsAt 17 = .ok (.i2l, 1) := by decide +kernel
theorem dX10_oddsAt_18 : decode cX10_oddsAt 18 = .ok (.lconst 0, 1) := by decide +kernel
theorem dX10_oddsAt_19 : decode cX10_oddsAt 19 = .ok (.aload_n 0, 1) := by decide +kernel
theorem dX10_oddsAt_20 : decode cX10_oddsAt 20 = .ok (.getfield 7, 3) := by decide +kernel
theorem dX10_oddsAt_23 : decode cX10_oddsAt 23 = .ok (.iconst 2, 1) := by decide +kernel
theorem dX10_oddsAt_24 : decode cX10_oddsAt 24 = .ok (.iaload, 1) := by decide +kernel
theorem dX10_oddsAt_25 : decode cX10_oddsAt 25 = .ok (.i2l, 1) := by decide +kernel
theorem dX10_oddsAt_26 : decode cX10_oddsAt 26 = .ok (.invokestatic 51, 3) := by decide +kernel
theorem dX10_oddsAt_29 : decode cX10_oddsAt 29 = .ok (.ifCond .ne 5, 3) := by decide +kernel
theorem dX10_oddsAt_32 : decode cX10_oddsAt 32 = .ok (.iconst (-1), 1) := by decide +kernel
theorem dX10_oddsAt_33 : decode cX10_oddsAt 33 = .ok (.ireturn, 1) := by decide +kernel
theorem dX10_oddsAt_34 : decode cX10_oddsAt 34 = .ok (.aload_n 0, 1) := by decide +kernel
theorem dX10_oddsAt_35 : decode cX10_oddsAt 35 = .ok (.iload_n 1, 1) := by decide +kernel
theorem dX10_oddsAt_36 : decode cX10_oddsAt 36 = .ok (.iconst (-1), 1) := by decide +kernel
theorem dX10_oddsAt_37 : decode cX10_oddsAt 37 = .ok (.iconst 0, 1) := by decide +kernel
theorem dX10_oddsAt_38 : decode cX10_oddsAt 38 = .ok (.iconst (-1), 1) := by decide +kernel
theorem dX10_oddsAt_39 : decode cX10_oddsAt 39 = .ok (.iconst 0, 1) := by decide +kernel
theorem dX10_oddsAt_40 : decode cX10_oddsAt 40 = .ok (.invokevirtual 180, 3) := by decide +kernel
theorem dX10_oddsAt_43 : decode cX10_oddsAt 43 = .ok (.aload_n 0, 1) := by decide +kernel
theorem dX10_oddsAt_44 : decode cX10_oddsAt 44 = .ok (.getfield 26, 3) := by decide +kernel
theorem dX10_oddsAt_47 : decode cX10_oddsAt 47 = .ok (.sipush 201, 3) := by decide +kernel
theorem dX10_oddsAt_50 : decode cX10_oddsAt 50 = .ok (.iload_n 1, 1) := by decide +kernel
theorem dX10_oddsAt_51 : decode cX10_oddsAt 51 = .ok (.imul, 1) := by decide +kernel
theorem dX10_oddsAt_52 : decode cX10_oddsAt 52 = .ok (.iload_n 2, 1) := by decide +kernel
theorem dX10_oddsAt_53 : decode cX10_oddsAt 53 = .ok (.iadd, 1) := by decide +kernel
theorem dX10_oddsAt_54 : decode cX10_oddsAt 54 = .ok (.iaload, 1) := by decide +kernel
theorem dX10_oddsAt_55 : decode cX10_oddsAt 55 = .ok (.ireturn, 1) := by decide +kernel
theorem dX10_isPart_0 : decode cX10_isPart 0 = .ok (.iload_n 0, 1) := by decide +kernel
theorem dX10_isPart_1 : decode cX10_isPart 1 = .ok (.i2l, 1) := by decide +kernel
theorem dX10_isPart_2 : decode cX10_isPart 2 = .ok (.lconst 0, 1) := by decide +kernel
theorem dX10_isPart_3 : decode cX10_isPart 3 = .ok (.ldc2_w 187, 3) := by decide +kernel
theorem dX10_isPart_6 : decode cX10_isPart 6 = .ok (.invokestatic 51, 3) := by decide +kernel
theorem dX10_isPart_9 : decode cX10_isPart 9 = .ok (.ireturn, 1) := by decide +kernel
theorem dX10_sure_0 : decode cX10_sure 0 = .ok (.iload_n 1, 1) := by decide +kernel
theorem dX10_sure_1 : decode cX10_sure 1 = .ok (.invokestatic 189, 3) := by decide +kernel
theorem dX10_sure_4 : decode cX10_sure 4 = .ok (.ifCond .ne 5, 3) := by decide +kernel
theorem dX10_sure_7 : decode cX10_sure 7 = .ok (.iconst (-1), 1) := by decide +kernel
theorem dX10_sure_8 : decode cX10_sure 8 = .ok (.ireturn, 1) := by decide +kernel
theorem dX10_sure_9 : decode cX10_sure 9 = .ok (.aload_n 0, 1) := by decide +kernel
theorem dX10_sure_10 : decode cX10_sure 10 = .ok (.iconst (-1), 1) := by decide +kernel
theorem dX10_sure_11 : decode cX10_sure 11 = .ok (.iconst 0, 1) := by decide +kernel
theorem dX10_sure_12 : decode cX10_sure 12 = .ok (.invokevirtual 184, 3) := by decide +kernel
theorem dX10_sure_15 : decode cX10_sure 15 = .ok (.pop, 1) := by decide +kernel
theorem dX10_sure_16 : decode cX10_sure 16 = .ok (.aload_n 0, 1) := by decide +kernel
theorem dX10_sure_17 : decode cX10_sure 17 = .ok (.getfield 7, 3) := by decide +kernel
theorem dX10_sure_20 : decode cX10_sure 20 = .ok (.bipush 7, 2) := by decide +kernel
theorem dX10_sure_22 : decode cX10_sure 22 = .ok (.iaload, 1) := by decide +kernel
theorem dX10_sure_23 : decode cX10_sure 23 = .ok (.istore_n 2, 1) := by decide +kernel
theorem dX10_sure_24 : decode cX10_sure 24 = .ok (.aload_n 0, 1) := by decide +kernel
theorem dX10_sure_25 : decode cX10_sure 25 = .ok (.getfield 7, 3) := by decide +kernel
theorem dX10_sure_28 : decode cX10_sure 28 = .ok (.bipush 6, 2) := by decide +kernel
theorem dX10_sure_30 : decode cX10_sure 30 = .ok (.iaload, 1) := by decide +kernel
theorem dX10_sure_31 : decode cX10_sure 31 = .ok (.istore_n 3, 1) := by decide +kernel
theorem dX10_sure_32 : decode cX10_sure 32 = .ok (.iload_n 3, 1) := by decide +kernel
theorem dX10_sure_33 : decode cX10_sure 33 = .ok (.aload_n 0, 1) := by decide +kernel
theorem dX10_sure_34 : decode cX10_sure 34 = .ok (.getfield 7, 3) := by decide +kernel
theorem dX10_sure_37 : decode cX10_sure 37 = .ok (.iconst 3, 1) := by decide +kernel
theorem dX10_sure_38 : decode cX10_sure 38 = .ok (.iaload, 1) := by decide +kernel
theorem dX10_sure_39 : decode cX10_sure 39 = .ok (.if_icmp .gt 56, 3) := by decide +kernel
theorem dX10_sure_42 : decode cX10_sure 42 = .ok (.aload_n 0, 1) := by decide +kernel
theorem dX10_sure_43 : decode cX10_sure 43 = .ok (.getfield 26, 3) := by decide +kernel
theorem dX10_sure_46 : decode cX10_sure 46 = .ok (.sipush 201, 3) := by decide +kernel
theorem dX10_sure_49 : decode cX10_sure 49 = .ok (.iload_n 3, 1) := by decide +kernel
theorem dX10_sure_50 : decode cX10_sure 50 = .ok (.imul, 1) := by decide +kernel
theorem dX10_sure_51 : decode cX10_sure 51 = .ok (.iload_n 2, 1) := by decide +kernel
theorem dX10_sure_52 : decode cX10_sure 52 = .ok (.iadd, 1) := by decide +kernel
theorem dX10_sure_53 : decode cX10_sure 53 = .ok (.iaload, 1) := by decide +kernel
theorem dX10_sure_54 : decode cX10_sure 54 = .ok (.iload_n 1, 1) := by decide +kernel
theorem dX10_sure_55 : decode cX10_sure 55 = .ok (.if_icmp .lt 5, 3) := by decide +kernel
theorem dX10_sure_58 : decode cX10_sure 58 = .ok (.iload_n 3, 1) := by decide +kernel
theorem dX10_sure_59 : decode cX10_sure 59 = .ok (.ireturn, 1) := by decide +kernel
theorem dX10_sure_60 : decode cX10_sure 60 = .ok (.aload_n 0, 1) := by decide +kernel
theorem dX10_sure_61 : decode cX10_sure 61 = .ok (.iconst 0, 1) := by decide +kernel
theorem dX10_sure_62 : decode cX10_sure 62 = .ok (.iload_n 2, 1) := by decide +kernel
theorem dX10_sure_63 : decode cX10_sure 63 = .ok (.iload_n 3, 1) := by decide +kernel
theorem dX10_sure_64 : decode cX10_sure 64 = .ok (.aload_n 0, 1) := by decide +kernel
theorem dX10_sure_65 : decode cX10_sure 65 = .ok (.getfield 7, 3) := by decide +kernel
theorem dX10_sure_68 : decode cX10_sure 68 = .ok (.bipush 6, 2) := by decide +kernel
theorem dX10_sure_70 : decode cX10_sure 70 = .ok (.iaload, 1) := by decide +kernel
theorem dX10_sure_71 : decode cX10_sure 71 = .ok (.if_icmp .ne 13, 3) := by decide +kernel
theorem dX10_sure_74 : decode cX10_sure 74 = .ok (.aload_n 0, 1) := by decide +kernel
theorem dX10_sure_75 : decode cX10_sure 75 = .ok (.getfield 7, 3) := by decide +kernel
theorem dX10_sure_78 : decode cX10_sure 78 = .ok (.bipush 9, 2) := by decide +kernel
theorem dX10_sure_80 : decode cX10_sure 80 = .ok (.iaload, 1) := by decide +kernel
theorem dX10_sure_81 : decode cX10_sure 81 = .ok (.goto 4, 3) := by decide +kernel
theorem dX10_sure_84 : decode cX10_sure 84 = .ok (.iconst 0, 1) := by decide +kernel
theorem dX10_sure_85 : decode cX10_sure 85 = .ok (.invokevirtual 137, 3) := by decide +kernel
theorem dX10_sure_88 : decode cX10_sure 88 = .ok (.istore_n 2, 1) := by decide +kernel
theorem dX10_sure_89 : decode cX10_sure 89 = .ok (.iinc 3 1, 3) := by decide +kernel
theorem dX10_sure_92 : decode cX10_sure 92 = .ok (.goto (-60), 3) := by decide +kernel
theorem dX10_sure_95 : decode cX10_sure 95 = .ok (.bipush (-4), 2) := by decide +kernel
theorem dX10_sure_97 : decode cX10_sure 97 = .ok (.ireturn, 1) := by decide +kernel
theorem dX10_pace_0 : decode cX10_pace 0 = .ok (.aload_n 0, 1) := by decide +kernel
theorem dX10_pace_1 : decode cX10_pace 1 = .ok (.iload_n 1, 1) := by decide +kernel
theorem dX10_pace_2 : decode cX10_pace 2 = .ok (.invokevirtual 75, 3) := by decide +kernel
theorem dX10_pace_5 : decode cX10_pace 5 = .ok (.ifCond .eq 10, 3) := by decide +kernel
theorem dX10_pace_8 : decode cX10_pace 8 = .ok (.iload_n 2, 1) := by decide +kernel
theorem dX10_pace_9 : decode cX10_pace 9 = .ok (.invokestatic 189, 3) := by decide +kernel
theorem dX10_pace_12 : decode cX10_pace 12 = .ok (.ifCond .ne 5, 3) := by decide +kernel
theorem dX10_pace_15 : decode cX10_pace 15 = .ok (.iconst (-1), 1) := by decide +kernel
theorem dX10_pace_16 : decode cX10_pace 16 = .ok (.ireturn, 1) := by decide +kernel
theorem dX10_pace_17 : decode cX10_pace 17 = .ok (.bipush (-4), 2) := by decide +kernel
theorem dX10_pace_19 : decode cX10_pace 19 = .ok (.istore_n 3, 1) := by decide +kernel
theorem dX10_pace_20 : decode cX10_pace 20 = .ok (.iconst 0, 1) := by decide +kernel
theorem dX10_pace_21 : decode cX10_pace 21 = .ok (.istore 4, 2) := by decide +kernel
theorem dX10_pace_23 : decode cX10_pace 23 = .ok (.iload 4, 2) := by decide +kernel
theorem dX10_pace_25 : decode cX10_pace 25 = .ok (.bipush 21, 2) := by decide +kernel
theorem dX10_pace_27 : decode cX10_pace 27 = .ok (.if_icmp .ge 42, 3) := by decide +kernel
theorem dX10_pace_30 : decode cX10_pace 30 = .ok (.iload_n 3, 1) := by decide +kernel
theorem dX10_pace_31 : decode cX10_pace 31 = .ok (.bipush (-4), 2) := by decide +kernel
theorem dX10_pace_33 : decode cX10_pace 33 = .ok (.if_icmp .ne 36, 3) := by decide +kernel
theorem dX10_pace_36 : decode cX10_pace 36 = .ok (.aload_n 0, 1) := by decide +kernel
theorem dX10_pace_37 : decode cX10_pace 37 = .ok (.iload_n 1, 1) := by decide +kernel
theorem dX10_pace_38 : decode cX10_pace 38 = .ok (.putfield 13, 3) := by decide +kernel
theorem dX10_pace_41 : decode cX10_pace 41 = .ok (.aload_n 0, 1) := by decide +kernel
theorem dX10_pace_42 : decode cX10_pace 42 = .ok (.iload 4, 2) := by decide +kernel
theorem dX10_pace_44 : decode cX10_pace 44 = .ok (.putfield 57, 3) := by decide +kernel
theorem dX10_pace_47 : decode cX10_pace 47 = .ok (.aload_n 0, 1) := by decide +kernel
theorem dX10_pace_48 : decode cX10_pace 48 = .ok (.invokevirtual 192, 3) := by decide +kernel
theorem dX10_pace_51 : decode cX10_pace 51 = .ok (.iload_n 2, 1) := by decide +kernel
theorem dX10_pace_52 : decode cX10_pace 52 = .ok (.if_icmp .lt 8, 3) := by decide +kernel
theorem dX10_pace_55 : decode cX10_pace 55 = .ok (.iload 4, 2) := by decide +kernel
theorem dX10_pace_57 : decode cX10_pace 57 = .ok (.goto 5, 3) := by decide +kernel
theorem dX10_pace_60 : decode cX10_pace 60 = .ok (.bipush (-4), 2) := by decide +kernel
theorem dX10_pace_62 : decode cX10_pace 62 = .ok (.istore_n 3, 1) := by decide +kernel
theorem dX10_pace_63 : decode cX10_pace 63 = .ok (.iinc 4 1, 3) := by decide +kernel
theorem dX10_pace_66 : decode cX10_pace 66 = .ok (.goto (-43), 3) := by decide +kernel
theorem dX10_pace_69 : decode cX10_pace 69 = .ok (.aload_n 0, 1) := by decide +kernel
theorem dX10_pace_70 : decode cX10_pace 70 = .ok (.iconst (-1), 1) := by decide +kernel
theorem dX10_pace_71 : decode cX10_pace 71 = .ok (.putfield 13, 3) := by decide +kernel
theorem dX10_pace_74 : decode cX10_pace 74 = .ok (.iload_n 3, 1) := by decide +kernel
theorem dX10_pace_75 : decode cX10_pace 75 = .ok (.ireturn, 1) := by decide +kernel
theorem dX10_many_0 : decode cX10_many 0 = .ok (.iconst 0, 1) := by decide +kernel
theorem dX10_many_1 : decode cX10_many 1 = .ok (.istore_n 1, 1) := by decide +kernel
theorem dX10_many_2 : decode cX10_many 2 = .ok (.iload_n 0, 1) := by decide +kernel
theorem dX10_many_3 : decode cX10_many 3 = .ok (.istore_n 2, 1) := by decide +kernel
theorem dX10_many_4 : decode cX10_many 4 = .ok (.iload_n 2, 1) := by decide +kernel
theorem dX10_many_5 : decode cX10_many 5 = .ok (.ifCond .eq 15, 3) := by decide +kernel
theorem dX10_many_8 : decode cX10_many 8 = .ok (.iinc 1 1, 3) := by decide +kernel
theorem dX10_many_11 : decode cX10_many 11 = .ok (.iload_n 2, 1) := by decide +kernel
theorem dX10_many_12 : decode cX10_many 12 = .ok (.iload_n 2, 1) := by decide +kernel
theorem dX10_many_13 : decode cX10_many 13 = .ok (.iconst 1, 1) := by decide +kernel
theorem dX10_many_14 : decode cX10_many 14 = .ok (.isub, 1) := by decide +kernel
theorem dX10_many_15 : decode cX10_many 15 = .ok (.iand, 1) := by decide +kernel
theorem dX10_many_16 : decode cX10_many 16 = .ok (.istore_n 2, 1) := by decide +kernel
theorem dX10_many_17 : decode cX10_many 17 = .ok (.goto (-13), 3) := by decide +kernel
theorem dX10_many_20 : decode cX10_many 20 = .ok (.iload_n 1, 1) := by decide +kernel
theorem dX10_many_21 : decode cX10_many 21 = .ok (.ireturn, 1) := by decide +kernel
theorem dX10_plan_0 : decode cX10_plan 0 = .ok (.iload_n 1, 1) := by decide +kernel
theorem dX10_plan_1 : decode cX10_plan 1 = .ok (.invokestatic 189, 3) := by decide +kernel
theorem dX10_plan_4 : decode cX10_plan 4 = .ok (.ifCond .eq 13, 3) := by decide +kernel
theorem dX10_plan_7 : decode cX10_plan 7 = .ok (.iload_n 2, 1) := by decide +kernel
theorem dX10_plan_8 : decode cX10_plan 8 = .ok (.i2l, 1) := by decide +kernel
theorem dX10_plan_9 : decode cX10_plan 9 = .ok (.lconst 0, 1) := by decide +kernel
theorem dX10_plan_10 : decode cX10_plan 10 = .ok (.lconst 1, 1) := by decide +kernel
theorem dX10_plan_11 : decode cX10_plan 11 = .ok (.invokestatic 51, 3) := by decide +kernel
theorem dX10_plan_14 : decode cX10_plan 14 = .ok (.ifCond .ne 5, 3) := by decide +kernel
theorem dX10_plan_17 : decode cX10_plan 17 = .ok (.iconst (-1), 1) := by decide +kernel
theorem dX10_plan_18 : decode cX10_plan 18 = .ok (.ireturn, 1) := by decide +kernel
theorem dX10_plan_19 : decode cX10_plan 19 = .ok (.bipush (-4), 2) := by decide +kernel
theorem dX10_plan_21 : decode cX10_plan 21 = .ok (.istore_n 3, 1) := by decide +kernel
theorem dX10_plan_22 : decode cX10_plan 22 = .ok (.iconst 0, 1) := by decide +kernel
theorem dX10_plan_23 : decode cX10_plan 23 = .ok (.istore 4, 2) := by decide +kernel
theorem dX10_plan_25 : decode cX10_plan 25 = .ok (.iload 4, 2) := by decide +kernel
theorem dX10_plan_27 : decode cX10_plan 27 = .ok (.iconst 1, 1) := by decide +kernel
theorem dX10_plan_28 : decode cX10_plan 28 = .ok (.aload_n 0, 1) := by decide +kernel
theorem dX10_plan_29 : decode cX10_plan 29 = .ok (.getfield 7, 3) := by decide +kernel
theorem dX10_plan_32 : decode cX10_plan 32 = .ok (.iconst 1, 1) := by decide +kernel
theorem dX10_plan_33 : decode cX10_plan 33 = .ok (.iaload, 1) := by decide +kernel
theorem dX10_plan_34 : decode cX10_plan 34 = .ok (.ishl, 1) := by decide +kernel
theorem dX10_plan_35 : decode cX10_plan 35 = .ok (.if_icmp .ge 159, 3) := by decide +kernel
theorem dX10_plan_38 : decode cX10_plan 38 = .ok (.iconst 0, 1) := by decide +kernel
theorem dX10_plan_39 : decode cX10_plan 39 = .ok (.istore 5, 2) := by decide +kernel
theorem dX10_plan_41 : decode cX10_plan 41 = .ok (.iload_n 3, 1) := by decide +kernel
theorem dX10_plan_42 : decode cX10_plan 42 = .ok (.bipush (-4), 2) := by decide +kernel
theorem dX10_plan_44 : decode cX10_plan 44 = .ok (.if_icmp .eq 15, 3) := by decide +kernel
theorem dX10_plan_47 : decode cX10_plan 47 = .ok (.iload 4, 2) := by decide +kernel
theorem dX10_plan_49 : decode cX10_plan 49 = .ok (.invokestatic 195, 3) := by decide +kernel
theorem dX10_plan_52 : decode cX10_plan 52 = .ok (.iload_n 3, 1) := by decide +kernel
theorem dX10_plan_53 : decode cX10_plan 53 = .ok (.invokestatic 195, 3) := by decide +kernel
theorem dX10_plan_56 : decode cX10_plan 56 = .ok (.if_icmp .ge 7, 3) := by decide +kernel
theorem dX10_plan_59 : decode cX10_plan 59 = .ok (.iconst 1, 1) := by decide +kernel
theorem dX10_plan_60 : decode cX10_plan 60 = .ok (.goto 4, 3) := by decide +kernel
theorem dX10_plan_63 : decode cX10_plan 63 = .ok (.iconst 0, 1) := by decide +kernel
theorem dX10_plan_64 : decode cX10_plan 64 = .ok (.istore 6, 2) := by decide +kernel
theorem dX10_plan_66 : decode cX10_plan 66 = .ok (.iconst 0, 1) := by decide +kernel
theorem dX10_plan_67 : decode cX10_plan 67 = .ok (.istore 7, 2) := by decide +kernel
theorem dX10_plan_69 : decode cX10_plan 69 = .ok (.iload 7, 2) := by decide +kernel
theorem dX10_plan_71 : decode cX10_plan 71 = .ok (.aload_n 0, 1) := by decide +kernel
theorem dX10_plan_72 : decode cX10_plan 72 = .ok (.getfield 7, 3) := by decide +kernel
theorem dX10_plan_75 : decode cX10_plan 75 = .ok (.iconst 1, 1) := by decide +kernel
theorem dX10_plan_76 : decode cX10_plan 76 = .ok (.iaload, 1) := by decide +kernel
theorem dX10_plan_77 : decode cX10_plan 77 = .ok (.if_icmp .ge 82, 3) := by decide +kernel
theorem dX10_plan_80 : decode cX10_plan 80 = .ok (.iload 4, 2) := by decide +kernel
theorem dX10_plan_82 : decode cX10_plan 82 = .ok (.iload 7, 2) := by decide +kernel
theorem dX10_plan_84 : decode cX10_plan 84 = .ok (.ishr, 1) := by decide +kernel
theorem dX10_plan_85 : decode cX10_plan 85 = .ok (.iconst 1, 1) := by decide +kernel
theorem dX10_plan_86 : decode cX10_plan 86 = .ok (.iand, 1) := by decide +kernel
theorem dX10_plan_87 : decode cX10_plan 87 = .ok (.iconst 1, 1) := by decide +kernel
theorem dX10_plan_88 : decode cX10_plan 88 = .ok (.if_icmp .ne 7, 3) := by decide +kernel
theorem dX10_plan_91 : decode cX10_plan 91 = .ok (.iconst 1, 1) := by decide +kernel
theorem dX10_plan_92 : decode cX10_plan 92 = .ok (.goto 4, 3) := by decide +kernel
theorem dX10_plan_95 : decode cX10_plan 95 = .ok (.iconst 0, 1) := by decide +kernel
theorem dX10_plan_96 : decode cX10_plan 96 = .ok (.istore 8, 2) := by decide +kernel
theorem dX10_plan_98 : decode cX10_plan 98 = .ok (.iload 5, 2) := by decide +kernel
theorem dX10_plan_100 : decode cX10_plan 100 = .ok (.iload 8, 2) := by decide +kernel
theorem dX10_plan_102 : decode cX10_plan 102 = .ok (.ifCond .eq 12, 3) := by decide +kernel
theorem dX10_plan_105 : decode cX10_plan 105 = .ok (.aload_n 0, 1) := by decide +kernel
theorem dX10_plan_106 : decode cX10_plan 106 = .ok (.iload 7, 2) := by decide +kernel
theorem dX10_plan_108 : decode cX10_plan 108 = .ok (.invokevirtual 163, 3) := by decide +kernel
theorem dX10_plan_111 : decode cX10_plan 111 = .ok (.goto 4, 3) := by decide +kernel
theorem dX10_plan_114 : decode cX10_plan 114 = .ok (.iconst 0, 1) := by decide +kernel
theorem dX10_plan_115 : decode cX10_plan 115 = .ok (.iadd, 1) := by decide +kernel
theorem dX10_plan_116 : decode cX10_plan 116 = .ok (.istore 5, 2) := by decide +kernel
theorem dX10_plan_118 : decode cX10_plan 118 = .ok (.iload 6, 2) := by decide +kernel
theorem dX10_plan_120 : decode cX10_plan 120 = .ok (.ifCond .eq 30, 3) := by decide +kernel
theorem dX10_plan_123 : decode cX10_plan 123 = .ok (.iload 8, 2) := by decide +kernel
theorem dX10_plan_125 : decode cX10_plan 125 = .ok (.ifCond .eq 21, 3) := by decide +kernel
theorem dX10_plan_128 : decode cX10_plan 128 = .ok (.aload_n 0, 1) := by decide +kernel
theorem dX10_plan_129 : decode cX10_plan 129 = .ok (.iload 7, 2) := by decide +kernel
theorem dX10_plan_131 : decode cX10_plan 131 = .ok (.invokevirtual 160, 3) := by decide +kernel
theorem dX10_plan_134 : decode cX10_plan 134 = .ok (.ifCond .ne 16, 3) := by decide +kernel
theorem dX10_plan_137 : decode cX10_plan 137 = .ok (.aload_n 0, 1) := by decide +kernel
theorem dX10_plan_138 : decode cX10_plan 138 = .ok (.iload 7, 2) := by decide +kernel
theorem dX10_plan_140 : decode cX10_plan 140 = .ok (.invokevirtual 166, 3) := by decide +kernel
theorem dX10_plan_143 : decode cX10_plan 143 = .ok (.ifCond .ne 7, 3) := by decide +kernel
theorem dX10_plan_146 : decode cX10_plan 146 = .ok (.iconst 1, 1) := by decide +kernel
theorem dX10_plan_147 : decode cX10_plan 147 = .ok (.goto 4, 3) := by decide +kernel
theorem dX10_plan_150 : decode cX10_plan 150 = .ok (.iconst 0, 1) := by decide +kernel
theorem dX10_plan_151 : decode cX10_plan 151 = .ok (.istore 6, 2) := by decide +kernel
theorem dX10_plan_153 : decode cX10_plan 153 = .ok (.iinc 7 1, 3) := by decide +kernel
theorem dX10_plan_156 : decode cX10_plan 156 = .ok (.goto (-87), 3) := by decide +kernel
theorem dX10_plan_159 : decode cX10_plan 159 = .ok (.iload 6, 2) := by decide +kernel
theorem dX10_plan_161 : decode cX10_plan 161 = .ok (.ifCond .eq 25, 3) := by decide +kernel
theorem dX10_plan_164 : decode cX10_plan 164 = .ok (.aload_n 0, 1) := by decide +kernel
theorem dX10_plan_165 : decode cX10_plan 165 = .ok (.aload_n 0, 1) := by decide +kernel
theorem dX10_plan_166 : decode cX10_plan 166 = .ok (.getfield 7, 3) := by decide +kernel
theorem dX10_plan_169 : decode cX10_plan 169 = .ok (.bipush 6, 2) := by decide +kernel
theorem dX10_plan_171 : decode cX10_plan 171 = .ok (.iaload, 1) := by decide +kernel
theorem dX10_plan_172 : decode cX10_plan 172 = .ok (.iload 5, 2) := by decide +kernel
theorem dX10_plan_174 : decode cX10_plan 174 = .ok (.invokevirtual 184, 3) := by decide +kernel
theorem dX10_plan_177 : decode cX10_plan 177 = .ok (.iload_n 1, 1) := by decide +kernel
theorem dX10_plan_178 : decode cX10_plan 178 = .ok (.if_icmp .gt 8, 3) := by decide +kernel
theorem dX10_plan_181 : decode cX10_plan 181 = .ok (.iload 4, 2) := by decide +kernel
theorem dX10_plan_183 : decode cX10_plan 183 = .ok (.goto 4, 3) := by decide +kernel
theorem dX10_plan_186 : decode cX10_plan 186 = .ok (.iload_n 3, 1) := by decide +kernel
theorem dX10_plan_187 : decode cX10_plan 187 = .ok (.istore_n 3, 1) := by decide +kernel
theorem dX10_plan_188 : decode cX10_plan 188 = .ok (.iinc 4 1, 3) := by decide +kernel
theorem dX10_plan_191 : decode cX10_plan 191 = .ok (.goto (-166), 3) := by decide +kernel
theorem dX10_plan_194 : decode cX10_plan 194 = .ok (.iload_n 2, 1) := by decide +kernel
theorem dX10_plan_195 : decode cX10_plan 195 = .ok (.iconst 1, 1) := by decide +kernel
theorem dX10_plan_196 : decode cX10_plan 196 = .ok (.if_icmp .eq 9, 3) := by decide +kernel
theorem dX10_plan_199 : decode cX10_plan 199 = .ok (.iload_n 3, 1) := by decide +kernel
theorem dX10_plan_200 : decode cX10_plan 200 = .ok (.bipush (-4), 2) := by decide +kernel
theorem dX10_plan_202 : decode cX10_plan 202 = .ok (.if_icmp .ne 7, 3) := by decide +kernel
theorem dX10_plan_205 : decode cX10_plan 205 = .ok (.iload_n 3, 1) := by decide +kernel
theorem dX10_plan_206 : decode cX10_plan 206 = .ok (.goto 7, 3) := by decide +kernel
theorem dX10_plan_209 : decode cX10_plan 209 = .ok (.iload_n 3, 1) := by decide +kernel
theorem dX10_plan_210 : decode cX10_plan 210 = .ok (.invokestatic 195, 3) := by decide +kernel
theorem dX10_plan_213 : decode cX10_plan 213 = .ok (.ireturn, 1) := by decide +kernel
theorem dX10_best_0 : decode cX10_best 0 = .ok (.aload_n 0, 1) := by decide +kernel
theorem dX10_best_1 : decode cX10_best 1 = .ok (.iload_n 1, 1) := by decide +kernel
theorem dX10_best_2 : decode cX10_best 2 = .ok (.invokevirtual 157, 3) := by decide +kernel
theorem dX10_best_5 : decode cX10_best 5 = .ok (.ifCond .eq 13, 3) := by decide +kernel
theorem dX10_best_8 : decode cX10_best 8 = .ok (.iload_n 2, 1) := by decide +kernel
theorem dX10_best_9 : decode cX10_best 9 = .ok (.i2l, 1) := by decide +kernel
theorem dX10_best_10 : decode cX10_best 10 = .ok (.lconst 0, 1) := by decide +kernel
theorem dX10_best_11 : decode cX10_best 11 = .ok (.lconst 1, 1) := by decide +kernel
theorem dX10_best_12 : decode cX10_best 12 = .ok (.invokestatic 51, 3) := by decide +kernel
theorem dX10_best_15 : decode cX10_best 15 = .ok (.ifCond .ne 5, 3) := by decide +kernel
theorem dX10_best_18 : decode cX10_best 18 = .ok (.iconst (-1), 1) := by decide +kernel
theorem dX10_best_19 : decode cX10_best 19 = .ok (.ireturn, 1) := by decide +kernel
theorem dX10_best_20 : decode cX10_best 20 = .ok (.aload_n 0, 1) := by decide +kernel
theorem dX10_best_21 : decode cX10_best 21 = .ok (.iload_n 1, 1) := by decide +kernel
theorem dX10_best_22 : decode cX10_best 22 = .ok (.invokevirtual 160, 3) := by decide +kernel
theorem dX10_best_25 : decode cX10_best 25 = .ok (.ifCond .eq 6, 3) := by decide +kernel
theorem dX10_best_28 : decode cX10_best 28 = .ok (.bipush (-2), 2) := by decide +kernel
theorem dX10_best_30 : decode cX10_best 30 = .ok (.ireturn, 1) := by decide +kernel
theorem dX10_best_31 : decode cX10_best 31 = .ok (.bipush (-4), 2) := by decide +kernel
theorem dX10_best_33 : decode cX10_best 33 = .ok (.istore_n 3, 1) := by decide +kernel
theorem dX10_best_34 : decode cX10_best 34 = .ok (.bipush (-4), 2) := by decide +kernel
theorem dX10_best_36 : decode cX10_best 36 = .ok (.istore 4, 2) := by decide +kernel
theorem dX10_best_38 : decode cX10_best 38 = .ok (.aload_n 0, 1) := by decide +kernel
theorem dX10_best_39 : decode cX10_best 39 = .ok (.getfield 7, 3) := by decide +kernel
theorem dX10_best_42 : decode cX10_best 42 = .ok (.bipush 6, 2) := by decide +kernel
theorem dX10_best_44 : decode cX10_best 44 = .ok (.iaload, 1) := by decide +kernel
theorem dX10_best_45 : decode cX10_best 45 = .ok (.istore 5, 2) := by decide +kernel
theorem dX10_best_47 : decode cX10_best 47 = .ok (.iload 5, 2) := by decide +kernel
theorem dX10_best_49 : decode cX10_best 49 = .ok (.aload_n 0, 1) := by decide +kernel
theorem dX10_best_50 : decode cX10_best 50 = .ok (.getfield 7, 3) := by decide +kernel
theorem dX10_best_53 : decode cX10_best 53 = .ok (.iconst 3, 1) := by decide +kernel
theorem dX10_best_54 : decode cX10_best 54 = .ok (.iaload, 1) := by decide +kernel
theorem dX10_best_55 : decode cX10_best 55 = .ok (.if_icmp .ge 68, 3) := by decide +kernel
theorem dX10_best_58 : decode cX10_best 58 = .ok (.aload_n 0, 1) := by decide +kernel
theorem dX10_best_59 : decode cX10_best 59 = .ok (.iload 5, 2) := by decide +kernel
theorem dX10_best_61 : decode cX10_best 61 = .ok (.aload_n 0, 1) := by decide +kernel
theorem dX10_best_62 : decode cX10_best 62 = .ok (.iload_n 1, 1) := by decide +kernel
theorem dX10_best_63 : decode cX10_best 63 = .ok (.invokevirtual 163, 3) := by decide +kernel
theorem dX10_best_66 : decode cX10_best 66 = .ok (.invokevirtual 184, 3) := by decide +kernel
theorem dX10_best_69 : decode cX10_best 69 = .ok (.istore 6, 2) := by decide +kernel
theorem dX10_best_71 : decode cX10_best 71 = .ok (.iload_n 3, 1) := by decide +kernel
theorem dX10_best_72 : decode cX10_best 72 = .ok (.bipush (-4), 2) := by decide +kernel
theorem dX10_best_74 : decode cX10_best 74 = .ok (.if_icmp .eq 10, 3) := by decide +kernel
theorem dX10_best_77 : decode cX10_best 77 = .ok (.iload 6, 2) := by decide +kernel
theorem dX10_best_79 : decode cX10_best 79 = .ok (.iload 4, 2) := by decide +kernel
theorem dX10_best_81 : decode cX10_best 81 = .ok (.if_icmp .ge 7, 3) := by decide +kernel
theorem dX10_best_84 : decode cX10_best 84 = .ok (.iconst 1, 1) := by decide +kernel
theorem dX10_best_85 : decode cX10_best 85 = .ok (.goto 4, 3) := by decide +kernel
theorem dX10_best_88 : decode cX10_best 88 = .ok (.iconst 0, 1) := by decide +kernel
theorem dX10_best_89 : decode cX10_best 89 = .ok (.istore 7, 2) := by decide +kernel
theorem dX10_best_91 : decode cX10_best 91 = .ok (.iload 7, 2) := by decide +kernel
theorem dX10_best_93 : decode cX10_best 93 = .ok (.ifCond .eq 8, 3) := by decide +kernel
theorem dX10_best_96 : decode cX10_best 96 = .ok (.iload 5, 2) := by decide +kernel
theorem dX10_best_98 : decode cX10_best 98 = .ok (.goto 4, 3) := by decide +kernel
theorem dX10_best_101 : decode cX10_best 101 = .ok (.iload_n 3, 1) := by decide +kernel
theorem dX10_best_102 : decode cX10_best 102 = .ok (.istore_n 3, 1) := by decide +kernel
theorem dX10_best_103 : decode cX10_best 103 = .ok (.iload 7, 2) := by decide +kernel
theorem dX10_best_105 : decode cX10_best 105 = .ok (.ifCond .eq 8, 3) := by decide +kernel
theorem dX10_best_108 : decode cX10_best 108 = .ok (.iload 6, 2) := by decide +kernel
theorem dX10_best_110 : decode cX10_best 110 = .ok (.goto 5, 3) := by decide +kernel
theorem dX10_best_113 : decode cX10_best 113 = .ok (.iload 4, 2) := by decide +kernel
theorem dX10_best_115 : decode cX10_best 115 = .ok (.istore 4, 2) := by decide +kernel
theorem dX10_best_117 : decode cX10_best 117 = .ok (.iinc 5 1, 3) := by decide +kernel
theorem dX10_best_120 : decode cX10_best 120 = .ok (.goto (-73), 3) := by decide +kernel
theorem dX10_best_123 : decode cX10_best 123 = .ok (.iload_n 2, 1) := by decide +kernel
theorem dX10_best_124 : decode cX10_best 124 = .ok (.ifCond .ne 7, 3) := by decide +kernel
theorem dX10_best_127 : decode cX10_best 127 = .ok (.iload_n 3, 1) := by decide +kernel
theorem dX10_best_128 : decode cX10_best 128 = .ok (.goto 5, 3) := by decide +kernel
theorem dX10_best_131 : decode cX10_best 131 = .ok (.iload 4, 2) := by decide +kernel
theorem dX10_best_133 : decode cX10_best 133 = .ok (.ireturn, 1) := by decide +kernel
theorem dX10_soonest_0 : decode cX10_soonest 0 = .ok (.iload_n 1, 1) := by decide +kernel
theorem dX10_soonest_1 : decode cX10_soonest 1 = .ok (.invokestatic 140, 3) := by decide +kernel
theorem dX10_soonest_4 : decode cX10_soonest 4 = .ok (.ifCond .ne 5, 3) := by decide +kernel
theorem dX10_soonest_7 : decode cX10_soonest 7 = .ok (.iconst (-1), 1) := by decide +kernel
theorem dX10_soonest_8 : decode cX10_soonest 8 = .ok (.ireturn, 1) := by decide +kernel
theorem dX10_soonest_9 : decode cX10_soonest 9 = .ok (.aload_n 0, 1) := by decide +kernel
theorem dX10_soonest_10 : decode cX10_soonest 10 = .ok (.getfield 7, 3) := by decide +kernel
theorem dX10_soonest_13 : decode cX10_soonest 13 = .ok (.bipush 7, 2) := by decide +kernel
theorem dX10_soonest_15 : decode cX10_soonest 15 = .ok (.iaload, 1) := by decide +kernel
theorem dX10_soonest_16 : decode cX10_soonest 16 = .ok (.istore_n 2, 1) := by decide +kernel
theorem dX10_soonest_17 : decode cX10_soonest 17 = .ok (.iconst 0, 1) := by decide +kernel
theorem dX10_soonest_18 : decode cX10_soonest 18 = .ok (.istore_n 3, 1) := by decide +kernel
theorem dX10_soonest_19 : decode cX10_soonest 19 = .ok (.iload_n 3, 1) := by decide +kernel
theorem dX10_soonest_20 : decode cX10_soonest 20 = .ok (.bipush 100, 2) := by decide +kernel
theorem dX10_soonest_22 : decode cX10_soonest 22 = .ok (.if_icmp .ge 43, 3) := by decide +kernel
theorem dX10_soonest_25 : decode cX10_soonest 25 = .ok (.iload_n 2, 1) := by decide +kernel
theorem dX10_soonest_26 : decode cX10_soonest 26 = .ok (.aload_n 0, 1) := by decide +kernel
theorem dX10_soonest_27 : decode cX10_soonest 27 = .ok (.getfield 7, 3) := by decide +kernel
theorem dX10_soonest_30 : decode cX10_soonest 30 = .ok (.iconst 2, 1) := by decide +kernel
theorem dX10_soonest_31 : decode cX10_soonest 31 = .ok (.iaload, 1) := by decide +kernel
theorem dX10_soonest_32 : decode cX10_soonest 32 = .ok (.if_icmp .ne 5, 3) := by decide +kernel
theorem dX10_soonest_35 : decode cX10_soonest 35 = .ok (.iload_n 3, 1) := by decide +kernel
theorem dX10_soonest_36 : decode cX10_soonest 36 = .ok (.ireturn, 1) := by decide +kernel
theorem dX10_soonest_37 : decode cX10_soonest 37 = .ok (.aload_n 0, 1) := by decide +kernel
theorem dX10_soonest_38 : decode cX10_soonest 38 = .ok (.iload_n 1, 1) := by decide +kernel
theorem dX10_soonest_39 : decode cX10_soonest 39 = .ok (.iload_n 2, 1) := by decide +kernel
theorem dX10_soonest_40 : decode cX10_soonest 40 = .ok (.iload_n 3, 1) := by decide +kernel
theorem dX10_soonest_41 : decode cX10_soonest 41 = .ok (.ifCond .ne 13, 3) := by decide +kernel
theorem dX10_soonest_44 : decode cX10_soonest 44 = .ok (.aload_n 0, 1) := by decide +kernel
theorem dX10_soonest_45 : decode cX10_soonest 45 = .ok (.getfield 7, 3) := by decide +kernel
theorem dX10_soonest_48 : decode cX10_soonest 48 = .ok (.bipush 9, 2) := by decide +kernel
theorem dX10_soonest_50 : decode cX10_soonest 50 = .ok (.iaload, 1) := by decide +kernel
theorem dX10_soonest_51 : decode cX10_soonest 51 = .ok (.goto 4, 3) := by decide +kernel
theorem dX10_soonest_54 : decode cX10_soonest 54 = .ok (.iconst 0, 1) := by decide +kernel
theorem dX10_soonest_55 : decode cX10_soonest 55 = .ok (.invokevirtual 137, 3) := by decide +kernel
theorem dX10_soonest_58 : decode cX10_soonest 58 = .ok (.istore_n 2, 1) := by decide +kernel
theorem dX10_soonest_59 : decode cX10_soonest 59 = .ok (.iinc 3 1, 3) := by decide +kernel
theorem dX10_soonest_62 : decode cX10_soonest 62 = .ok (.goto (-43), 3) := by decide +kernel
theorem dX10_soonest_65 : decode cX10_soonest 65 = .ok (.bipush (-4), 2) := by decide +kernel
theorem dX10_soonest_67 : decode cX10_soonest 67 = .ok (.ireturn, 1) := by decide +kernel
theorem dX10_shares_0 : decode cX10_shares 0 = .ok (.iconst 0, 1) := by decide +kernel
theorem dX10_shares_1 : decode cX10_shares 1 = .ok (.istore_n 2, 1) := by decide +kernel
theorem dX10_shares_2 : decode cX10_shares 2 = .ok (.iload_n 2, 1) := by decide +kernel
theorem dX10_shares_3 : decode cX10_shares 3 = .ok (.sipush 201, 3) := by decide +kernel
theorem dX10_shares_6 : decode cX10_shares 6 = .ok (.if_icmp .ge 16, 3) := by decide +kernel
theorem dX10_shares_9 : decode cX10_shares 9 = .ok (.aload_n 0, 1) := by decide +kernel
theorem dX10_shares_10 : decode cX10_shares 10 = .ok (.getfield 32, 3) := by decide +kernel
theorem dX10_shares_13 : decode cX10_shares 13 = .ok (.iload_n 2, 1) := by decide +kernel
theorem dX10_shares_14 : decode cX10_shares 14 = .ok (.iconst 0, 1) := by decide +kernel
theorem dX10_shares_15 : decode cX10_shares 15 = .ok (.iastore, 1) := by decide +kernel
theorem dX10_shares_16 : decode cX10_shares 16 = .ok (.iinc 2 1, 3) := by decide +kernel
theorem dX10_shares_19 : decode cX10_shares 19 = .ok (.goto (-17), 3) := by decide +kernel
theorem dX10_shares_22 : decode cX10_shares 22 = .ok (.iconst 0, 1) := by decide +kernel
theorem dX10_shares_23 : decode cX10_shares 23 = .ok (.istore_n 2, 1) := by decide +kernel
theorem dX10_shares_24 : decode cX10_shares 24 = .ok (.iload_n 2, 1) := by decide +kernel
theorem dX10_shares_25 : decode cX10_shares 25 = .ok (.aload_n 0, 1) := by decide +kernel
theorem dX10_shares_26 : decode cX10_shares 26 = .ok (.getfield 7, 3) := by decide +kernel
theorem dX10_shares_29 : decode cX10_shares 29 = .ok (.iconst 2, 1) := by decide +kernel
theorem dX10_shares_30 : decode cX10_shares 30 = .ok (.iaload, 1) := by decide +kernel
theorem dX10_shares_31 : decode cX10_shares 31 = .ok (.if_icmp .gt 114, 3) := by decide +kernel
theorem dX10_shares_34 : decode cX10_shares 34 = .ok (.iconst 0, 1) := by decide +kernel
theorem dX10_shares_35 : decode cX10_shares 35 = .ok (.istore_n 3, 1) := by decide +kernel
theorem dX10_shares_36 : decode cX10_shares 36 = .ok (.iload_n 3, 1) := by decide +kernel
theorem dX10_shares_37 : decode cX10_shares 37 = .ok (.iconst 3, 1) := by decide +kernel
theorem dX10_shares_38 : decode cX10_shares 38 = .ok (.if_icmp .ge 101, 3) := by decide +kernel
theorem dX10_shares_41 : decode cX10_shares 41 = .ok (.aload_n 0, 1) := by decide +kernel
theorem dX10_shares_42 : decode cX10_shares 42 = .ok (.getfield 29, 3) := by decide +kernel
theorem dX10_shares_45 : decode cX10_shares 45 = .ok (.iload_n 2, 1) := by decide +kernel
theorem dX10_shares_46 : decode cX10_shares 46 = .ok (.iaload, 1) := by decide +kernel
theorem dX10_shares_47 : decode cX10_shares 47 = .ok (.ifCond .le 92, 3) := by decide +kernel
theorem dX10_shares_50 : decode cX10_shares 50 = .ok (.iload_n 3, 1) := by decide +kernel
theorem dX10_shares_51 : decode cX10_shares 51 = .ok (.ifCond .ne 22, 3) := by decide +kernel
theorem dX10_shares_54 : decode cX10_shares 54 = .ok (.bipush 10, 2) := by decide +kernel
theorem dX10_shares_56 : decode cX10_shares 56 = .ok (.aload_n 0, 1) := by decide +kernel
theorem dX10_shares_57 : decode cX10_shares 57 = .ok (.getfield 7, 3) := by decide +kernel
theorem dX10_shares_60 : decode cX10_shares 60 = .ok (.iconst 4, 1) := by decide +kernel
theorem dX10_shares_61 : decode cX10_shares 61 = .ok (.iaload, 1) := by decide +kernel
theorem dX10_shares_62 : decode cX10_shares 62 = .ok (.isub, 1) := by decide +kernel
theorem dX10_shares_63 : decode cX10_shares 63 = .ok (.aload_n 0, 1) := by decide +kernel
theorem dX10_shares_64 : decode cX10_shares 64 = .ok (.getfield 7, 3) := by decide +kernel
theorem dX10_shares_67 : decode cX10_shares 67 = .ok (.iconst 5, 1) := by decide +kernel
theorem dX10_shares_68 : decode cX10_shares 68 = .ok (.iaload, 1) := by decide +kernel
theorem dX10_shares_69 : decode cX10_shares 69 = .ok (.isub, 1) := by decide +kernel
theorem dX10_shares_70 : decode cX10_shares 70 = .ok (.goto 23, 3) := by decide +kernel
theorem dX10_shares_73 : decode cX10_shares 73 = .ok (.iload_n 3, 1) := by decide +kernel
theorem dX10_shares_74 : decode cX10_shares 74 = .ok (.iconst 1, 1) := by decide +kernel
theorem dX10_shares_75 : decode cX10_shares 75 = .ok (.if_icmp .ne 12, 3) := by decide +kernel
theorem dX10_shares_78 : decode cX10_shares 78 = .ok (.aload_n 0, 1) := by decide +kernel
theorem dX10_shares_79 : decode cX10_shares 79 = .ok (.getfield 7, 3) := by decide +kernel
theorem dX10_shares_82 : decode cX10_shares 82 = .ok (.iconst 4, 1) := by decide +kernel
theorem dX10_shares_83 : decode cX10_shares 83 = .ok (.iaload, 1) := by decide +kernel
theorem dX10_shares_84 : decode cX10_shares 84 = .ok (.goto 9, 3) := by decide +kernel
theorem dX10_shares_87 : decode cX10_shares 87 = .ok (.aload_n 0, 1) := by decide +kernel
theorem dX10_shares_88 : decode cX10_shares 88 = .ok (.getfield 7, 3) := by decide +kernel
theorem dX10_shares_91 : decode cX10_shares 91 = .ok (.iconst 5, 1) := by decide +kernel
theorem dX10_shares_92 : decode cX10_shares 92 = .ok (.iaload, 1) := by decide +kernel
theorem dX10_shares_93 : decode cX10_shares 93 = .ok (.istore 4, 2) := by decide +kernel
theorem dX10_shares_95 : decode cX10_shares 95 = .ok (.aload_n 0, 1) := by decide +kernel
theorem dX10_shares_96 : decode cX10_shares 96 = .ok (.getfield 32, 3) := by decide +kernel
theorem dX10_shares_99 : decode cX10_shares 99 = .ok (.aload_n 0, 1) := by decide +kernel
theorem dX10_shares_100 : decode cX10_shares 100 = .ok (.iload_n 3, 1) := by decide +kernel
theorem dX10_shares_101 : decode cX10_shares 101 = .ok (.iload_n 2, 1) := by decide +kernel
theorem dX10_shares_102 : decode cX10_shares 102 = .ok (.iload_n 1, 1) := by decide +kernel
theorem dX10_shares_103 : decode cX10_shares 103 = .ok (.ifCond .ne 13, 3) := by decide +kernel
theorem dX10_shares_106 : decode cX10_shares 106 = .ok (.aload_n 0, 1) := by decide +kernel
theorem dX10_shares_107 : decode cX10_shares 107 = .ok (.getfield 7, 3) := by decide +kernel
theorem dX10_shares_110 : decode cX10_shares 110 = .ok (.bipush 9, 2) := by decide +kernel
theorem dX10_shares_112 : decode cX10_shares 112 = .ok (.iaload, 1) := by decide +kernel
theorem dX10_shares_113 : decode cX10_shares 113 = .ok (.goto 4, 3) := by decide +kernel
theorem dX10_shares_116 : decode cX10_shares 116 = .ok (.iconst 0, 1) := by decide +kernel
theorem dX10_shares_117 : decode cX10_shares 117 = .ok (.invokevirtual 137, 3) := by decide +kernel
theorem dX10_shares_120 : decode cX10_shares 120 = .ok (.dup2, 1) := by decide +kernel
theorem dX10_shares_121 : decode cX10_shares 121 = .ok (.iaload, 1) := by decide +kernel
theorem dX10_shares_122 : decode cX10_shares 122 = .ok (.aload_n 0, 1) := by decide +kernel
theorem dX10_shares_123 : decode cX10_shares 123 = .ok (.getfield 29, 3) := by decide +kernel
theorem dX10_shares_126 : decode cX10_shares 126 = .ok (.iload_n 2, 1) := by decide +kernel
theorem dX10_shares_127 : decode cX10_shares 127 = .ok (.iaload, 1) := by decide +kernel
theorem dX10_shares_128 : decode cX10_shares 128 = .ok (.iload 4, 2) := by decide +kernel
theorem dX10_shares_130 : decode cX10_shares 130 = .ok (.imul, 1) := by decide +kernel
theorem dX10_shares_131 : decode cX10_shares 131 = .ok (.iadd, 1) := by decide +kernel
theorem dX10_shares_132 : decode cX10_shares 132 = .ok (.iastore, 1) := by decide +kernel
theorem dX10_shares_133 : decode cX10_shares 133 = .ok (.iinc 3 1, 3) := by decide +kernel
theorem dX10_shares_136 : decode cX10_shares 136 = .ok (.goto (-100), 3) := by decide +kernel
theorem dX10_shares_139 : decode cX10_shares 139 = .ok (.iinc 2 1, 3) := by decide +kernel
theorem dX10_shares_142 : decode cX10_shares 142 = .ok (.goto (-118), 3) := by decide +kernel
theorem dX10_shares_145 : decode cX10_shares 145 = .ok (.iconst 0, 1) := by decide +kernel
theorem dX10_shares_146 : decode cX10_shares 146 = .ok (.istore_n 2, 1) := by decide +kernel
theorem dX10_shares_147 : decode cX10_shares 147 = .ok (.iload_n 2, 1) := by decide +kernel
theorem dX10_shares_148 : decode cX10_shares 148 = .ok (.sipush 201, 3) := by decide +kernel
theorem dX10_shares_151 : decode cX10_shares 151 = .ok (.if_icmp .ge 21, 3) := by decide +kernel
theorem dX10_shares_154 : decode cX10_shares 154 = .ok (.aload_n 0, 1) := by decide +kernel
theorem dX10_shares_155 : decode cX10_shares 155 = .ok (.getfield 29, 3) := by decide +kernel
theorem dX10_shares_158 : decode cX10_shares 158 = .ok (.iload_n 2, 1) := by decide +kernel
theorem dX10_shares_159 : decode cX10_shares 159 = .ok (.aload_n 0, 1) := by decide +kernel
theorem dX10_shares_160 : decode cX10_shares 160 = .ok (.getfield 32, 3) := by decide +kernel
theorem dX10_shares_163 : decode cX10_shares 163 = .ok (.iload_n 2, 1) := by decide +kernel
theorem dX10_shares_164 : decode cX10_shares 164 = .ok (.iaload, 1) := by decide +kernel
theorem dX10_shares_165 : decode cX10_shares 165 = .ok (.iastore, 1) := by decide +kernel
theorem dX10_shares_166 : decode cX10_shares 166 = .ok (.iinc 2 1, 3) := by decide +kernel
theorem dX10_shares_169 : decode cX10_shares 169 = .ok (.goto (-22), 3) := by decide +kernel
theorem dX10_shares_172 : decode cX10_shares 172 = .ok (.return_, 1) := by decide +kernel
theorem dX10_mean_0 : decode cX10_mean 0 = .ok (.iload_n 1, 1) := by decide +kernel
theorem dX10_mean_1 : decode cX10_mean 1 = .ok (.i2l, 1) := by decide +kernel
theorem dX10_mean_2 : decode cX10_mean 2 = .ok (.lconst 0, 1) := by decide +kernel
theorem dX10_mean_3 : decode cX10_mean 3 = .ok (.ldc2_w 79, 3) := by decide +kernel
theorem dX10_mean_6 : decode cX10_mean 6 = .ok (.invokestatic 51, 3) := by decide +kernel
theorem dX10_mean_9 : decode cX10_mean 9 = .ok (.ifCond .eq 31, 3) := by decide +kernel
theorem dX10_mean_12 : decode cX10_mean 12 = .ok (.iload_n 1, 1) := by decide +kernel
theorem dX10_mean_13 : decode cX10_mean 13 = .ok (.aload_n 0, 1) := by decide +kernel
theorem dX10_mean_14 : decode cX10_mean 14 = .ok (.getfield 7, 3) := by decide +kernel
theorem dX10_mean_17 : decode cX10_mean 17 = .ok (.iconst 3, 1) := by decide +kernel
theorem dX10_mean_18 : decode cX10_mean 18 = .ok (.iaload, 1) := by decide +kernel
theorem dX10_mean_19 : decode cX10_mean 19 = .ok (.aload_n 0, 1) := by decide +kernel
theorem dX10_mean_20 : decode cX10_mean 20 = .ok (.getfield 7, 3) := by decide +kernel
theorem dX10_mean_23 : decode cX10_mean 23 = .ok (.bipush 6, 2) := by decide +kernel
theorem dX10_mean_25 : decode cX10_mean 25 = .ok (.iaload, 1) := by decide +kernel
theorem dX10_mean_26 : decode cX10_mean 26 = .ok (.isub, 1) := by decide +kernel
theorem dX10_mean_27 : decode cX10_mean 27 = .ok (.if_icmp .gt 13, 3) := by decide +kernel
theorem dX10_mean_30 : decode cX10_mean 30 = .ok (.iload_n 2, 1) := by decide +kernel
theorem dX10_mean_31 : decode cX10_mean 31 = .ok (.i2l, 1) := by decide +kernel
theorem dX10_mean_32 : decode cX10_mean 32 = .ok (.lconst 0, 1) := by decide +kernel
theorem dX10_mean_33 : decode cX10_mean 33 = .ok (.lconst 1, 1) := by decide +kernel
theorem dX10_mean_34 : decode cX10_mean 34 = .ok (.invokestatic 51, 3) := by decide +kernel
theorem dX10_mean_37 : decode cX10_mean 37 = .ok (.ifCond .ne 5, 3) := by decide +kernel
theorem dX10_mean_40 : decode cX10_mean 40 = .ok (.iconst (-1), 1) := by decide +kernel
theorem dX10_mean_41 : decode cX10_mean 41 = .ok (.ireturn, 1) := by decide +kernel
theorem dX10_mean_42 : decode cX10_mean 42 = .ok (.iconst 0, 1) := by decide +kernel
theorem dX10_mean_43 : decode cX10_mean 43 = .ok (.istore_n 3, 1) := by decide +kernel
theorem dX10_mean_44 : decode cX10_mean 44 = .ok (.iload_n 3, 1) := by decide +kernel
theorem dX10_mean_45 : decode cX10_mean 45 = .ok (.sipush 201, 3) := by decide +kernel
theorem dX10_mean_48 : decode cX10_mean 48 = .ok (.if_icmp .ge 31, 3) := by decide +kernel
theorem dX10_mean_51 : decode cX10_mean 51 = .ok (.aload_n 0, 1) := by decide +kernel
theorem dX10_mean_52 : decode cX10_mean 52 = .ok (.getfield 29, 3) := by decide +kernel
theorem dX10_mean_55 : decode cX10_mean 55 = .ok (.iload_n 3, 1) := by decide +kernel
theorem dX10_mean_56 : decode cX10_mean 56 = .ok (.iload_n 3, 1) := by decide +kernel
theorem dX10_mean_57 : decode cX10_mean 57 = .ok (.aload_n 0, 1) := by decide +kernel
theorem dX10_mean_58 : decode cX10_mean 58 = .ok (.getfield 7, 3) := by decide +kernel
theorem dX10_mean_61 : decode cX10_mean 61 = .ok (.bipush 7, 2) := by decide +kernel
theorem dX10_mean_63 : decode cX10_mean 63 = .ok (.iaload, 1) := by decide +kernel
theorem dX10_mean_64 : decode cX10_mean 64 = .ok (.if_icmp .ne 7, 3) := by decide +kernel
theorem dX10_mean_67 : decode cX10_mean 67 = .ok (.iconst 1, 1) := by decide +kernel
theorem dX10_mean_68 : decode cX10_mean 68 = .ok (.goto 4, 3) := by decide +kernel
theorem dX10_mean_71 : decode cX10_mean 71 = .ok (.iconst 0, 1) := by decide +kernel
theorem dX10_mean_72 : decode cX10_mean 72 = .ok (.iastore, 1) := by decide +kernel
theorem dX10_mean_73 : decode cX10_mean 73 = .ok (.iinc 3 1, 3) := by decide +kernel
theorem dX10_mean_76 : decode cX10_mean 76 = .ok (.goto (-32), 3) := by decide +kernel
theorem dX10_mean_79 : decode cX10_mean 79 = .ok (.iconst 1, 1) := by decide +kernel
theorem dX10_mean_80 : decode cX10_mean 80 = .ok (.istore_n 3, 1) := by decide +kernel
theorem dX10_mean_81 : decode cX10_mean 81 = .ok (.iconst 0, 1) := by decide +kernel
theorem dX10_mean_82 : decode cX10_mean 82 = .ok (.istore 4, 2) := by decide +kernel
theorem dX10_mean_84 : decode cX10_mean 84 = .ok (.iload 4, 2) := by decide +kernel
theorem dX10_mean_86 : decode cX10_mean 86 = .ok (.iload_n 1, 1) := by decide +kernel
theorem dX10_mean_87 : decode cX10_mean 87 = .ok (.if_icmp .ge 20, 3) := by decide +kernel
theorem dX10_mean_90 : decode cX10_mean 90 = .ok (.aload_n 0, 1) := by decide +kernel
theorem dX10_mean_91 : decode cX10_mean 91 = .ok (.iload 4, 2) := by decide +kernel
theorem dX10_mean_93 : decode cX10_mean 93 = .ok (.invokevirtual 198, 3) := by decide +kernel
theorem dX10_mean_96 : decode cX10_mean 96 = .ok (.iload_n 3, 1) := by decide +kernel
theorem dX10_mean_97 : decode cX10_mean 97 = .ok (.bipush 10, 2) := by decide +kernel
theorem dX10_mean_99 : decode cX10_mean 99 = .ok (.imul, 1) := by decide +kernel
theorem dX10_mean_100 : decode cX10_mean 100 = .ok (.istore_n 3, 1) := by decide +kernel
theorem dX10_mean_101 : decode cX10_mean 101 = .ok (.iinc 4 1, 3) := by decide +kernel
theorem dX10_mean_104 : decode cX10_mean 104 = .ok (.goto (-20), 3) := by decide +kernel
theorem dX10_mean_107 : decode cX10_mean 107 = .ok (.iconst 0, 1) := by decide +kernel
theorem dX10_mean_108 : decode cX10_mean 108 = .ok (.istore 4, 2) := by decide +kernel
theorem dX10_mean_110 : decode cX10_mean 110 = .ok (.iconst 0, 1) := by decide +kernel
theorem dX10_mean_111 : decode cX10_mean 111 = .ok (.istore 5, 2) := by decide +kernel
theorem dX10_mean_113 : decode cX10_mean 113 = .ok (.iload 5, 2) := by decide +kernel
theorem dX10_mean_115 : decode cX10_mean 115 = .ok (.sipush 201, 3) := by decide +kernel
theorem dX10_mean_118 : decode cX10_mean 118 = .ok (.if_icmp .ge 24, 3) := by decide +kernel
theorem dX10_mean_121 : decode cX10_mean 121 = .ok (.iload 4, 2) := by decide +kernel
theorem dX10_mean_123 : decode cX10_mean 123 = .ok (.iload 5, 2) := by decide +kernel
theorem dX10_mean_125 : decode cX10_mean 125 = .ok (.aload_n 0, 1) := by decide +kernel
theorem dX10_mean_126 : decode cX10_mean 126 = .ok (.getfield 29, 3) := by decide +kernel
theorem dX10_mean_129 : decode cX10_mean 129 = .ok (.iload 5, 2) := by decide +kernel
theorem dX10_mean_131 : decode cX10_mean 131 = .ok (.iaload, 1) := by decide +kernel
theorem dX10_mean_132 : decode cX10_mean 132 = .ok (.imul, 1) := by decide +kernel
theorem dX10_mean_133 : decode cX10_mean 133 = .ok (.iadd, 1) := by decide +kernel
theorem dX10_mean_134 : decode cX10_mean 134 = .ok (.istore 4, 2) := by decide +kernel
theorem dX10_mean_136 : decode cX10_mean 136 = .ok (.iinc 5 1, 3) := by decide +kernel
theorem dX10_mean_139 : decode cX10_mean 139 = .ok (.goto (-26), 3) := by decide +kernel
theorem dX10_mean_142 : decode cX10_mean 142 = .ok (.iload 4, 2) := by decide +kernel
theorem dX10_mean_144 : decode cX10_mean 144 = .ok (.istore 5, 2) := by decide +kernel
theorem dX10_mean_146 : decode cX10_mean 146 = .ok (.iload_n 3, 1) := by decide +kernel
theorem dX10_mean_147 : decode cX10_mean 147 = .ok (.istore 6, 2) := by decide +kernel
theorem dX10_mean_149 : decode cX10_mean 149 = .ok (.iload 6, 2) := by decide +kernel
theorem dX10_mean_151 : decode cX10_mean 151 = .ok (.ifCond .eq 21, 3) := by decide +kernel
theorem dX10_mean_154 : decode cX10_mean 154 = .ok (.iload 5, 2) := by decide +kernel
theorem dX10_mean_156 : decode cX10_mean 156 = .ok (.iload 6, 2) := by decide +kernel
theorem dX10_mean_158 : decode cX10_mean 158 = .ok (.irem, 1) := by decide +kernel
theorem dX10_mean_159 : decode cX10_mean 159 = .ok (.istore 7, 2) := by decide +kernel
theorem dX10_mean_161 : decode cX10_mean 161 = .ok (.iload 6, 2) := by decide +kernel
theorem dX10_mean_163 : decode cX10_mean 163 = .ok (.istore 5, 2) := by decide +kernel
theorem dX10_mean_165 : decode cX10_mean 165 = .ok (.iload 7, 2) := by decide +kernel
theorem dX10_mean_167 : decode cX10_mean 167 = .ok (.istore 6, 2) := by decide +kernel
theorem dX10_mean_169 : decode cX10_mean 169 = .ok (.goto (-20), 3) := by decide +kernel
theorem dX10_mean_172 : decode cX10_mean 172 = .ok (.iload_n 2, 1) := by decide +kernel
theorem dX10_mean_173 : decode cX10_mean 173 = .ok (.ifCond .ne 11, 3) := by decide +kernel
theorem dX10_mean_176 : decode cX10_mean 176 = .ok (.iload 4, 2) := by decide +kernel
theorem dX10_mean_178 : decode cX10_mean 178 = .ok (.iload 5, 2) := by decide +kernel
theorem dX10_mean_180 : decode cX10_mean 180 = .ok (.idiv, 1) := by decide +kernel
theorem dX10_mean_181 : decode cX10_mean 181 = .ok (.goto 7, 3) := by decide +kernel
theorem dX10_mean_184 : decode cX10_mean 184 = .ok (.iload_n 3, 1) := by decide +kernel
theorem dX10_mean_185 : decode cX10_mean 185 = .ok (.iload 5, 2) := by decide +kernel
theorem dX10_mean_187 : decode cX10_mean 187 = .ok (.idiv, 1) := by decide +kernel
theorem dX10_mean_188 : decode cX10_mean 188 = .ok (.ireturn, 1) := by decide +kernel
theorem dX10_image_0 : decode cX10_image 0 = .ok (.iconst 0, 1) := by decide +kernel
theorem dX10_image_1 : decode cX10_image 1 = .ok (.istore_n 1, 1) := by decide +kernel
theorem dX10_image_2 : decode cX10_image 2 = .ok (.iload_n 1, 1) := by decide +kernel
theorem dX10_image_3 : decode cX10_image 3 = .ok (.bipush 37, 2) := by decide +kernel
theorem dX10_image_5 : decode cX10_image 5 = .ok (.if_icmp .ge 21, 3) := by decide +kernel
theorem dX10_image_8 : decode cX10_image 8 = .ok (.aload_n 0, 1) := by decide +kernel
theorem dX10_image_9 : decode cX10_image 9 = .ok (.getfield 35, 3) := by decide +kernel
theorem dX10_image_12 : decode cX10_image 12 = .ok (.iload_n 1, 1) := by decide +kernel
theorem dX10_image_13 : decode cX10_image 13 = .ok (.aload_n 0, 1) := by decide +kernel
theorem dX10_image_14 : decode cX10_image 14 = .ok (.getfield 7, 3) := by decide +kernel
theorem dX10_image_17 : decode cX10_image 17 = .ok (.iload_n 1, 1) := by decide +kernel
theorem dX10_image_18 : decode cX10_image 18 = .ok (.iaload, 1) := by decide +kernel
theorem dX10_image_19 : decode cX10_image 19 = .ok (.iastore, 1) := by decide +kernel
theorem dX10_image_20 : decode cX10_image 20 = .ok (.iinc 1 1, 3) := by decide +kernel
theorem dX10_image_23 : decode cX10_image 23 = .ok (.goto (-21), 3) := by decide +kernel
theorem dX10_image_26 : decode cX10_image 26 = .ok (.iconst 0, 1) := by decide +kernel
theorem dX10_image_27 : decode cX10_image 27 = .ok (.istore_n 1, 1) := by decide +kernel
theorem dX10_image_28 : decode cX10_image 28 = .ok (.iload_n 1, 1) := by decide +kernel
theorem dX10_image_29 : decode cX10_image 29 = .ok (.bipush 48, 2) := by decide +kernel
theorem dX10_image_31 : decode cX10_image 31 = .ok (.if_icmp .ge 24, 3) := by decide +kernel
theorem dX10_image_34 : decode cX10_image 34 = .ok (.aload_n 0, 1) := by decide +kernel
theorem dX10_image_35 : decode cX10_image 35 = .ok (.getfield 35, 3) := by decide +kernel
theorem dX10_image_38 : decode cX10_image 38 = .ok (.bipush 37, 2) := by decide +kernel
theorem dX10_image_40 : decode cX10_image 40 = .ok (.iload_n 1, 1) := by decide +kernel
theorem dX10_image_41 : decode cX10_image 41 = .ok (.iadd, 1) := by decide +kernel
theorem dX10_image_42 : decode cX10_image 42 = .ok (.aload_n 0, 1) := by decide +kernel
theorem dX10_image_43 : decode cX10_image 43 = .ok (.getfield 23, 3) := by decide +kernel
theorem dX10_image_46 : decode cX10_image 46 = .ok (.iload_n 1, 1) := by decide +kernel
theorem dX10_image_47 : decode cX10_image 47 = .ok (.iaload, 1) := by decide +kernel
theorem dX10_image_48 : decode cX10_image 48 = .ok (.iastore, 1) := by decide +kernel
theorem dX10_image_49 : decode cX10_image 49 = .ok (.iinc 1 1, 3) := by decide +kernel
theorem dX10_image_52 : decode cX10_image 52 = .ok (.goto (-24), 3) := by decide +kernel
theorem dX10_image_55 : decode cX10_image 55 = .ok (.aload_n 0, 1) := by decide +kernel
theorem dX10_image_56 : decode cX10_image 56 = .ok (.aload_n 0, 1) := by decide +kernel
theorem dX10_image_57 : decode cX10_image 57 = .ok (.getfield 72, 3) := by decide +kernel
theorem dX10_image_60 : decode cX10_image 60 = .ok (.putfield 201, 3) := by decide +kernel
theorem dX10_image_63 : decode cX10_image 63 = .ok (.aload_n 0, 1) := by decide +kernel
theorem dX10_image_64 : decode cX10_image 64 = .ok (.iconst 1, 1) := by decide +kernel
theorem dX10_image_65 : decode cX10_image 65 = .ok (.putfield 204, 3) := by decide +kernel
theorem dX10_image_68 : decode cX10_image 68 = .ok (.iconst 1, 1) := by decide +kernel
theorem dX10_image_69 : decode cX10_image 69 = .ok (.ireturn, 1) := by decide +kernel
theorem dX10_restore_0 : decode cX10_restore 0 = .ok (.aload_n 0, 1) := by decide +kernel
theorem dX10_restore_1 : decode cX10_restore 1 = .ok (.getfield 204, 3) := by decide +kernel
theorem dX10_restore_4 : decode cX10_restore 4 = .ok (.ifCond .ne 6, 3) := by decide +kernel
theorem dX10_restore_7 : decode cX10_restore 7 = .ok (.bipush (-4), 2) := by decide +kernel
theorem dX10_restore_9 : decode cX10_restore 9 = .ok (.ireturn, 1) := by decide +kernel
theorem dX10_restore_10 : decode cX10_restore 10 = .ok (.iconst 0, 1) := by decide +kernel
theorem dX10_restore_11 : decode cX10_restore 11 = .ok (.istore_n 1, 1) := by decide +kernel
theorem dX10_restore_12 : decode cX10_restore 12 = .ok (.iload_n 1, 1) := by decide +kernel
theorem dX10_restore_13 : decode cX10_restore 13 = .ok (.bipush 37, 2) := by decide +kernel
theorem dX10_restore_15 : decode cX10_restore 15 = .ok (.if_icmp .ge 21, 3) := by decide +kernel
theorem dX10_restore_18 : decode cX10_restore 18 = .ok (.aload_n 0, 1) := by decide +kernel
theorem dX10_restore_19 : decode cX10_restore 19 = .ok (.getfield 7, 3) := by decide +kernel
theorem dX10_restore_22 : decode cX10_restore 22 = .ok (.iload_n 1, 1) := by decide +kernel
theorem dX10_restore_23 : decode cX10_restore 23 = .ok (.aload_n 0, 1) := by decide +kernel
theorem dX10_restore_24 : decode cX10_restore 24 = .ok (.getfield 35, 3) := by decide +kernel
theorem dX10_restore_27 : decode cX10_restore 27 = .ok (.iload_n 1, 1) := by decide +kernel
theorem dX10_restore_28 : decode cX10_restore 28 = .ok (.iaload, 1) := by decide +kernel
theorem dX10_restore_29 : decode cX10_restore 29 = .ok (.iastore, 1) := by decide +kernel
theorem dX10_restore_30 : decode cX10_restore 30 = .ok (.iinc 1 1, 3) := by decide +kernel
theorem dX10_restore_33 : decode cX10_restore 33 = .ok (.goto (-21), 3) := by decide +kernel
theorem dX10_restore_36 : decode cX10_restore 36 = .ok (.iconst 0, 1) := by decide +kernel
theorem dX10_restore_37 : decode cX10_restore 37 = .ok (.istore_n 1, 1) := by decide +kernel
theorem dX10_restore_38 : decode cX10_restore 38 = .ok (.iload_n 1, 1) := by decide +kernel
theorem dX10_restore_39 : decode cX10_restore 39 = .ok (.bipush 48, 2) := by decide +kernel
theorem dX10_restore_41 : decode cX10_restore 41 = .ok (.if_icmp .ge 24, 3) := by decide +kernel
theorem dX10_restore_44 : decode cX10_restore 44 = .ok (.aload_n 0, 1) := by decide +kernel
theorem dX10_restore_45 : decode cX10_restore 45 = .ok (.getfield 23, 3) := by decide +kernel
theorem dX10_restore_48 : decode cX10_restore 48 = .ok (.iload_n 1, 1) := by decide +kernel
theorem dX10_restore_49 : decode cX10_restore 49 = .ok (.aload_n 0, 1) := by decide +kernel
theorem dX10_restore_50 : decode cX10_restore 50 = .ok (.getfield 35, 3) := by decide +kernel
theorem dX10_restore_53 : decode cX10_restore 53 = .ok (.bipush 37, 2) := by decide +kernel
theorem dX10_restore_55 : decode cX10_restore 55 = .ok (.iload_n 1, 1) := by decide +kernel
theorem dX10_restore_56 : decode cX10_restore 56 = .ok (.iadd, 1) := by decide +kernel
theorem dX10_restore_57 : decode cX10_restore 57 = .ok (.iaload, 1) := by decide +kernel
theorem dX10_restore_58 : decode cX10_restore 58 = .ok (.iastore, 1) := by decide +kernel
theorem dX10_restore_59 : decode cX10_restore 59 = .ok (.iinc 1 1, 3) := by decide +kernel
theorem dX10_restore_62 : decode cX10_restore 62 = .ok (.goto (-24), 3) := by decide +kernel
theorem dX10_restore_65 : decode cX10_restore 65 = .ok (.aload_n 0, 1) := by decide +kernel
theorem dX10_restore_66 : decode cX10_restore 66 = .ok (.aload_n 0, 1) := by decide +kernel
theorem dX10_restore_67 : decode cX10_restore 67 = .ok (.getfield 201, 3) := by decide +kernel
theorem dX10_restore_70 : decode cX10_restore 70 = .ok (.putfield 72, 3) := by decide +kernel
theorem dX10_restore_73 : decode cX10_restore 73 = .ok (.iconst 1, 1) := by decide +kernel
theorem dX10_restore_74 : decode cX10_restore 74 = .ok (.ireturn, 1) := by decide +kernel
theorem dX10_isSheet_0 : decode cX10_isSheet 0 = .ok (.iload_n 0, 1) := by decide +kernel
theorem dX10_isSheet_1 : decode cX10_isSheet 1 = .ok (.i2l, 1) := by decide +kernel
theorem dX10_isSheet_2 : decode cX10_isSheet 2 = .ok (.lconst 0, 1) := by decide +kernel
theorem dX10_isSheet_3 : decode cX10_isSheet 3 = .ok (.ldc2_w 87, 3) := by decide +kernel
theorem dX10_isSheet_6 : decode cX10_isSheet 6 = .ok (.invokestatic 51, 3) := by decide +kernel
theorem dX10_isSheet_9 : decode cX10_isSheet 9 = .ok (.ireturn, 1) := by decide +kernel
theorem dX10_isLane_0 : decode cX10_isLane 0 = .ok (.iload_n 0, 1) := by decide +kernel
theorem dX10_isLane_1 : decode cX10_isLane 1 = .ok (.i2l, 1) := by decide +kernel
theorem dX10_isLane_2 : decode cX10_isLane 2 = .ok (.lconst 0, 1) := by decide +kernel
theorem dX10_isLane_3 : decode cX10_isLane 3 = .ok (.ldc2_w 87, 3) := by decide +kernel
theorem dX10_isLane_6 : decode cX10_isLane 6 = .ok (.invokestatic 51, 3) := by decide +kernel
theorem dX10_isLane_9 : decode cX10_isLane 9 = .ok (.ireturn, 1) := by decide +kernel
theorem dX10_why_0 : decode cX10_why 0 = .ok (.aload_n 0, 1) := by decide +kernel
theorem dX10_why_1 : decode cX10_why 1 = .ok (.getfield 38, 3) := by decide +kernel
theorem dX10_why_4 : decode cX10_why 4 = .ok (.iload_n 1, 1) := by decide +kernel
theorem dX10_why_5 : decode cX10_why 5 = .ok (.iaload, 1) := by decide +kernel
theorem dX10_why_6 : decode cX10_why 6 = .ok (.ifCond .ge 6, 3) := by decide +kernel
theorem dX10_why_9 : decode cX10_why 9 = .ok (.bipush (-11), 2) := by decide +kernel
theorem dX10_why_11 : decode cX10_why 11 = .ok (.ireturn, 1) := by decide +kernel
theorem dX10_why_12 : decode cX10_why 12 = .ok (.aload_n 0, 1) := by decide +kernel
theorem dX10_why_13 : decode cX10_why 13 = .ok (.getfield 38, 3) := by decide +kernel
theorem dX10_why_16 : decode cX10_why 16 = .ok (.iload_n 1, 1) := by decide +kernel
theorem dX10_why_17 : decode cX10_why 17 = .ok (.iaload, 1) := by decide +kernel
theorem dX10_why_18 : decode cX10_why 18 = .ok (.iload_n 2, 1) := by decide +kernel
theorem dX10_why_19 : decode cX10_why 19 = .ok (.if_icmp .eq 6, 3) := by decide +kernel
theorem dX10_why_22 : decode cX10_why 22 = .ok (.bipush (-12), 2) := by decide +kernel
theorem dX10_why_24 : decode cX10_why 24 = .ok (.ireturn, 1) := by decide +kernel
theorem dX10_why_25 : decode cX10_why 25 = .ok (.iload_n 3, 1) := by decide +kernel
theorem dX10_why_26 : decode cX10_why 26 = .ok (.ifCond .lt 25, 3) := by decide +kernel
theorem dX10_why_29 : decode cX10_why 29 = .ok (.iload 4, 2) := by decide +kernel
theorem dX10_why_31 : decode cX10_why 31 = .ok (.ifCond .lt 20, 3) := by decide +kernel
theorem dX10_why_34 : decode cX10_why 34 = .ok (.iload_n 3, 1) := by decide +kernel
theorem dX10_why_35 : decode cX10_why 35 = .ok (.i2l, 1) := by decide +kernel
theorem dX10_why_36 : decode cX10_why 36 = .ok (.iload 4, 2) := by decide +kernel
theorem dX10_why_38 : decode cX10_why 38 = .ok (.i2l, 1) := by decide +kernel
theorem dX10_why_39 : decode cX10_why 39 = .ok (.ladd, 1) := by decide +kernel
theorem dX10_why_40 : decode cX10_why 40 = .ok (.aload_n 0, 1) := by decide +kernel
theorem dX10_why_41 : decode cX10_why 41 = .ok (.getfield 41, 3) := by decide +kernel
theorem dX10_why_44 : decode cX10_why 44 = .ok (.iload_n 1, 1) := by decide +kernel
theorem dX10_why_45 : decode cX10_why 45 = .ok (.iaload, 1) := by decide +kernel
theorem dX10_why_46 : decode cX10_why 46 = .ok (.i2l, 1) := by decide +kernel
theorem dX10_why_47 : decode cX10_why 47 = .ok (.lcmp, 1) := by decide +kernel
theorem dX10_why_48 : decode cX10_why 48 = .ok (.ifCond .le 8, 3) := by decide +kernel
theorem dX10_why_51 : decode cX10_why 51 = .ok (.bipush (-13), 2) := by decide +kernel
theorem dX10_why_53 : decode cX10_why 53 = .ok (.goto 4, 3) := by decide +kernel
theorem dX10_why_56 : decode cX10_why 56 = .ok (.iconst 0, 1) := by decide +kernel
theorem dX10_why_57 : decode cX10_why 57 = .ok (.ireturn, 1) := by decide +kernel
theorem dX10_weather_0 : decode cX10_weather 0 = .ok (.iload_n 1, 1) := by decide +kernel
theorem dX10_weather_1 : decode cX10_weather 1 = .ok (.invokestatic 207, 3) := by decide +kernel
theorem dX10_weather_4 : decode cX10_weather 4 = .ok (.ifCond .eq 40, 3) := by decide +kernel
theorem dX10_weather_7 : decode cX10_weather 7 = .ok (.iload_n 2, 1) := by decide +kernel
theorem dX10_weather_8 : decode cX10_weather 8 = .ok (.invokestatic 210, 3) := by decide +kernel
theorem dX10_weather_11 : decode cX10_weather 11 = .ok (.ifCond .eq 33, 3) := by decide +kernel
theorem dX10_weather_14 : decode cX10_weather 14 = .ok (.iload 4, 2) := by decide +kernel
theorem dX10_weather_16 : decode cX10_weather 16 = .ok (.i2l, 1) := by decide +kernel
theorem dX10_weather_17 : decode cX10_weather 17 = .ok (.lconst 1, 1) := by decide +kernel
theorem dX10_weather_18 : decode cX10_weather 18 = .ok (.ldc2_w 213, 3) := by decide +kernel
theorem dX10_weather_21 : decode cX10_weather 21 = .ok (.invokestatic 51, 3) := by decide +kernel
theorem dX10_weather_24 : decode cX10_weather 24 = .ok (.ifCond .eq 20, 3) := by decide +kernel
theorem dX10_weather_27 : decode cX10_weather 27 = .ok (.iload 5, 2) := by decide +kernel
theorem dX10_weather_29 : decode cX10_weather 29 = .ok (.i2l, 1) := by decide +kernel
theorem dX10_weather_30 : decode cX10_weather 30 = .ok (.ldc2_w 215, 3) := by decide +kernel
theorem dX10_weather_33 : decode cX10_weather 33 = .ok (.iload 4, 2) := by decide +kernel
theorem dX10_weather_35 : decode cX10_weather 35 = .ok (.iconst 1, 1) := by decide +kernel
theorem dX10_weather_36 : decode cX10_weather 36 = .ok (.isub, 1) := by decide +kernel
theorem dX10_weather_37 : decode cX10_weather 37 = .ok (.i2l, 1) := by decide +kernel
theorem dX10_weather_38 : decode cX10_weather 38 = .ok (.invokestatic 51, 3) := by decide +kernel
theorem dX10_weather_41 : decode cX10_weather 41 = .ok (.ifCond .ne 5, 3) := by decide +kernel
theorem dX10_weather_44 : decode cX10_weather 44 = .ok (.iconst (-1), 1) := by decide +kernel
theorem dX10_weather_45 : decode cX10_weather 45 = .ok (.ireturn, 1) := by decide +kernel
theorem dX10_weather_46 : decode cX10_weather 46 = .ok (.aload_n 0, 1) := by decide +kernel
theorem dX10_weather_47 : decode cX10_weather 47 = .ok (.iload_n 1, 1) := by decide +kernel
theorem dX10_weather_48 : decode cX10_weather 48 = .ok (.iload_n 2, 1) := by decide +kernel
theorem dX10_weather_49 : decode cX10_weather 49 = .ok (.iload_n 3, 1) := by decide +kernel
theorem dX10_weather_50 : decode cX10_weather 50 = .ok (.iload 4, 2) := by decide +kernel
theorem dX10_weather_52 : decode cX10_weather 52 = .ok (.invokevirtual 217, 3) := by decide +kernel
theorem dX10_weather_55 : decode cX10_weather 55 = .ok (.istore 6, 2) := by decide +kernel
theorem dX10_weather_57 : decode cX10_weather 57 = .ok (.iload 6, 2) := by decide +kernel
theorem dX10_weather_59 : decode cX10_weather 59 = .ok (.ifCond .ge 6, 3) := by decide +kernel
theorem dX10_weather_62 : decode cX10_weather 62 = .ok (.iload 6, 2) := by decide +kernel
theorem dX10_weather_64 : decode cX10_weather 64 = .ok (.ireturn, 1) := by decide +kernel
theorem dX10_weather_65 : decode cX10_weather 65 = .ok (.iload 4, 2) := by decide +kernel
theorem dX10_weather_67 : decode cX10_weather 67 = .ok (.aload_n 0, 1) := by decide +kernel
theorem dX10_weather_68 : decode cX10_weather 68 = .ok (.getfield 7, 3) := by decide +kernel
theorem dX10_weather_71 : decode cX10_weather 71 = .ok (.iconst 3, 1) := by decide +kernel
theorem dX10_weather_72 : decode cX10_weather 72 = .ok (.iaload, 1) := by decide +kernel
theorem dX10_weather_73 : decode cX10_weather 73 = .ok (.aload_n 0, 1) := by decide +kernel
theorem dX10_weather_74 : decode cX10_weather 74 = .ok (.getfield 7, 3) := by decide +kernel
theorem dX10_weather_77 : decode cX10_weather 77 = .ok (.bipush 6, 2) := by decide +kernel
theorem dX10_weather_79 : decode cX10_weather 79 = .ok (.iaload, 1) := by decide +kernel
theorem dX10_weather_80 : decode cX10_weather 80 = .ok (.isub, 1) := by decide +kernel
theorem dX10_weather_81 : decode cX10_weather 81 = .ok (.if_icmp .le 6, 3) := by decide +kernel
theorem dX10_weather_84 : decode cX10_weather 84 = .ok (.bipush (-2), 2) := by decide +kernel
theorem dX10_weather_86 : decode cX10_weather 86 = .ok (.ireturn, 1) := by decide +kernel
theorem dX10_weather_87 : decode cX10_weather 87 = .ok (.aload_n 0, 1) := by decide +kernel
theorem dX10_weather_88 : decode cX10_weather 88 = .ok (.getfield 7, 3) := by decide +kernel
theorem dX10_weather_91 : decode cX10_weather 91 = .ok (.bipush 7, 2) := by decide +kernel
theorem dX10_weather_93 : decode cX10_weather 93 = .ok (.iaload, 1) := by decide +kernel
theorem dX10_weather_94 : decode cX10_weather 94 = .ok (.istore 7, 2) := by decide +kernel
theorem dX10_weather_96 : decode cX10_weather 96 = .ok (.iconst 1, 1) := by decide +kernel
theorem dX10_weather_97 : decode cX10_weather 97 = .ok (.istore 8, 2) := by decide +kernel
theorem dX10_weather_99 : decode cX10_weather 99 = .ok (.iconst 0, 1) := by decide +kernel
theorem dX10_weather_100 : decode cX10_weather 100 = .ok (.istore 9, 2) := by decide +kernel
theorem dX10_weather_102 : decode cX10_weather 102 = .ok (.iconst 0, 1) := by decide +kernel
theorem dX10_weather_103 : decode cX10_weather 103 = .ok (.istore 10, 2) := by decide +kernel
theorem dX10_weather_105 : decode cX10_weather 105 = .ok (.iload 10, 2) := by decide +kernel
theorem dX10_weather_107 : decode cX10_weather 107 = .ok (.iload 4, 2) := by decide +kernel
theorem dX10_weather_109 : decode cX10_weather 109 = .ok (.if_icmp .ge 133, 3) := by decide +kernel
theorem dX10_weather_112 : decode cX10_weather 112 = .ok (.iload 8, 2) := by decide +kernel
theorem dX10_weather_114 : decode cX10_weather 114 = .ok (.ifCond .le 128, 3) := by decide +kernel
theorem dX10_weather_117 : decode cX10_weather 117 = .ok (.aload_n 0, 1) := by decide +kernel
theorem dX10_weather_118 : decode cX10_weather 118 = .ok (.getfield 44, 3) := by decide +kernel
theorem dX10_weather_121 : decode cX10_weather 121 = .ok (.bipush 24, 2) := by decide +kernel
theorem dX10_weather_123 : decode cX10_weather 123 = .ok (.iload_n 1, 1) := by decide +kernel
theorem dX10_weather_124 : decode cX10_weather 124 = .ok (.imul, 1) := by decide +kernel
theorem dX10_weather_125 : decode cX10_weather 125 = .ok (.iload_n 3, 1) := by decide +kernel
theorem dX10_weather_126 : decode cX10_weather 126 = .ok (.iadd, 1) := by decide +kernel
theorem dX10_weather_127 : decode cX10_weather 127 = .ok (.iload 10, 2) := by decide +kernel
theorem dX10_weather_129 : decode cX10_weather 129 = .ok (.iadd, 1) := by decide +kernel
theorem dX10_weather_130 : decode cX10_weather 130 = .ok (.laload, 1) := by decide +kernel
theorem dX10_weather_131 : decode cX10_weather 131 = .ok (.lstore 11, 2) := by decide +kernel
theorem dX10_weather_133 : decode cX10_weather 133 = .ok (.iconst 0, 1) := by decide +kernel
theorem dX10_weather_134 : decode cX10_weather 134 = .ok (.istore 13, 2) := by decide +kernel
theorem dX10_weather_136 : decode cX10_weather 136 = .ok (.iconst 0, 1) := by decide +kernel
theorem dX10_weather_137 : decode cX10_weather 137 = .ok (.istore 14, 2) := by decide +kernel
theorem dX10_weather_139 : decode cX10_weather 139 = .ok (.iload 14, 2) := by decide +kernel
theorem dX10_weather_141 : decode cX10_weather 141 = .ok (.iconst 3, 1) := by decide +kernel
theorem dX10_weather_142 : decode cX10_weather 142 = .ok (.if_icmp .ge 53, 3) := by decide +kernel
theorem dX10_weather_145 : decode cX10_weather 145 = .ok (.iload 13, 2) := by decide +kernel
theorem dX10_weather_147 : decode cX10_weather 147 = .ok (.aload_n 0, 1) := by decide +kernel
theorem dX10_weather_148 : decode cX10_weather 148 = .ok (.iload 14, 2) := by decide +kernel
theorem dX10_weather_150 : decode cX10_weather 150 = .ok (.iload 7, 2) := by decide +kernel
theorem dX10_weather_152 : decode cX10_weather 152 = .ok (.iload 10, 2) := by decide +kernel
theorem dX10_weather_154 : decode cX10_weather 154 = .ok (.ifCond .ne 13, 3) := by decide +kernel
theorem dX10_weather_157 : decode cX10_weather 157 = .ok (.aload_n 0, 1) := by decide +kernel
theorem dX10_weather_158 : decode cX10_weather 158 = .ok (.getfield 7, 3) := by decide +kernel
theorem dX10_weather_161 : decode cX10_weather 161 = .ok (.bipush 9, 2) := by decide +kernel
theorem dX10_weather_163 : decode cX10_weather 163 = .ok (.iaload, 1) := by decide +kernel
theorem dX10_weather_164 : decode cX10_weather 164 = .ok (.goto 4, 3) := by decide +kernel
theorem dX10_weather_167 : decode cX10_weather 167 = .ok (.iconst 0, 1) := by decide +kernel
theorem dX10_weather_168 : decode cX10_weather 168 = .ok (.invokevirtual 137, 3) := by decide +kernel
theorem dX10_weather_171 : decode cX10_weather 171 = .ok (.i2l, 1) := by decide +kernel
theorem dX10_weather_172 : decode cX10_weather 172 = .ok (.lload 11, 2) := by decide +kernel
theorem dX10_weather_174 : decode cX10_weather 174 = .ok (.lcmp, 1) := by decide +kernel
theorem dX10_weather_175 : decode cX10_weather 175 = .ok (.ifCond .ne 10, 3) := by decide +kernel
theorem dX10_weather_178 : decode cX10_weather 178 = .ok (.iconst 1, 1) := by decide +kernel
theorem dX10_weather_179 : decode cX10_weather 179 = .ok (.iload 14, 2) := by decide +kernel
theorem dX10_weather_181 : decode cX10_weather 181 = .ok (.ishl, 1) := by decide +kernel
theorem dX10_weather_182 : decode cX10_weather 182 = .ok (.goto 4, 3) := by decide +kernel
theorem dX10_weather_185 : decode cX10_weather 185 = .ok (.iconst 0, 1) := by decide +kernel
theorem dX10_weather_186 : decode cX10_weather 186 = .ok (.ior, 1) := by decide +kernel
theorem dX10_weather_187 : decode cX10_weather 187 = .ok (.istore 13, 2) := by decide +kernel
theorem dX10_weather_189 : decode cX10_weather 189 = .ok (.iinc 14 1, 3) := by decide +kernel
theorem dX10_weather_192 : decode cX10_weather 192 = .ok (.goto (-53), 3) := by decide +kernel
theorem dX10_weather_195 : decode cX10_weather 195 = .ok (.iload 10, 2) := by decide +kernel
theorem dX10_weather_197 : decode cX10_weather 197 = .ok (.iload 5, 2) := by decide +kernel
theorem dX10_weather_199 : decode cX10_weather 199 = .ok (.if_icmp .ne 8, 3) := by decide +kernel
theorem dX10_weather_202 : decode cX10_weather 202 = .ok (.iload 13, 2) := by decide +kernel
theorem dX10_weather_204 : decode cX10_weather 204 = .ok (.goto 5, 3) := by decide +kernel
theorem dX10_weather_207 : decode cX10_weather 207 = .ok (.iload 9, 2) := by decide +kernel
theorem dX10_weather_209 : decode cX10_weather 209 = .ok (.istore 9, 2) := by decide +kernel
theorem dX10_weather_211 : decode cX10_weather 211 = .ok (.iload 8, 2) := by decide +kernel
theorem dX10_weather_213 : decode cX10_weather 213 = .ok (.iload 13, 2) := by decide +kernel
theorem dX10_weather_215 : decode cX10_weather 215 = .ok (.invokestatic 195, 3) := by decide +kernel
theorem dX10_weather_218 : decode cX10_weather 218 = .ok (.imul, 1) := by decide +kernel
theorem dX10_weather_219 : decode cX10_weather 219 = .ok (.istore 8, 2) := by decide +kernel
theorem dX10_weather_221 : decode cX10_weather 221 = .ok (.iload 8, 2) := by decide +kernel
theorem dX10_weather_223 : decode cX10_weather 223 = .ok (.ifCond .le 9, 3) := by decide +kernel
theorem dX10_weather_226 : decode cX10_weather 226 = .ok (.lload 11, 2) := by decide +kernel
theorem dX10_weather_228 : decode cX10_weather 228 = .ok (.l2i, 1) := by decide +kernel
theorem dX10_weather_229 : decode cX10_weather 229 = .ok (.goto 5, 3) := by decide +kernel
theorem dX10_weather_232 : decode cX10_weather 232 = .ok (.iload 7, 2) := by decide +kernel
theorem dX10_weather_234 : decode cX10_weather 234 = .ok (.istore 7, 2) := by decide +kernel
theorem dX10_weather_236 : decode cX10_weather 236 = .ok (.iinc 10 1, 3) := by decide +kernel
theorem dX10_weather_239 : decode cX10_weather 239 = .ok (.goto (-134), 3) := by decide +kernel
theorem dX10_weather_242 : decode cX10_weather 242 = .ok (.iload 5, 2) := by decide +kernel
theorem dX10_weather_244 : decode cX10_weather 244 = .ok (.ifCond .ge 8, 3) := by decide +kernel
theorem dX10_weather_247 : decode cX10_weather 247 = .ok (.iload 8, 2) := by decide +kernel
theorem dX10_weather_249 : decode cX10_weather 249 = .ok (.goto 14, 3) := by decide +kernel
theorem dX10_weather_252 : decode cX10_weather 252 = .ok (.iload 8, 2) := by decide +kernel
theorem dX10_weather_254 : decode cX10_weather 254 = .ok (.ifCond .ne 7, 3) := by decide +kernel
theorem dX10_weather_257 : decode cX10_weather 257 = .ok (.iconst 0, 1) := by decide +kernel
theorem dX10_weather_258 : decode cX10_weather 258 = .ok (.goto 5, 3) := by decide +kernel
theorem dX10_weather_261 : decode cX10_weather 261 = .ok (.iload 9, 2) := by decide +kernel
theorem dX10_weather_263 : decode cX10_weather 263 = .ok (.ireturn, 1) := by decide +kernel
theorem dX10_film_0 : decode cX10_film 0 = .ok (.iload_n 1, 1) := by decide +kernel
theorem dX10_film_1 : decode cX10_film 1 = .ok (.invokestatic 140, 3) := by decide +kernel
theorem dX10_film_4 : decode cX10_film 4 = .ok (.ifCond .eq 30, 3) := by decide +kernel
theorem dX10_film_7 : decode cX10_film 7 = .ok (.iload_n 2, 1) := by decide +kernel
theorem dX10_film_8 : decode cX10_film 8 = .ok (.i2l, 1) := by decide +kernel
theorem dX10_film_9 : decode cX10_film 9 = .ok (.lconst 1, 1) := by decide +kernel
theorem dX10_film_10 : decode cX10_film 10 = .ok (.ldc2_w 221, 3) := by decide +kernel
theorem dX10_film_13 : decode cX10_film 13 = .ok (.invokestatic 51, 3) := by decide +kernel
theorem dX10_film_16 : decode cX10_film 16 = .ok (.ifCond .eq 18, 3) := by decide +kernel
theorem dX10_film_19 : decode cX10_film 19 = .ok (.iload_n 3, 1) := by decide +kernel
theorem dX10_film_20 : decode cX10_film 20 = .ok (.invokestatic 207, 3) := by decide +kernel
theorem dX10_film_23 : decode cX10_film 23 = .ok (.ifCond .eq 11, 3) := by decide +kernel
theorem dX10_film_26 : decode cX10_film 26 = .ok (.iload 4, 2) := by decide +kernel
theorem dX10_film_28 : decode cX10_film 28 = .ok (.invokestatic 210, 3) := by decide +kernel
theorem dX10_film_31 : decode cX10_film 31 = .ok (.ifCond .ne 5, 3) := by decide +kernel
theorem dX10_film_34 : decode cX10_film 34 = .ok (.iconst (-1), 1) := by decide +kernel
theorem dX10_film_35 : decode cX10_film 35 = .ok (.ireturn, 1) := by decide +kernel
theorem dX10_film_36 : decode cX10_film 36 = .ok (.aload_n 0, 1) := by decide +kernel
theorem dX10_film_37 : decode cX10_film 37 = .ok (.iload_n 3, 1) := by decide +kernel
theorem dX10_film_38 : decode cX10_film 38 = .ok (.iload 4, 2) := by decide +kernel
theorem dX10_film_40 : decode cX10_film 40 = .ok (.iload 5, 2) := by decide +kernel
theorem dX10_film_42 : decode cX10_film 42 = .ok (.iload_n 2, 1) := by decide +kernel
theorem dX10_film_43 : decode cX10_film 43 = .ok (.invokevirtual 217, 3) := by decide +kernel
theorem dX10_film_46 : decode cX10_film 46 = .ok (.istore 6, 2) := by decide +kernel
theorem dX10_film_48 : decode cX10_film 48 = .ok (.iload 6, 2) := by decide +kernel
theorem dX10_film_50 : decode cX10_film 50 = .ok (.ifCond .ge 6, 3) := by decide +kernel
theorem dX10_film_53 : decode cX10_film 53 = .ok (.iload 6, 2) := by decide +kernel
theorem dX10_film_55 : decode cX10_film 55 = .ok (.ireturn, 1) := by decide +kernel
theorem dX10_film_56 : decode cX10_film 56 = .ok (.aload_n 0, 1) := by decide +kernel
theorem dX10_film_57 : decode cX10_film 57 = .ok (.getfield 7, 3) := by decide +kernel
theorem dX10_film_60 : decode cX10_film 60 = .ok (.bipush 7, 2) := by decide +kernel
theorem dX10_film_62 : decode cX10_film 62 = .ok (.iaload, 1) := by decide +kernel
theorem dX10_film_63 : decode cX10_film 63 = .ok (.istore 7, 2) := by decide +kernel
theorem dX10_film_65 : decode cX10_film 65 = .ok (.iconst 0, 1) := by decide +kernel
theorem dX10_film_66 : decode cX10_film 66 = .ok (.istore 8, 2) := by decide +kernel
theorem dX10_film_68 : decode cX10_film 68 = .ok (.iload 8, 2) := by decide +kernel
theorem dX10_film_70 : decode cX10_film 70 = .ok (.iload_n 2, 1) := by decide +kernel
theorem dX10_film_71 : decode cX10_film 71 = .ok (.if_icmp .ge 64, 3) := by decide +kernel
theorem dX10_film_74 : decode cX10_film 74 = .ok (.aload_n 0, 1) := by decide +kernel
theorem dX10_film_75 : decode cX10_film 75 = .ok (.iload_n 1, 1) := by decide +kernel
theorem dX10_film_76 : decode cX10_film 76 = .ok (.iload 7, 2) := by decide +kernel
theorem dX10_film_78 : decode cX10_film 78 = .ok (.iload 8, 2) := by decide +kernel
theorem dX10_film_80 : decode cX10_film 80 = .ok (.ifCond .ne 13, 3) := by decide +kernel
theorem dX10_film_83 : decode cX10_film 83 = .ok (.aload_n 0, 1) := by decide +kernel
theorem dX10_film_84 : decode cX10_film 84 = .ok (.getfield 7, 3) := by decide +kernel
theorem dX10_film_87 : decode cX10_film 87 = .ok (.bipush 9, 2) := by decide +kernel
theorem dX10_film_89 : decode cX10_film 89 = .ok (.iaload, 1) := by decide +kernel
theorem dX10_film_90 : decode cX10_film 90 = .ok (.goto 4, 3) := by decide +kernel
theorem dX10_film_93 : decode cX10_film 93 = .ok (.iconst 0, 1) := by decide +kernel
theorem dX10_film_94 : decode cX10_film 94 = .ok (.invokevirtual 137, 3) := by decide +kernel
theorem dX10_film_97 : decode cX10_film 97 = .ok (.istore 7, 2) := by decide +kernel
theorem dX10_film_99 : decode cX10_film 99 = .ok (.aload_n 0, 1) := by decide +kernel
theorem dX10_film_100 : decode cX10_film 100 = .ok (.getfield 44, 3) := by decide +kernel
theorem dX10_film_103 : decode cX10_film 103 = .ok (.bipush 24, 2) := by decide +kernel
theorem dX10_film_105 : decode cX10_film 105 = .ok (.iload_n 3, 1) := by decide +kernel
theorem dX10_film_106 : decode cX10_film 106 = .ok (.imul, 1) := by decide +kernel
theorem dX10_film_107 : decode cX10_film 107 = .ok (.iload 5, 2) := by decide +kernel
theorem dX10_film_109 : decode cX10_film 109 = .ok (.iadd, 1) := by decide +kernel
theorem dX10_film_110 : decode cX10_film 110 = .ok (.iload 8, 2) := by decide +kernel
theorem dX10_film_112 : decode cX10_film 112 = .ok (.iadd, 1) := by decide +kernel
theorem dX10_film_113 : decode cX10_film 113 = .ok (.iload 4, 2) := by decide +kernel
theorem dX10_film_115 : decode cX10_film 115 = .ok (.ifCond .ne 10, 3) := by decide +kernel
theorem dX10_film_118 : decode cX10_film 118 = .ok (.iload 7, 2) := by decide +kernel
theorem dX10_film_120 : decode cX10_film 120 = .ok (.i2b, 1) := by decide +kernel
theorem dX10_film_121 : decode cX10_film 121 = .ok (.i2l, 1) := by decide +kernel
theorem dX10_film_122 : decode cX10_film 122 = .ok (.goto 6, 3) := by decide +kernel
theorem dX10_film_125 : decode cX10_film 125 = .ok (.iload 7, 2) := by decide +kernel
theorem dX10_film_127 : decode cX10_film 127 = .ok (.i2l, 1) := by decide +kernel
theorem dX10_film_128 : decode cX10_film 128 = .ok (.lastore, 1) := by decide +kernel
theorem dX10_film_129 : decode cX10_film 129 = .ok (.iinc 8 1, 3) := by decide +kernel
theorem dX10_film_132 : decode cX10_film 132 = .ok (.goto (-64), 3) := by decide +kernel
theorem dX10_film_135 : decode cX10_film 135 = .ok (.iload_n 2, 1) := by decide +kernel
theorem dX10_film_136 : decode cX10_film 136 = .ok (.ireturn, 1) := by decide +kernel
theorem dX10_sheet_0 : decode cX10_sheet 0 = .ok (.iload_n 1, 1) := by decide +kernel
theorem dX10_sheet_1 : decode cX10_sheet 1 = .ok (.invokestatic 207, 3) := by decide +kernel
theorem dX10_sheet_4 : decode cX10_sheet 4 = .ok (.ifCond .eq 16, 3) := by decide +kernel
theorem dX10_sheet_7 : decode cX10_sheet 7 = .ok (.iload_n 2, 1) := by decide +kernel
theorem dX10_sheet_8 : decode cX10_sheet 8 = .ok (.invokestatic 210, 3) := by decide +kernel
theorem dX10_sheet_11 : decode cX10_sheet 11 = .ok (.ifCond .eq 9, 3) := by decide +kernel
theorem dX10_sheet_14 : decode cX10_sheet 14 = .ok (.iload_n 3, 1) := by decide +kernel
theorem dX10_sheet_15 : decode cX10_sheet 15 = .ok (.bipush 24, 2) := by decide +kernel
theorem dX10_sheet_17 : decode cX10_sheet 17 = .ok (.if_icmp .le 5, 3) := by decide +kernel
theorem dX10_sheet_20 : decode cX10_sheet 20 = .ok (.iconst (-1), 1) := by decide +kernel
theorem dX10_sheet_21 : decode cX10_sheet 21 = .ok (.ireturn, 1) := by decide +kernel
theorem dX10_sheet_22 : decode cX10_sheet 22 = .ok (.iload_n 3, 1) := by decide +kernel
theorem dX10_sheet_23 : decode cX10_sheet 23 = .ok (.ifCond .ge 6, 3) := by decide +kernel
theorem dX10_sheet_26 : decode cX10_sheet 26 = .ok (.bipush (-14), 2) := by decide +kernel
theorem dX10_sheet_28 : decode cX10_sheet 28 = .ok (.ireturn, 1) := by decide +kernel
theorem dX10_sheet_29 : decode cX10_sheet 29 = .ok (.aload_n 0, 1) := by decide +kernel
theorem dX10_sheet_30 : decode cX10_sheet 30 = .ok (.getfield 38, 3) := by decide +kernel
theorem dX10_sheet_33 : decode cX10_sheet 33 = .ok (.iload_n 1, 1) := by decide +kernel
theorem dX10_sheet_34 : decode cX10_sheet 34 = .ok (.iload_n 2, 1) := by decide +kernel
theorem dX10_sheet_35 : decode cX10_sheet 35 = .ok (.iastore, 1) := by decide +kernel
theorem dX10_sheet_36 : decode cX10_sheet 36 = .ok (.aload_n 0, 1) := by decide +kernel
theorem dX10_sheet_37 : decode cX10_sheet 37 = .ok (.getfield 41, 3) := by decide +kernel
theorem dX10_sheet_40 : decode cX10_sheet 40 = .ok (.iload_n 1, 1) := by decide +kernel
theorem dX10_sheet_41 : decode cX10_sheet 41 = .ok (.iload_n 3, 1) := by decide +kernel
theorem dX10_sheet_42 : decode cX10_sheet 42 = .ok (.iastore, 1) := by decide +kernel
theorem dX10_sheet_43 : decode cX10_sheet 43 = .ok (.iconst 0, 1) := by decide +kernel
theorem dX10_sheet_44 : decode cX10_sheet 44 = .ok (.istore 4, 2) := by decide +kernel
theorem dX10_sheet_46 : decode cX10_sheet 46 = .ok (.iload 4, 2) := by decide +kernel
theorem dX10_sheet_48 : decode cX10_sheet 48 = .ok (.bipush 24, 2) := by decide +kernel
theorem dX10_sheet_50 : decode cX10_sheet 50 = .ok (.if_icmp .ge 22, 3) := by decide +kernel
theorem dX10_sheet_53 : decode cX10_sheet 53 = .ok (.aload_n 0, 1) := by decide +kernel
theorem dX10_sheet_54 : decode cX10_sheet 54 = .ok (.getfield 44, 3) := by decide +kernel
theorem dX10_sheet_57 : decode cX10_sheet 57 = .ok (.bipush 24, 2) := by decide +kernel
theorem dX10_sheet_59 : decode cX10_sheet 59 = .ok (.iload_n 1, 1) := by decide +kernel
theorem dX10_sheet_60 : decode cX10_sheet 60 = .ok (.imul, 1) := by decide +kernel
theorem dX10_sheet_61 : decode cX10_sheet 61 = .ok (.iload 4, 2) := by decide +kernel
theorem dX10_sheet_63 : decode cX10_sheet 63 = .ok (.iadd, 1) := by decide +kernel
theorem dX10_sheet_64 : decode cX10_sheet 64 = .ok (.lconst 0, 1) := by decide +kernel
theorem dX10_sheet_65 : decode cX10_sheet 65 = .ok (.lastore, 1) := by decide +kernel
theorem dX10_sheet_66 : decode cX10_sheet 66 = .ok (.iinc 4 1, 3) := by decide +kernel
theorem dX10_sheet_69 : decode cX10_sheet 69 = .ok (.goto (-23), 3) := by decide +kernel
theorem dX10_sheet_72 : decode cX10_sheet 72 = .ok (.iload_n 3, 1) := by decide +kernel
theorem dX10_sheet_73 : decode cX10_sheet 73 = .ok (.ireturn, 1) := by decide +kernel
theorem dX10_drop_0 : decode cX10_drop 0 = .ok (.iload_n 1, 1) := by decide +kernel
theorem dX10_drop_1 : decode cX10_drop 1 = .ok (.invokestatic 207, 3) := by decide +kernel
theorem dX10_drop_4 : decode cX10_drop 4 = .ok (.ifCond .ne 5, 3) := by decide +kernel
theorem dX10_drop_7 : decode cX10_drop 7 = .ok (.iconst (-1), 1) := by decide +kernel
theorem dX10_drop_8 : decode cX10_drop 8 = .ok (.ireturn, 1) := by decide +kernel
theorem dX10_drop_9 : decode cX10_drop 9 = .ok (.aload_n 0, 1) := by decide +kernel
theorem dX10_drop_10 : decode cX10_drop 10 = .ok (.getfield 38, 3) := by decide +kernel
theorem dX10_drop_13 : decode cX10_drop 13 = .ok (.iload_n 1, 1) := by decide +kernel
theorem dX10_drop_14 : decode cX10_drop 14 = .ok (.iaload, 1) := by decide +kernel
theorem dX10_drop_15 : decode cX10_drop 15 = .ok (.ifCond .ge 6, 3) := by decide +kernel
theorem dX10_drop_18 : decode cX10_drop 18 = .ok (.bipush (-11), 2) := by decide +kernel
theorem dX10_drop_20 : decode cX10_drop 20 = .ok (.ireturn, 1) := by decide +kernel
theorem dX10_drop_21 : decode cX10_drop 21 = .ok (.aload_n 0, 1) := by decide +kernel
theorem dX10_drop_22 : decode cX10_drop 22 = .ok (.getfield 38, 3) := by decide +kernel
theorem dX10_drop_25 : decode cX10_drop 25 = .ok (.iload_n 1, 1) := by decide +kernel
theorem dX10_drop_26 : decode cX10_drop 26 = .ok (.iconst (-1), 1) := by decide +kernel
theorem dX10_drop_27 : decode cX10_drop 27 = .ok (.iastore, 1) := by decide +kernel
theorem dX10_drop_28 : decode cX10_drop 28 = .ok (.aload_n 0, 1) := by decide +kernel
theorem dX10_drop_29 : decode cX10_drop 29 = .ok (.getfield 41, 3) := by decide +kernel
theorem dX10_drop_32 : decode cX10_drop 32 = .ok (.iload_n 1, 1) := by decide +kernel
theorem dX10_drop_33 : decode cX10_drop 33 = .ok (.iaload, 1) := by decide +kernel
theorem dX10_drop_34 : decode cX10_drop 34 = .ok (.ireturn, 1) := by decide +kernel
theorem dX10_item_0 : decode cX10_item 0 = .ok (.iload_n 1, 1) := by decide +kernel
theorem dX10_item_1 : decode cX10_item 1 = .ok (.invokestatic 207, 3) := by decide +kernel
theorem dX10_item_4 : decode cX10_item 4 = .ok (.ifCond .eq 10, 3) := by decide +kernel
theorem dX10_item_7 : decode cX10_item 7 = .ok (.iload_n 2, 1) := by decide +kernel
theorem dX10_item_8 : decode cX10_item 8 = .ok (.invokestatic 210, 3) := by decide +kernel
theorem dX10_item_11 : decode cX10_item 11 = .ok (.ifCond .ne 5, 3) := by decide +kernel
theorem dX10_item_14 : decode cX10_item 14 = .ok (.iconst (-1), 1) := by decide +kernel
theorem dX10_item_15 : decode cX10_item 15 = .ok (.ireturn, 1) := by decide +kernel
theorem dX10_item_16 : decode cX10_item 16 = .ok (.aload_n 0, 1) := by decide +kernel
theorem dX10_item_17 : decode cX10_item 17 = .ok (.iload_n 1, 1) := by decide +kernel
theorem dX10_item_18 : decode cX10_item 18 = .ok (.iload_n 2, 1) := by decide +kernel
theorem dX10_item_19 : decode cX10_item 19 = .ok (.iload_n 3, 1) := by decide +kernel
theorem dX10_item_20 : decode cX10_item 20 = .ok (.iconst 1, 1) := by decide +kernel
theorem dX10_item_21 : decode cX10_item 21 = .ok (.invokevirtual 217, 3) := by decide +kernel
theorem dX10_item_24 : decode cX10_item 24 = .ok (.istore 6, 2) := by decide +kernel
theorem dX10_item_26 : decode cX10_item 26 = .ok (.iload 6, 2) := by decide +kernel
theorem dX10_item_28 : decode cX10_item 28 = .ok (.ifCond .ge 6, 3) := by decide +kernel
theorem dX10_item_31 : decode cX10_item 31 = .ok (.iload 6, 2) := by decide +kernel
theorem dX10_item_33 : decode cX10_item 33 = .ok (.ireturn, 1) := by decide +kernel
theorem dX10_item_34 : decode cX10_item 34 = .ok (.aload_n 0, 1) := by decide +kernel
theorem dX10_item_35 : decode cX10_item 35 = .ok (.getfield 44, 3) := by decide +kernel
theorem dX10_item_38 : decode cX10_item 38 = .ok (.bipush 24, 2) := by decide +kernel
theorem dX10_item_40 : decode cX10_item 40 = .ok (.iload_n 1, 1) := by decide +kernel
theorem dX10_item_41 : decode cX10_item 41 = .ok (.imul, 1) := by decide +kernel
theorem dX10_item_42 : decode cX10_item 42 = .ok (.iload_n 3, 1) := by decide +kernel
theorem dX10_item_43 : decode cX10_item 43 = .ok (.iadd, 1) := by decide +kernel
theorem dX10_item_44 : decode cX10_item 44 = .ok (.iload_n 2, 1) := by decide +kernel
theorem dX10_item_45 : decode cX10_item 45 = .ok (.ifCond .ne 11, 3) := by decide +kernel
theorem dX10_item_48 : decode cX10_item 48 = .ok (.lload 4, 2) := by decide +kernel
theorem dX10_item_50 : decode cX10_item 50 = .ok (.l2i, 1) := by decide +kernel
theorem dX10_item_51 : decode cX10_item 51 = .ok (.i2b, 1) := by decide +kernel
theorem dX10_item_52 : decode cX10_item 52 = .ok (.i2l, 1) := by decide +kernel
theorem dX10_item_53 : decode cX10_item 53 = .ok (.goto 30, 3) := by decide +kernel
theorem dX10_item_56 : decode cX10_item 56 = .ok (.iload_n 2, 1) := by decide +kernel
theorem dX10_item_57 : decode cX10_item 57 = .ok (.iconst 1, 1) := by decide +kernel
theorem dX10_item_58 : decode cX10_item 58 = .ok (.if_icmp .ne 11, 3) := by decide +kernel
theorem dX10_item_61 : decode cX10_item 61 = .ok (.lload 4, 2) := by decide +kernel
theorem dX10_item_63 : decode cX10_item 63 = .ok (.l2i, 1) := by decide +kernel
theorem dX10_item_64 : decode cX10_item 64 = .ok (.i2s, 1) := by decide +kernel
theorem dX10_item_65 : decode cX10_item 65 = .ok (.i2l, 1) := by decide +kernel
theorem dX10_item_66 : decode cX10_item 66 = .ok (.goto 17, 3) := by decide +kernel
theorem dX10_item_69 : decode cX10_item 69 = .ok (.iload_n 2, 1) := by decide +kernel
theorem dX10_item_70 : decode cX10_item 70 = .ok (.iconst 2, 1) := by decide +kernel
theorem dX10_item_71 : decode cX10_item 71 = .ok (.if_icmp .ne 10, 3) := by decide +kernel
theorem dX10_item_74 : decode cX10_item 74 = .ok (.lload 4, 2) := by decide +kernel
theorem dX10_item_76 : decode cX10_item 76 = .ok (.l2i, 1) := by decide +kernel
theorem dX10_item_77 : decode cX10_item 77 = .ok (.i2l, 1) := by decide +kernel
theorem dX10_item_78 : decode cX10_item 78 = .ok (.goto 5, 3) := by decide +kernel
theorem dX10_item_81 : decode cX10_item 81 = .ok (.lload 4, 2) := by decide +kernel
theorem dX10_item_83 : decode cX10_item 83 = .ok (.lastore, 1) := by decide +kernel
theorem dX10_item_84 : decode cX10_item 84 = .ok (.iconst 1, 1) := by decide +kernel
theorem dX10_item_85 : decode cX10_item 85 = .ok (.ireturn, 1) := by decide +kernel
theorem dX10_copy_0 : decode cX10_copy 0 = .ok (.iload_n 1, 1) := by decide +kernel
theorem dX10_copy_1 : decode cX10_copy 1 = .ok (.invokestatic 207, 3) := by decide +kernel
theorem dX10_copy_4 : decode cX10_copy 4 = .ok (.ifCond .eq 10, 3) := by decide +kernel
theorem dX10_copy_7 : decode cX10_copy 7 = .ok (.iload_n 3, 1) := by decide +kernel
theorem dX10_copy_8 : decode cX10_copy 8 = .ok (.invokestatic 207, 3) := by decide +kernel
theorem dX10_copy_11 : decode cX10_copy 11 = .ok (.ifCond .ne 5, 3) := by decide +kernel
theorem dX10_copy_14 : decode cX10_copy 14 = .ok (.iconst (-1), 1) := by decide +kernel
theorem dX10_copy_15 : decode cX10_copy 15 = .ok (.ireturn, 1) := by decide +kernel
theorem dX10_copy_16 : decode cX10_copy 16 = .ok (.aload_n 0, 1) := by decide +kernel
theorem dX10_copy_17 : decode cX10_copy 17 = .ok (.getfield 38, 3) := by decide +kernel
theorem dX10_copy_20 : decode cX10_copy 20 = .ok (.iload_n 1, 1) := by decide +kernel
theorem dX10_copy_21 : decode cX10_copy 21 = .ok (.iaload, 1) := by decide +kernel
theorem dX10_copy_22 : decode cX10_copy 22 = .ok (.ifCond .lt 12, 3) := by decide +kernel
theorem dX10_copy_25 : decode cX10_copy 25 = .ok (.aload_n 0, 1) := by decide +kernel
theorem dX10_copy_26 : decode cX10_copy 26 = .ok (.getfield 38, 3) := by decide +kernel
theorem dX10_copy_29 : decode cX10_copy 29 = .ok (.iload_n 3, 1) := by decide +kernel
theorem dX10_copy_30 : decode cX10_copy 30 = .ok (.iaload, 1) := by decide +kernel
theorem dX10_copy_31 : decode cX10_copy 31 = .ok (.ifCond .ge 6, 3) := by decide +kernel
theorem dX10_copy_34 : decode cX10_copy 34 = .ok (.bipush (-11), 2) := by decide +kernel
theorem dX10_copy_36 : decode cX10_copy 36 = .ok (.ireturn, 1) := by decide +kernel
theorem dX10_copy_37 : decode cX10_copy 37 = .ok (.aload_n 0, 1) := by decide +kernel
theorem dX10_copy_38 : decode cX10_copy 38 = .ok (.iload_n 3, 1) := by decide +kernel
theorem dX10_copy_39 : decode cX10_copy 39 = .ok (.aload_n 0, 1) := by decide +kernel
theorem dX10_copy_40 : decode cX10_copy 40 = .ok (.getfield 38, 3) := by decide +kernel
theorem dX10_copy_43 : decode cX10_copy 43 = .ok (.iload_n 1, 1) := by decide +kernel
theorem dX10_copy_44 : decode cX10_copy 44 = .ok (.iaload, 1) := by decide +kernel
theorem dX10_copy_45 : decode cX10_copy 45 = .ok (.iload 4, 2) := by decide +kernel
theorem dX10_copy_47 : decode cX10_copy 47 = .ok (.iload 5, 2) := by decide +kernel
theorem dX10_copy_49 : decode cX10_copy 49 = .ok (.invokevirtual 217, 3) := by decide +kernel
theorem dX10_copy_52 : decode cX10_copy 52 = .ok (.istore 6, 2) := by decide +kernel
theorem dX10_copy_54 : decode cX10_copy 54 = .ok (.iload 6, 2) := by decide +kernel
theorem dX10_copy_56 : decode cX10_copy 56 = .ok (.ifCond .ne 20, 3) := by decide +kernel
theorem dX10_copy_59 : decode cX10_copy 59 = .ok (.aload_n 0, 1) := by decide +kernel
theorem dX10_copy_60 : decode cX10_copy 60 = .ok (.iload_n 1, 1) := by decide +kernel
theorem dX10_copy_61 : decode cX10_copy 61 = .ok (.aload_n 0, 1) := by decide +kernel
theorem dX10_copy_62 : decode cX10_copy 62 = .ok (.getfield 38, 3) := by decide +kernel
theorem dX10_copy_65 : decode cX10_copy 65 = .ok (.iload_n 1, 1) := by decide +kernel
theorem dX10_copy_66 : decode cX10_copy 66 = .ok (.iaload, 1) := by decide +kernel
theorem dX10_copy_67 : decode cX10_copy 67 = .ok (.iload_n 2, 1) := by decide +kernel
theorem dX10_copy_68 : decode cX10_copy 68 = .ok (.iload 5, 2) := by decide +kernel
theorem dX10_copy_70 : decode cX10_copy 70 = .ok (.invokevirtual 217, 3) := by decide +kernel
theorem dX10_copy_73 : decode cX10_copy 73 = .ok (.goto 5, 3) := by decide +kernel
theorem dX10_copy_76 : decode cX10_copy 76 = .ok (.iload 6, 2) := by decide +kernel
theorem dX10_copy_78 : decode cX10_copy 78 = .ok (.istore 6, 2) := by decide +kernel
theorem dX10_copy_80 : decode cX10_copy 80 = .ok (.iload 6, 2) := by decide +kernel
theorem dX10_copy_82 : decode cX10_copy 82 = .ok (.ifCond .ge 6, 3) := by decide +kernel
theorem dX10_copy_85 : decode cX10_copy 85 = .ok (.iload 6, 2) := by decide +kernel
theorem dX10_copy_87 : decode cX10_copy 87 = .ok (.ireturn, 1) := by decide +kernel
theorem dX10_copy_88 : decode cX10_copy 88 = .ok (.iconst 0, 1) := by decide +kernel
theorem dX10_copy_89 : decode cX10_copy 89 = .ok (.istore 7, 2) := by decide +kernel
theorem dX10_copy_91 : decode cX10_copy 91 = .ok (.iload 7, 2) := by decide +kernel
theorem dX10_copy_93 : decode cX10_copy 93 = .ok (.iload 5, 2) := by decide +kernel
theorem dX10_copy_95 : decode cX10_copy 95 = .ok (.if_icmp .ge 30, 3) := by decide +kernel
theorem dX10_copy_98 : decode cX10_copy 98 = .ok (.aload_n 0, 1) := by decide +kernel
theorem dX10_copy_99 : decode cX10_copy 99 = .ok (.getfield 48, 3) := by decide +kernel
theorem dX10_copy_102 : decode cX10_copy 102 = .ok (.iload 7, 2) := by decide +kernel
theorem dX10_copy_104 : decode cX10_copy 104 = .ok (.aload_n 0, 1) := by decide +kernel
theorem dX10_copy_105 : decode cX10_copy 105 = .ok (.getfield 44, 3) := by decide +kernel
theorem dX10_copy_108 : decode cX10_copy 108 = .ok (.bipush 24, 2) := by decide +kernel
theorem dX10_copy_110 : decode cX10_copy 110 = .ok (.iload_n 1, 1) := by decide +kernel
theorem dX10_copy_111 : decode cX10_copy 111 = .ok (.imul, 1) := by decide +kernel
theorem dX10_copy_112 : decode cX10_copy 112 = .ok (.iload_n 2, 1) := by decide +kernel
theorem dX10_copy_113 : decode cX10_copy 113 = .ok (.iadd, 1) := by decide +kernel
theorem dX10_copy_114 : decode cX10_copy 114 = .ok (.iload 7, 2) := by decide +kernel
theorem dX10_copy_116 : decode cX10_copy 116 = .ok (.iadd, 1) := by decide +kernel
theorem dX10_copy_117 : decode cX10_copy 117 = .ok (.laload, 1) := by decide +kernel
theorem dX10_copy_118 : decode cX10_copy 118 = .ok (.lastore, 1) := by decide +kernel
theorem dX10_copy_119 : decode cX10_copy 119 = .ok (.iinc 7 1, 3) := by decide +kernel
theorem dX10_copy_122 : decode cX10_copy 122 = .ok (.goto (-31), 3) := by decide +kernel
theorem dX10_copy_125 : decode cX10_copy 125 = .ok (.iconst 0, 1) := by decide +kernel
theorem dX10_copy_126 : decode cX10_copy 126 = .ok (.istore 7, 2) := by decide +kernel
theorem dX10_copy_128 : decode cX10_copy 128 = .ok (.iload 7, 2) := by decide +kernel
theorem dX10_copy_130 : decode cX10_copy 130 = .ok (.iload 5, 2) := by decide +kernel
theorem dX10_copy_132 : decode cX10_copy 132 = .ok (.if_icmp .ge 31, 3) := by decide +kernel
theorem dX10_copy_135 : decode cX10_copy 135 = .ok (.aload_n 0, 1) := by decide +kernel
theorem dX10_copy_136 : decode cX10_copy 136 = .ok (.getfield 44, 3) := by decide +kernel
theorem dX10_copy_139 : decode cX10_copy 139 = .ok (.bipush 24, 2) := by decide +kernel
theorem dX10_copy_141 : decode cX10_copy 141 = .ok (.iload_n 3, 1) := by decide +kernel
theorem dX10_copy_142 : decode cX10_copy 142 = .ok (.imul, 1) := by decide +kernel
theorem dX10_copy_143 : decode cX10_copy 143 = .ok (.iload 4, 2) := by decide +kernel
theorem dX10_copy_145 : decode cX10_copy 145 = .ok (.iadd, 1) := by decide +kernel
theorem dX10_copy_146 : decode cX10_copy 146 = .ok (.iload 7, 2) := by decide +kernel
theorem dX10_copy_148 : decode cX10_copy 148 = .ok (.iadd, 1) := by decide +kernel
theorem dX10_copy_149 : decode cX10_copy 149 = .ok (.aload_n 0, 1) := by decide +kernel
theorem dX10_copy_150 : decode cX10_copy 150 = .ok (.getfield 48, 3) := by decide +kernel
theorem dX10_copy_153 : decode cX10_copy 153 = .ok (.iload 7, 2) := by decide +kernel
theorem dX10_copy_155 : decode cX10_copy 155 = .ok (.laload, 1) := by decide +kernel
theorem dX10_copy_156 : decode cX10_copy 156 = .ok (.lastore, 1) := by decide +kernel
theorem dX10_copy_157 : decode cX10_copy 157 = .ok (.iinc 7 1, 3) := by decide +kernel
theorem dX10_copy_160 : decode cX10_copy 160 = .ok (.goto (-32), 3) := by decide +kernel
theorem dX10_copy_163 : decode cX10_copy 163 = .ok (.iload 5, 2) := by decide +kernel
theorem dX10_copy_165 : decode cX10_copy 165 = .ok (.ireturn, 1) := by decide +kernel
end
section
theorem dX0_init_0 : decode cX0_init 0 = .ok (.aload_n 0, 1) := by decide +kernel
theorem dX0_init_1 : decode cX0_init 1 = .ok (.iload_n 1, 1) := by decide +kernel
theorem dX0_init_2 : decode cX0_init 2 = .ok (.iload_n 2, 1) := by decide +kernel
theorem dX0_init_3 : decode cX0_init 3 = .ok (.invokespecial 3, 3) := by decide +kernel
theorem dX0_init_6 : decode cX0_init 6 = .ok (.return_, 1) := by decide +kernel
theorem dX0_kind_0 : decode cX0_kind 0 = .ok (.iconst 2, 1) := by decide +kernel
theorem dX0_kind_1 : decode cX0_kind 1 = .ok (.ireturn, 1) := by decide +kernel
theorem dX0_laysInFrost_0 : decode cX0_laysInFrost 0 = .ok (.iload_n 1, 1) := by decide +kernel
theorem dX0_laysInFrost_1 : decode cX0_laysInFrost 1 = .ok (.ireturn, 1) := by decide +kernel
theorem dX1_init_0 : decode cX1_init 0 = .ok (.aload_n 0, 1) := by decide +kernel
theorem dX1_init_1 : decode cX1_init 1 = .ok (.invokespecial 3, 3) := by decide +kernel
theorem dX1_init_4 : decode cX1_init 4 = .ok (.aload_n 0, 1) := by decide +kernel
theorem dX1_init_5 : decode cX1_init 5 = .ok (.sipush 603, 3) := by decide +kernel
theorem dX1_init_8 : decode cX1_init 8 = .ok (.newarray .int, 2) := by decide +kernel
theorem dX1_init_10 : decode cX1_init 10 = .ok (.putfield 11, 3) := by decide +kernel
theorem dX1_init_13 : decode cX1_init 13 = .ok (.aload_n 0, 1) := by decide +kernel
theorem dX1_init_14 : decode cX1_init 14 = .ok (.sipush 603, 3) := by decide +kernel
theorem dX1_init_17 : decode cX1_init 17 = .ok (.newarray .int, 2) := by decide +kernel
theorem dX1_init_19 : decode cX1_init 19 = .ok (.putfield 15, 3) := by decide +kernel
theorem dX1_init_22 : decode cX1_init 22 = .ok (.aload_n 0, 1) := by decide +kernel
theorem dX1_init_23 : decode cX1_init 23 = .ok (.sipush 603, 3) := by decide +kernel
theorem dX1_init_26 : decode cX1_init 26 = .ok (.newarray .int, 2) := by decide +kernel
theorem dX1_init_28 : decode cX1_init 28 = .ok (.putfield 18, 3) := by decide +kernel
theorem dX1_init_31 : decode cX1_init 31 = .ok (.aload_n 0, 1) := by decide +kernel
theorem dX1_init_32 : decode cX1_init 32 = .ok (.sipush 201, 3) := by decide +kernel
theorem dX1_init_35 : decode cX1_init 35 = .ok (.newarray .int, 2) := by decide +kernel
theorem dX1_init_37 : decode cX1_init 37 = .ok (.putfield 21, 3) := by decide +kernel
theorem dX1_init_40 : decode cX1_init 40 = .ok (.aload_n 0, 1) := by decide +kernel
theorem dX1_init_41 : decode cX1_init 41 = .ok (.sipush 201, 3) := by decide +kernel
theorem dX1_init_44 : decode cX1_init 44 = .ok (.newarray .int, 2) := by decide +kernel
theorem dX1_init_46 : decode cX1_init 46 = .ok (.putfield 24, 3) := by decide +kernel
theorem dX1_init_49 : decode cX1_init 49 = .ok (.aload_n 0, 1) := by decide +kernel
theorem dX1_init_50 : decode cX1_init 50 = .ok (.bipush 41, 2) := by decide +kernel
theorem dX1_init_52 : decode cX1_init 52 = .ok (.newarray .int, 2) := by decide +kernel
theorem dX1_init_54 : decode cX1_init 54 = .ok (.putfield 27, 3) := by decide +kernel
theorem dX1_init_57 : decode cX1_init 57 = .ok (.aload_n 0, 1) := by decide +kernel
theorem dX1_init_58 : decode cX1_init 58 = .ok (.sipush 201, 3) := by decide +kernel
theorem dX1_init_61 : decode cX1_init 61 = .ok (.newarray .int, 2) := by decide +kernel
theorem dX1_init_63 : decode cX1_init 63 = .ok (.putfield 30, 3) := by decide +kernel
theorem dX1_init_66 : decode cX1_init 66 = .ok (.return_, 1) := by decide +kernel
theorem dX1_oddsNow_0 : decode cX1_oddsNow 0 = .ok (.aload_n 0, 1) := by decide +kernel
theorem dX1_oddsNow_1 : decode cX1_oddsNow 1 = .ok (.aload_n 1, 1) := by decide +kernel
theorem dX1_oddsNow_2 : decode cX1_oddsNow 2 = .ok (.aload_n 1, 1) := by decide +kernel
theorem dX1_oddsNow_3 : decode cX1_oddsNow 3 = .ok (.getfield 33, 3) := by decide +kernel
theorem dX1_oddsNow_6 : decode cX1_oddsNow 6 = .ok (.aload_n 1, 1) := by decide +kernel
theorem dX1_oddsNow_7 : decode cX1_oddsNow 7 = .ok (.getfield 39, 3) := by decide +kernel
theorem dX1_oddsNow_10 : decode cX1_oddsNow 10 = .ok (.aload_n 1, 1) := by decide +kernel
theorem dX1_oddsNow_11 : decode cX1_oddsNow 11 = .ok (.invokevirtual 42, 3) := by decide +kernel
theorem dX1_oddsNow_14 : decode cX1_oddsNow 14 = .ok (.invokevirtual 46, 3) := by decide +kernel
theorem dX1_oddsNow_17 : decode cX1_oddsNow 17 = .ok (.aload_n 0, 1) := by decide +kernel
theorem dX1_oddsNow_18 : decode cX1_oddsNow 18 = .ok (.aload_n 1, 1) := by decide +kernel
theorem dX1_oddsNow_19 : decode cX1_oddsNow 19 = .ok (.iload_n 2, 1) := by decide +kernel
theorem dX1_oddsNow_20 : decode cX1_oddsNow 20 = .ok (.iload_n 3, 1) := by decide +kernel
theorem dX1_oddsNow_21 : decode cX1_oddsNow 21 = .ok (.invokevirtual 50, 3) := by decide +kernel
theorem dX1_oddsNow_24 : decode cX1_oddsNow 24 = .ok (.aload_n 0, 1) := by decide +kernel
theorem dX1_oddsNow_25 : decode cX1_oddsNow 25 = .ok (.invokevirtual 54, 3) := by decide +kernel
theorem dX1_oddsNow_28 : decode cX1_oddsNow 28 = .ok (.aload_n 0, 1) := by decide +kernel
theorem dX1_oddsNow_29 : decode cX1_oddsNow 29 = .ok (.aload_n 0, 1) := by decide +kernel
theorem dX1_oddsNow_30 : decode cX1_oddsNow 30 = .ok (.getfield 21, 3) := by decide +kernel
theorem dX1_oddsNow_33 : decode cX1_oddsNow 33 = .ok (.aload_n 0, 1) := by decide +kernel
theorem dX1_oddsNow_34 : decode cX1_oddsNow 34 = .ok (.getfield 57, 3) := by decide +kernel
theorem dX1_oddsNow_37 : decode cX1_oddsNow 37 = .ok (.invokevirtual 60, 3) := by decide +kernel
theorem dX1_oddsNow_40 : decode cX1_oddsNow 40 = .ok (.ireturn, 1) := by decide +kernel
theorem dX1_oddsFrom_0 : decode cX1_oddsFrom 0 = .ok (.aload_n 0, 1) := by decide +kernel
theorem dX1_oddsFrom_1 : decode cX1_oddsFrom 1 = .ok (.aload_n 1, 1) := by decide +kernel
theorem dX1_oddsFrom_2 : decode cX1_oddsFrom 2 = .ok (.iload_n 2, 1) := by decide +kernel
theorem dX1_oddsFrom_3 : decode cX1_oddsFrom 3 = .ok (.iload_n 3, 1) := by decide +kernel
theorem dX1_oddsFrom_4 : decode cX1_oddsFrom 4 = .ok (.iconst 0, 1) := by decide +kernel
theorem dX1_oddsFrom_5 : decode cX1_oddsFrom 5 = .ok (.invokevirtual 46, 3) := by decide +kernel
theorem dX1_oddsFrom_8 : decode cX1_oddsFrom 8 = .ok (.aload_n 0, 1) := by decide +kernel
theorem dX1_oddsFrom_9 : decode cX1_oddsFrom 9 = .ok (.aload_n 1, 1) := by decide +kernel
theorem dX1_oddsFrom_10 : decode cX1_oddsFrom 10 = .ok (.iconst (-1), 1) := by decide +kernel
theorem dX1_oddsFrom_11 : decode cX1_oddsFrom 11 = .ok (.iconst 0, 1) := by decide +kernel
theorem dX1_oddsFrom_12 : decode cX1_oddsFrom 12 = .ok (.invokevirtual 50, 3) := by decide +kernel
theorem dX1_oddsFrom_15 : decode cX1_oddsFrom 15 = .ok (.aload_n 0, 1) := by decide +kernel
theorem dX1_oddsFrom_16 : decode cX1_oddsFrom 16 = .ok (.invokevirtual 54, 3) := by decide +kernel
theorem dX1_oddsFrom_19 : decode cX1_oddsFrom 19 = .ok (.aload_n 0, 1) := by decide +kernel
theorem dX1_oddsFrom_20 : decode cX1_oddsFrom 20 = .ok (.aload_n 0, 1) := by decide +kernel
theorem dX1_oddsFrom_21 : decode cX1_oddsFrom 21 = .ok (.getfield 21, 3) := by decide +kernel
theorem dX1_oddsFrom_24 : decode cX1_oddsFrom 24 = .ok (.iconst 0, 1) := by decide +kernel
theorem dX1_oddsFrom_25 : decode cX1_oddsFrom 25 = .ok (.invokevirtual 60, 3) := by decide +kernel
theorem dX1_oddsFrom_28 : decode cX1_oddsFrom 28 = .ok (.ireturn, 1) := by decide +kernel
theorem dX1_firstSureDay_0 : decode cX1_firstSureDay 0 = .ok (.aload_n 0, 1) := by decide +kernel
theorem dX1_firstSureDay_1 : decode cX1_firstSureDay 1 = .ok (.aload_n 1, 1) := by decide +kernel
theorem dX1_firstSureDay_2 : decode cX1_firstSureDay 2 = .ok (.aload_n 1, 1) := by decide +kernel
theorem dX1_firstSureDay_3 : decode cX1_firstSureDay 3 = .ok (.getfield 33, 3) := by decide +kernel
theorem dX1_firstSureDay_6 : decode cX1_firstSureDay 6 = .ok (.aload_n 1, 1) := by decide +kernel
theorem dX1_firstSureDay_7 : decode cX1_firstSureDay 7 = .ok (.getfield 39, 3) := by decide +kernel
theorem dX1_firstSureDay_10 : decode cX1_firstSureDay 10 = .ok (.aload_n 1, 1) := by decide +kernel
theorem dX1_firstSureDay_11 : decode cX1_firstSureDay 11 = .ok (.invokevirtual 42, 3) := by decide +kernel
theorem dX1_firstSureDay_14 : decode cX1_firstSureDay 14 = .ok (.invokevirtual 46, 3) := by decide +kernel
theorem dX1_firstSureDay_17 : decode cX1_firstSureDay 17 = .ok (.aload_n 0, 1) := by decide +kernel
theorem dX1_firstSureDay_18 : decode cX1_firstSureDay 18 = .ok (.aload_n 1, 1) := by decide +kernel
theorem dX1_firstSureDay_19 : decode cX1_firstSureDay 19 = .ok (.iconst (-1), 1) := by decide +kernel
theorem dX1_firstSureDay_20 : decode cX1_firstSureDay 20 = .ok (.iconst 0, 1) := by decide +kernel
theorem dX1_firstSureDay_21 : decode cX1_firstSureDay 21 = .ok (.invokevirtual 50, 3) := by decide +kernel
theorem dX1_firstSureDay_24 : decode cX1_firstSureDay 24 = .ok (.aload_n 0, 1) := by decide +kernel
theorem dX1_firstSureDay_25 : decode cX1_firstSureDay 25 = .ok (.invokevirtual 64, 3) := by decide +kernel
theorem dX1_firstSureDay_28 : decode cX1_firstSureDay 28 = .ok (.bipush (-4), 2) := by decide +kernel
theorem dX1_firstSureDay_30 : decode cX1_firstSureDay 30 = .ok (.istore_n 3, 1) := by decide +kernel
theorem dX1_firstSureDay_31 : decode cX1_firstSureDay 31 = .ok (.aload_n 0, 1) := by decide +kernel
theorem dX1_firstSureDay_32 : decode cX1_firstSureDay 32 = .ok (.getfield 67, 3) := by decide +kernel
theorem dX1_firstSureDay_35 : decode cX1_firstSureDay 35 = .ok (.istore 4, 2) := by decide +kernel
theorem dX1_firstSureDay_37 : decode cX1_firstSureDay 37 = .ok (.iload 4, 2) := by decide +kernel
theorem dX1_firstSureDay_39 : decode cX1_firstSureDay 39 = .ok (.aload_n 0, 1) := by decide +kernel
theorem dX1_firstSureDay_40 : decode cX1_firstSureDay 40 = .ok (.getfield 70, 3) := by decide +kernel
theorem dX1_firstSureDay_43 : decode cX1_firstSureDay 43 = .ok (.if_icmp .le 51, 3) := by decide +kernel
theorem dX1_firstSureDay_46 : decode cX1_firstSureDay 46 = .ok (.iload 4, 2) := by decide +kernel
theorem dX1_firstSureDay_48 : decode cX1_firstSureDay 48 = .ok (.aload_n 0, 1) := by decide +kernel
theorem dX1_firstSureDay_49 : decode cX1_firstSureDay 49 = .ok (.getfield 67, 3) := by decide +kernel
theorem dX1_firstSureDay_52 : decode cX1_firstSureDay 52 = .ok (.if_icmp .ge 17, 3) := by decide +kernel
theorem dX1_firstSureDay_55 : decode cX1_firstSureDay 55 = .ok (.aload_n 0, 1) := by decide +kernel
theorem dX1_firstSureDay_56 : decode cX1_firstSureDay 56 = .ok (.aload_n 0, 1) := by decide +kernel
theorem dX1_firstSureDay_57 : decode cX1_firstSureDay 57 = .ok (.getfield 21, 3) := by decide +kernel
theorem dX1_firstSureDay_60 : decode cX1_firstSureDay 60 = .ok (.aload_n 0, 1) := by decide +kernel
theorem dX1_firstSureDay_61 : decode cX1_firstSureDay 61 = .ok (.getfield 15, 3) := by decide +kernel
theorem dX1_firstSureDay_64 : decode cX1_firstSureDay 64 = .ok (.iload 4, 2) := by decide +kernel
theorem dX1_firstSureDay_66 : decode cX1_firstSureDay 66 = .ok (.invokevirtual 71, 3) := by decide +kernel
theorem dX1_firstSureDay_69 : decode cX1_firstSureDay 69 = .ok (.aload_n 0, 1) := by decide +kernel
theorem dX1_firstSureDay_70 : decode cX1_firstSureDay 70 = .ok (.getfield 21, 3) := by decide +kernel
theorem dX1_firstSureDay_73 : decode cX1_firstSureDay 73 = .ok (.aload_n 0, 1) := by decide +kernel
theorem dX1_firstSureDay_74 : decode cX1_firstSureDay 74 = .ok (.getfield 27, 3) := by decide +kernel
theorem dX1_firstSureDay_77 : decode cX1_firstSureDay 77 = .ok (.iload 4, 2) := by decide +kernel
theorem dX1_firstSureDay_79 : decode cX1_firstSureDay 79 = .ok (.iaload, 1) := by decide +kernel
theorem dX1_firstSureDay_80 : decode cX1_firstSureDay 80 = .ok (.iaload, 1) := by decide +kernel
theorem dX1_firstSureDay_81 : decode cX1_firstSureDay 81 = .ok (.iload_n 2, 1) := by decide +kernel
theorem dX1_firstSureDay_82 : decode cX1_firstSureDay 82 = .ok (.if_icmp .lt 6, 3) := by decide +kernel
theorem dX1_firstSureDay_85 : decode cX1_firstSureDay 85 = .ok (.iload 4, 2) := by decide +kernel
theorem dX1_firstSureDay_87 : decode cX1_firstSureDay 87 = .ok (.istore_n 3, 1) := by decide +kernel
theorem dX1_firstSureDay_88 : decode cX1_firstSureDay 88 = .ok (.iinc 4 (-1), 3) := by decide +kernel
theorem dX1_firstSureDay_91 : decode cX1_firstSureDay 91 = .ok (.goto (-54), 3) := by decide +kernel
theorem dX1_firstSureDay_94 : decode cX1_firstSureDay 94 = .ok (.aload_n 0, 1) := by decide +kernel
theorem dX1_firstSureDay_95 : decode cX1_firstSureDay 95 = .ok (.aload_n 0, 1) := by decide +kernel
theorem dX1_firstSureDay_96 : decode cX1_firstSureDay 96 = .ok (.getfield 21, 3) := by decide +kernel
theorem dX1_firstSureDay_99 : decode cX1_firstSureDay 99 = .ok (.aload_n 0, 1) := by decide +kernel
theorem dX1_firstSureDay_100 : decode cX1_firstSureDay 100 = .ok (.getfield 57, 3) := by decide +kernel
theorem dX1_firstSureDay_103 : decode cX1_firstSureDay 103 = .ok (.invokevirtual 60, 3) := by decide +kernel
theorem dX1_firstSureDay_106 : decode cX1_firstSureDay 106 = .ok (.iload_n 2, 1) := by decide +kernel
theorem dX1_firstSureDay_107 : decode cX1_firstSureDay 107 = .ok (.if_icmp .lt 10, 3) := by decide +kernel
theorem dX1_firstSureDay_110 : decode cX1_firstSureDay 110 = .ok (.aload_n 0, 1) := by decide +kernel
theorem dX1_firstSureDay_111 : decode cX1_firstSureDay 111 = .ok (.getfield 70, 3) := by decide +kernel
theorem dX1_firstSureDay_114 : decode cX1_firstSureDay 114 = .ok (.goto 4, 3) := by decide +kernel
theorem dX1_firstSureDay_117 : decode cX1_firstSureDay 117 = .ok (.iload_n 3, 1) := by decide +kernel
theorem dX1_firstSureDay_118 : decode cX1_firstSureDay 118 = .ok (.ireturn, 1) := by decide +kernel
theorem dX1_fewestHindrances_0 : decode cX1_fewestHindrances 0 = .ok (.aload_n 0, 1) := by decide +kernel
theorem dX1_fewestHindrances_1 : decode cX1_fewestHindrances 1 = .ok (.aload_n 1, 1) := by decide +kernel
theorem dX1_fewestHindrances_2 : decode cX1_fewestHindrances 2 = .ok (.aload_n 1, 1) := by decide +kernel
theorem dX1_fewestHindrances_3 : decode cX1_fewestHindrances 3 = .ok (.getfield 33, 3) := by decide +kernel
theorem dX1_fewestHindrances_6 : decode cX1_fewestHindrances 6 = .ok (.aload_n 1, 1) := by decide +kernel
theorem dX1_fewestHindrances_7 : decode cX1_fewestHindrances 7 = .ok (.getfield 39, 3) := by decide +kernel
theorem dX1_fewestHindrances_10 : decode cX1_fewestHindrances 10 = .ok (.aload_n 1, 1) := by decide +kernel
theorem dX1_fewestHindrances_11 : decode cX1_fewestHindrances 11 = .ok (.invokevirtual 42, 3) := by decide +kernel
theorem dX1_fewestHindrances_14 : decode cX1_fewestHindrances 14 = .ok (.invokevirtual 46, 3) := by decide +kernel
theorem dX1_fewestHindrances_17 : decode cX1_fewestHindrances 17 = .ok (.aload_n 0, 1) := by decide +kernel
theorem dX1_fewestHindrances_18 : decode cX1_fewestHindrances 18 = .ok (.aload_n 1, 1) := by decide +kernel
theorem dX1_fewestHindrances_19 : decode cX1_fewestHindrances 19 = .ok (.iconst (-1), 1) := by decide +kernel
theorem dX1_fewestHindrances_20 : decode cX1_fewestHindrances 20 = .ok (.iconst 0, 1) := by decide +kernel
theorem dX1_fewestHindrances_21 : decode cX1_fewestHindrances 21 = .ok (.invokevirtual 50, 3) := by decide +kernel
theorem dX1_fewestHindrances_24 : decode cX1_fewestHindrances 24 = .ok (.aload_n 0, 1) := by decide +kernel
theorem dX1_fewestHindrances_25 : decode cX1_fewestHindrances 25 = .ok (.invokevirtual 54, 3) := by decide +kernel
theorem dX1_fewestHindrances_28 : decode cX1_fewestHindrances 28 = .ok (.aload_n 1, 1) := by decide +kernel
theorem dX1_fewestHindrances_29 : decode cX1_fewestHindrances 29 = .ok (.getfield 75, 3) := by decide +kernel
theorem dX1_fewestHindrances_32 : decode cX1_fewestHindrances 32 = .ok (.aload_n 1, 1) := by decide +kernel
theorem dX1_fewestHindrances_33 : decode cX1_fewestHindrances 33 = .ok (.invokevirtual 78, 3) := by decide +kernel
theorem dX1_fewestHindrances_36 : decode cX1_fewestHindrances 36 = .ok (.ior, 1) := by decide +kernel
theorem dX1_fewestHindrances_37 : decode cX1_fewestHindrances 37 = .ok (.istore_n 3, 1) := by decide +kernel
theorem dX1_fewestHindrances_38 : decode cX1_fewestHindrances 38 = .ok (.iconst (-1), 1) := by decide +kernel
theorem dX1_fewestHindrances_39 : decode cX1_fewestHindrances 39 = .ok (.istore 4, 2) := by decide +kernel
theorem dX1_fewestHindrances_41 : decode cX1_fewestHindrances 41 = .ok (.iconst 0, 1) := by decide +kernel
theorem dX1_fewestHindrances_42 : decode cX1_fewestHindrances 42 = .ok (.istore 5, 2) := by decide +kernel
theorem dX1_fewestHindrances_44 : decode cX1_fewestHindrances 44 = .ok (.iload 5, 2) := by decide +kernel
theorem dX1_fewestHindrances_46 : decode cX1_fewestHindrances 46 = .ok (.iconst 1, 1) := by decide +kernel
theorem dX1_fewestHindrances_47 : decode cX1_fewestHindrances 47 = .ok (.aload_n 1, 1) := by decide +kernel
theorem dX1_fewestHindrances_48 : decode cX1_fewestHindrances 48 = .ok (.getfield 81, 3) := by decide +kernel
theorem dX1_fewestHindrances_51 : decode cX1_fewestHindrances 51 = .ok (.ishl, 1) := by decide +kernel
theorem dX1_fewestHindrances_52 : decode cX1_fewestHindrances 52 = .ok (.if_icmp .ge 73, 3) := by decide +kernel
theorem dX1_fewestHindrances_55 : decode cX1_fewestHindrances 55 = .ok (.iload 4, 2) := by decide +kernel
theorem dX1_fewestHindrances_57 : decode cX1_fewestHindrances 57 = .ok (.ifCond .lt 16, 3) := by decide +kernel
theorem dX1_fewestHindrances_60 : decode cX1_fewestHindrances 60 = .ok (.iload 5, 2) := by decide +kernel
theorem dX1_fewestHindrances_62 : decode cX1_fewestHindrances 62 = .ok (.invokestatic 84, 3) := by decide +kernel
theorem dX1_fewestHindrances_65 : decode cX1_fewestHindrances 65 = .ok (.iload 4, 2) := by decide +kernel
theorem dX1_fewestHindrances_67 : decode cX1_fewestHindrances 67 = .ok (.invokestatic 84, 3) := by decide +kernel
theorem dX1_fewestHindrances_70 : decode cX1_fewestHindrances 70 = .ok (.if_icmp .ge 7, 3) := by decide +kernel
theorem dX1_fewestHindrances_73 : decode cX1_fewestHindrances 73 = .ok (.iconst 1, 1) := by decide +kernel
theorem dX1_fewestHindrances_74 : decode cX1_fewestHindrances 74 = .ok (.goto 4, 3) := by decide +kernel
theorem dX1_fewestHindrances_77 : decode cX1_fewestHindrances 77 = .ok (.iconst 0, 1) := by decide +kernel
theorem dX1_fewestHindrances_78 : decode cX1_fewestHindrances 78 = .ok (.istore 6, 2) := by decide +kernel
theorem dX1_fewestHindrances_80 : decode cX1_fewestHindrances 80 = .ok (.iload 6, 2) := by decide +kernel
theorem dX1_fewestHindrances_82 : decode cX1_fewestHindrances 82 = .ok (.ifCond .eq 37, 3) := by decide +kernel
theorem dX1_fewestHindrances_85 : decode cX1_fewestHindrances 85 = .ok (.iload 5, 2) := by decide +kernel
theorem dX1_fewestHindrances_87 : decode cX1_fewestHindrances 87 = .ok (.iload_n 3, 1) := by decide +kernel
theorem dX1_fewestHindrances_88 : decode cX1_fewestHindrances 88 = .ok (.iand, 1) := by decide +kernel
theorem dX1_fewestHindrances_89 : decode cX1_fewestHindrances 89 = .ok (.ifCond .ne 30, 3) := by decide +kernel
theorem dX1_fewestHindrances_92 : decode cX1_fewestHindrances 92 = .ok (.aload_n 0, 1) := by decide +kernel
theorem dX1_fewestHindrances_93 : decode cX1_fewestHindrances 93 = .ok (.aload_n 0, 1) := by decide +kernel
theorem dX1_fewestHindrances_94 : decode cX1_fewestHindrances 94 = .ok (.getfield 21, 3) := by decide +kernel
theorem dX1_fewestHindrances_97 : decode cX1_fewestHindrances 97 = .ok (.aload_n 0, 1) := by decide +kernel
theorem dX1_fewestHindrances_98 : decode cX1_fewestHindrances 98 = .ok (.getfield 57, 3) := by decide +kernel
theorem dX1_fewestHindrances_101 : decode cX1_fewestHindrances 101 = .ok (.aload_n 1, 1) := by decide +kernel
theorem dX1_fewestHindrances_102 : decode cX1_fewestHindrances 102 = .ok (.iload 5, 2) := by decide +kernel
theorem dX1_fewestHindrances_104 : decode cX1_fewestHindrances 104 = .ok (.invokevirtual 90, 3) := by decide +kernel
theorem dX1_fewestHindrances_107 : decode cX1_fewestHindrances 107 = .ok (.iadd, 1) := by decide +kernel
theorem dX1_fewestHindrances_108 : decode cX1_fewestHindrances 108 = .ok (.invokevirtual 60, 3) := by decide +kernel
theorem dX1_fewestHindrances_111 : decode cX1_fewestHindrances 111 = .ok (.iload_n 2, 1) := by decide +kernel
theorem dX1_fewestHindrances_112 : decode cX1_fewestHindrances 112 = .ok (.if_icmp .gt 7, 3) := by decide +kernel
theorem dX1_fewestHindrances_115 : decode cX1_fewestHindrances 115 = .ok (.iload 5, 2) := by decide +kernel
theorem dX1_fewestHindrances_117 : decode cX1_fewestHindrances 117 = .ok (.istore 4, 2) := by decide +kernel
theorem dX1_fewestHindrances_119 : decode cX1_fewestHindrances 119 = .ok (.iinc 5 1, 3) := by decide +kernel
theorem dX1_fewestHindrances_122 : decode cX1_fewestHindrances 122 = .ok (.goto (-78), 3) := by decide +kernel
theorem dX1_fewestHindrances_125 : decode cX1_fewestHindrances 125 = .ok (.iload 4, 2) := by decide +kernel
theorem dX1_fewestHindrances_127 : decode cX1_fewestHindrances 127 = .ok (.ireturn, 1) := by decide +kernel
theorem dX1_findBestDay_0 : decode cX1_findBestDay 0 = .ok (.aload_n 0, 1) := by decide +kernel
theorem dX1_findBestDay_1 : decode cX1_findBestDay 1 = .ok (.aload_n 1, 1) := by decide +kernel
theorem dX1_findBestDay_2 : decode cX1_findBestDay 2 = .ok (.aload_n 1, 1) := by decide +kernel
theorem dX1_findBestDay_3 : decode cX1_findBestDay 3 = .ok (.getfield 33, 3) := by decide +kernel
theorem dX1_findBestDay_6 : decode cX1_findBestDay 6 = .ok (.aload_n 1, 1) := by decide +kernel
theorem dX1_findBestDay_7 : decode cX1_findBestDay 7 = .ok (.getfield 39, 3) := by decide +kernel
theorem dX1_findBestDay_10 : decode cX1_findBestDay 10 = .ok (.aload_n 1, 1) := by decide +kernel
theorem dX1_findBestDay_11 : decode cX1_findBestDay 11 = .ok (.invokevirtual 42, 3) := by decide +kernel
theorem dX1_findBestDay_14 : decode cX1_findBestDay 14 = .ok (.invokevirtual 46, 3) := by decide +kernel
theorem dX1_findBestDay_17 : decode cX1_findBestDay 17 = .ok (.aload_n 0, 1) := by decide +kernel
theorem dX1_findBestDay_18 : decode cX1_findBestDay 18 = .ok (.aload_n 1, 1) := by decide +kernel
theorem dX1_findBestDay_19 : decode cX1_findBestDay 19 = .ok (.iconst (-1), 1) := by decide +kernel
theorem dX1_findBestDay_20 : decode cX1_findBestDay 20 = .ok (.iconst 0, 1) := by decide +kernel
theorem dX1_findBestDay_21 : decode cX1_findBestDay 21 = .ok (.invokevirtual 50, 3) := by decide +kernel
theorem dX1_findBestDay_24 : decode cX1_findBestDay 24 = .ok (.aload_n 0, 1) := by decide +kernel
theorem dX1_findBestDay_25 : decode cX1_findBestDay 25 = .ok (.aload_n 0, 1) := by decide +kernel
theorem dX1_findBestDay_26 : decode cX1_findBestDay 26 = .ok (.getfield 18, 3) := by decide +kernel
theorem dX1_findBestDay_29 : decode cX1_findBestDay 29 = .ok (.iload_n 2, 1) := by decide +kernel
theorem dX1_findBestDay_30 : decode cX1_findBestDay 30 = .ok (.invokevirtual 93, 3) := by decide +kernel
theorem dX1_findBestDay_33 : decode cX1_findBestDay 33 = .ok (.aload_n 0, 1) := by decide +kernel
theorem dX1_findBestDay_34 : decode cX1_findBestDay 34 = .ok (.invokevirtual 64, 3) := by decide +kernel
theorem dX1_findBestDay_37 : decode cX1_findBestDay 37 = .ok (.aload_n 0, 1) := by decide +kernel
theorem dX1_findBestDay_38 : decode cX1_findBestDay 38 = .ok (.aload_n 0, 1) := by decide +kernel
theorem dX1_findBestDay_39 : decode cX1_findBestDay 39 = .ok (.getfield 70, 3) := by decide +kernel
theorem dX1_findBestDay_42 : decode cX1_findBestDay 42 = .ok (.putfield 97, 3) := by decide +kernel
theorem dX1_findBestDay_45 : decode cX1_findBestDay 45 = .ok (.aload_n 0, 1) := by decide +kernel
theorem dX1_findBestDay_46 : decode cX1_findBestDay 46 = .ok (.ldc 100, 2) := by decide +kernel
theorem dX1_findBestDay_48 : decode cX1_findBestDay 48 = .ok (.putfield 101, 3) := by decide +kernel
theorem dX1_findBestDay_51 : decode cX1_findBestDay 51 = .ok (.aload_n 0, 1) := by decide +kernel
theorem dX1_findBestDay_52 : decode cX1_findBestDay 52 = .ok (.getfield 67, 3) := by decide +kernel
theorem dX1_findBestDay_55 : decode cX1_findBestDay 55 = .ok (.iconst 1, 1) := by decide +kernel
theorem dX1_findBestDay_56 : decode cX1_findBestDay 56 = .ok (.isub, 1) := by decide +kernel
theorem dX1_findBestDay_57 : decode cX1_findBestDay 57 = .ok (.istore_n 3, 1) := by decide +kernel
theorem dX1_findBestDay_58 : decode cX1_findBestDay 58 = .ok (.iload_n 3, 1) := by decide +kernel
theorem dX1_findBestDay_59 : decode cX1_findBestDay 59 = .ok (.aload_n 0, 1) := by decide +kernel
theorem dX1_findBestDay_60 : decode cX1_findBestDay 60 = .ok (.getfield 70, 3) := by decide +kernel
theorem dX1_findBestDay_63 : decode cX1_findBestDay 63 = .ok (.if_icmp .lt 74, 3) := by decide +kernel
theorem dX1_findBestDay_66 : decode cX1_findBestDay 66 = .ok (.iload_n 3, 1) := by decide +kernel
theorem dX1_findBestDay_67 : decode cX1_findBestDay 67 = .ok (.aload_n 0, 1) := by decide +kernel
theorem dX1_findBestDay_68 : decode cX1_findBestDay 68 = .ok (.getfield 70, 3) := by decide +kernel
theorem dX1_findBestDay_71 : decode cX1_findBestDay 71 = .ok (.if_icmp .ne 20, 3) := by decide +kernel
theorem dX1_findBestDay_74 : decode cX1_findBestDay 74 = .ok (.aload_n 0, 1) := by decide +kernel
theorem dX1_findBestDay_75 : decode cX1_findBestDay 75 = .ok (.aload_n 0, 1) := by decide +kernel
theorem dX1_findBestDay_76 : decode cX1_findBestDay 76 = .ok (.getfield 21, 3) := by decide +kernel
theorem dX1_findBestDay_79 : decode cX1_findBestDay 79 = .ok (.aload_n 0, 1) := by decide +kernel
theorem dX1_findBestDay_80 : decode cX1_findBestDay 80 = .ok (.getfield 57, 3) := by decide +kernel
theorem dX1_findBestDay_83 : decode cX1_findBestDay 83 = .ok (.iload_n 2, 1) := by decide +kernel
theorem dX1_findBestDay_84 : decode cX1_findBestDay 84 = .ok (.iadd, 1) := by decide +kernel
theorem dX1_findBestDay_85 : decode cX1_findBestDay 85 = .ok (.invokevirtual 60, 3) := by decide +kernel
theorem dX1_findBestDay_88 : decode cX1_findBestDay 88 = .ok (.goto 8, 3) := by decide +kernel
theorem dX1_findBestDay_91 : decode cX1_findBestDay 91 = .ok (.aload_n 0, 1) := by decide +kernel
theorem dX1_findBestDay_92 : decode cX1_findBestDay 92 = .ok (.iload_n 3, 1) := by decide +kernel
theorem dX1_findBestDay_93 : decode cX1_findBestDay 93 = .ok (.invokevirtual 104, 3) := by decide +kernel
theorem dX1_findBestDay_96 : decode cX1_findBestDay 96 = .ok (.istore 4, 2) := by decide +kernel
theorem dX1_findBestDay_98 : decode cX1_findBestDay 98 = .ok (.iload 4, 2) := by decide +kernel
theorem dX1_findBestDay_100 : decode cX1_findBestDay 100 = .ok (.aload_n 0, 1) := by decide +kernel
theorem dX1_findBestDay_101 : decode cX1_findBestDay 101 = .ok (.getfield 101, 3) := by decide +kernel
theorem dX1_findBestDay_104 : decode cX1_findBestDay 104 = .ok (.if_icmp .gt 14, 3) := by decide +kernel
theorem dX1_findBestDay_107 : decode cX1_findBestDay 107 = .ok (.aload_n 0, 1) := by decide +kernel
theorem dX1_findBestDay_108 : decode cX1_findBestDay 108 = .ok (.iload 4, 2) := by decide +kernel
theorem dX1_findBestDay_110 : decode cX1_findBestDay 110 = .ok (.putfield 101, 3) := by decide +kernel
theorem dX1_findBestDay_113 : decode cX1_findBestDay 113 = .ok (.aload_n 0, 1) := by decide +kernel
theorem dX1_findBestDay_114 : decode cX1_findBestDay 114 = .ok (.iload_n 3, 1) := by decide +kernel
theorem dX1_findBestDay_115 : decode cX1_findBestDay 115 = .ok (.putfield 97, 3) := by decide +kernel
theorem dX1_findBestDay_118 : decode cX1_findBestDay 118 = .ok (.aload_n 0, 1) := by decide +kernel
theorem dX1_findBestDay_119 : decode cX1_findBestDay 119 = .ok (.aload_n 0, 1) := by decide +kernel
theorem dX1_findBestDay_120 : decode cX1_findBestDay 120 = .ok (.getfield 21, 3) := by decide +kernel
theorem dX1_findBestDay_123 : decode cX1_findBestDay 123 = .ok (.aload_n 0, 1) := by decide +kernel
theorem dX1_findBestDay_124 : decode cX1_findBestDay 124 = .ok (.getfield 15, 3) := by decide +kernel
theorem dX1_findBestDay_127 : decode cX1_findBestDay 127 = .ok (.iload_n 3, 1) := by decide +kernel
theorem dX1_findBestDay_128 : decode cX1_findBestDay 128 = .ok (.invokevirtual 71, 3) := by decide +kernel
theorem dX1_findBestDay_131 : decode cX1_findBestDay 131 = .ok (.iinc 3 (-1), 3) := by decide +kernel
theorem dX1_findBestDay_134 : decode cX1_findBestDay 134 = .ok (.goto (-76), 3) := by decide +kernel
theorem dX1_findBestDay_137 : decode cX1_findBestDay 137 = .ok (.return_, 1) := by decide +kernel
theorem dX1_oddsIfHindered_0 : decode cX1_oddsIfHindered 0 = .ok (.aload_n 0, 1) := by decide +kernel
theorem dX1_oddsIfHindered_1 : decode cX1_oddsIfHindered 1 = .ok (.getfield 21, 3) := by decide +kernel
theorem dX1_oddsIfHindered_4 : decode cX1_oddsIfHindered 4 = .ok (.iconst 0, 1) := by decide +kernel
theorem dX1_oddsIfHindered_5 : decode cX1_oddsIfHindered 5 = .ok (.aload_n 0, 1) := by decide +kernel
theorem dX1_oddsIfHindered_6 : decode cX1_oddsIfHindered 6 = .ok (.getfield 24, 3) := by decide +kernel
theorem dX1_oddsIfHindered_9 : decode cX1_oddsIfHindered 9 = .ok (.iconst 0, 1) := by decide +kernel
theorem dX1_oddsIfHindered_10 : decode cX1_oddsIfHindered 10 = .ok (.sipush 201, 3) := by decide +kernel
theorem dX1_oddsIfHindered_13 : decode cX1_oddsIfHindered 13 = .ok (.invokestatic 107, 3) := by decide +kernel
theorem dX1_oddsIfHindered_16 : decode cX1_oddsIfHindered 16 = .ok (.aload_n 0, 1) := by decide +kernel
theorem dX1_oddsIfHindered_17 : decode cX1_oddsIfHindered 17 = .ok (.aload_n 0, 1) := by decide +kernel
theorem dX1_oddsIfHindered_18 : decode cX1_oddsIfHindered 18 = .ok (.getfield 24, 3) := by decide +kernel
theorem dX1_oddsIfHindered_21 : decode cX1_oddsIfHindered 21 = .ok (.aload_n 0, 1) := by decide +kernel
theorem dX1_oddsIfHindered_22 : decode cX1_oddsIfHindered 22 = .ok (.getfield 18, 3) := by decide +kernel
theorem dX1_oddsIfHindered_25 : decode cX1_oddsIfHindered 25 = .ok (.iload_n 1, 1) := by decide +kernel
theorem dX1_oddsIfHindered_26 : decode cX1_oddsIfHindered 26 = .ok (.invokevirtual 71, 3) := by decide +kernel
theorem dX1_oddsIfHindered_29 : decode cX1_oddsIfHindered 29 = .ok (.iload_n 1, 1) := by decide +kernel
theorem dX1_oddsIfHindered_30 : decode cX1_oddsIfHindered 30 = .ok (.iconst 1, 1) := by decide +kernel
theorem dX1_oddsIfHindered_31 : decode cX1_oddsIfHindered 31 = .ok (.isub, 1) := by decide +kernel
theorem dX1_oddsIfHindered_32 : decode cX1_oddsIfHindered 32 = .ok (.istore_n 2, 1) := by decide +kernel
theorem dX1_oddsIfHindered_33 : decode cX1_oddsIfHindered 33 = .ok (.iload_n 2, 1) := by decide +kernel
theorem dX1_oddsIfHindered_34 : decode cX1_oddsIfHindered 34 = .ok (.aload_n 0, 1) := by decide +kernel
theorem dX1_oddsIfHindered_35 : decode cX1_oddsIfHindered 35 = .ok (.getfield 70, 3) := by decide +kernel
theorem dX1_oddsIfHindered_38 : decode cX1_oddsIfHindered 38 = .ok (.if_icmp .le 22, 3) := by decide +kernel
theorem dX1_oddsIfHindered_41 : decode cX1_oddsIfHindered 41 = .ok (.aload_n 0, 1) := by decide +kernel
theorem dX1_oddsIfHindered_42 : decode cX1_oddsIfHindered 42 = .ok (.aload_n 0, 1) := by decide +kernel
theorem dX1_oddsIfHindered_43 : decode cX1_oddsIfHindered 43 = .ok (.getfield 24, 3) := by decide +kernel
theorem dX1_oddsIfHindered_46 : decode cX1_oddsIfHindered 46 = .ok (.aload_n 0, 1) := by decide +kernel
theorem dX1_oddsIfHindered_47 : decode cX1_oddsIfHindered 47 = .ok (.getfield 15, 3) := by decide +kernel
theorem dX1_oddsIfHindered_50 : decode cX1_oddsIfHindered 50 = .ok (.iload_n 2, 1) := by decide +kernel
theorem dX1_oddsIfHindered_51 : decode cX1_oddsIfHindered 51 = .ok (.invokevirtual 71, 3) := by decide +kernel
theorem dX1_oddsIfHindered_54 : decode cX1_oddsIfHindered 54 = .ok (.iinc 2 (-1), 3) := by decide +kernel
theorem dX1_oddsIfHindered_57 : decode cX1_oddsIfHindered 57 = .ok (.goto (-24), 3) := by decide +kernel
theorem dX1_oddsIfHindered_60 : decode cX1_oddsIfHindered 60 = .ok (.aload_n 0, 1) := by decide +kernel
theorem dX1_oddsIfHindered_61 : decode cX1_oddsIfHindered 61 = .ok (.aload_n 0, 1) := by decide +kernel
theorem dX1_oddsIfHindered_62 : decode cX1_oddsIfHindered 62 = .ok (.getfield 24, 3) := by decide +kernel
theorem dX1_oddsIfHindered_65 : decode cX1_oddsIfHindered 65 = .ok (.aload_n 0, 1) := by decide +kernel
theorem dX1_oddsIfHindered_66 : decode cX1_oddsIfHindered 66 = .ok (.getfield 57, 3) := by decide +kernel
theorem dX1_oddsIfHindered_69 : decode cX1_oddsIfHindered 69 = .ok (.invokevirtual 60, 3) := by decide +kernel
theorem dX1_oddsIfHindered_72 : decode cX1_oddsIfHindered 72 = .ok (.ireturn, 1) := by decide +kernel
theorem dX1_sumOfLaid_0 : decode cX1_sumOfLaid 0 = .ok (.aload_n 0, 1) := by decide +kernel
theorem dX1_sumOfLaid_1 : decode cX1_sumOfLaid 1 = .ok (.aload_n 1, 1) := by decide +kernel
theorem dX1_sumOfLaid_2 : decode cX1_sumOfLaid 2 = .ok (.aload_n 1, 1) := by decide +kernel
theorem dX1_sumOfLaid_3 : decode cX1_sumOfLaid 3 = .ok (.getfield 33, 3) := by decide +kernel
theorem dX1_sumOfLaid_6 : decode cX1_sumOfLaid 6 = .ok (.aload_n 1, 1) := by decide +kernel
theorem dX1_sumOfLaid_7 : decode cX1_sumOfLaid 7 = .ok (.getfield 39, 3) := by decide +kernel
theorem dX1_sumOfLaid_10 : decode cX1_sumOfLaid 10 = .ok (.aload_n 1, 1) := by decide +kernel
theorem dX1_sumOfLaid_11 : decode cX1_sumOfLaid 11 = .ok (.invokevirtual 42, 3) := by decide +kernel
theorem dX1_sumOfLaid_14 : decode cX1_sumOfLaid 14 = .ok (.invokevirtual 46, 3) := by decide +kernel
theorem dX1_sumOfLaid_17 : decode cX1_sumOfLaid 17 = .ok (.aload_n 0, 1) := by decide +kernel
theorem dX1_sumOfLaid_18 : decode cX1_sumOfLaid 18 = .ok (.aload_n 1, 1) := by decide +kernel
theorem dX1_sumOfLaid_19 : decode cX1_sumOfLaid 19 = .ok (.iconst (-1), 1) := by decide +kernel
theorem dX1_sumOfLaid_20 : decode cX1_sumOfLaid 20 = .ok (.iconst 0, 1) := by decide +kernel
theorem dX1_sumOfLaid_21 : decode cX1_sumOfLaid 21 = .ok (.invokevirtual 50, 3) := by decide +kernel
theorem dX1_sumOfLaid_24 : decode cX1_sumOfLaid 24 = .ok (.iconst 0, 1) := by decide +kernel
theorem dX1_sumOfLaid_25 : decode cX1_sumOfLaid 25 = .ok (.istore_n 3, 1) := by decide +kernel
theorem dX1_sumOfLaid_26 : decode cX1_sumOfLaid 26 = .ok (.iload_n 3, 1) := by decide +kernel
theorem dX1_sumOfLaid_27 : decode cX1_sumOfLaid 27 = .ok (.sipush 201, 3) := by decide +kernel
theorem dX1_sumOfLaid_30 : decode cX1_sumOfLaid 30 = .ok (.if_icmp .ge 16, 3) := by decide +kernel
theorem dX1_sumOfLaid_33 : decode cX1_sumOfLaid 33 = .ok (.aload_n 0, 1) := by decide +kernel
theorem dX1_sumOfLaid_34 : decode cX1_sumOfLaid 34 = .ok (.getfield 30, 3) := by decide +kernel
theorem dX1_sumOfLaid_37 : decode cX1_sumOfLaid 37 = .ok (.iload_n 3, 1) := by decide +kernel
theorem dX1_sumOfLaid_38 : decode cX1_sumOfLaid 38 = .ok (.iconst 0, 1) := by decide +kernel
theorem dX1_sumOfLaid_39 : decode cX1_sumOfLaid 39 = .ok (.iastore, 1) := by decide +kernel
theorem dX1_sumOfLaid_40 : decode cX1_sumOfLaid 40 = .ok (.iinc 3 1, 3) := by decide +kernel
theorem dX1_sumOfLaid_43 : decode cX1_sumOfLaid 43 = .ok (.goto (-17), 3) := by decide +kernel
theorem dX1_sumOfLaid_46 : decode cX1_sumOfLaid 46 = .ok (.aload_n 0, 1) := by decide +kernel
theorem dX1_sumOfLaid_47 : decode cX1_sumOfLaid 47 = .ok (.getfield 30, 3) := by decide +kernel
theorem dX1_sumOfLaid_50 : decode cX1_sumOfLaid 50 = .ok (.aload_n 0, 1) := by decide +kernel
theorem dX1_sumOfLaid_51 : decode cX1_sumOfLaid 51 = .ok (.getfield 113, 3) := by decide +kernel
theorem dX1_sumOfLaid_54 : decode cX1_sumOfLaid 54 = .ok (.iconst 1, 1) := by decide +kernel
theorem dX1_sumOfLaid_55 : decode cX1_sumOfLaid 55 = .ok (.iastore, 1) := by decide +kernel
theorem dX1_sumOfLaid_56 : decode cX1_sumOfLaid 56 = .ok (.iconst 0, 1) := by decide +kernel
theorem dX1_sumOfLaid_57 : decode cX1_sumOfLaid 57 = .ok (.istore_n 3, 1) := by decide +kernel
theorem dX1_sumOfLaid_58 : decode cX1_sumOfLaid 58 = .ok (.iload_n 3, 1) := by decide +kernel
theorem dX1_sumOfLaid_59 : decode cX1_sumOfLaid 59 = .ok (.iload_n 2, 1) := by decide +kernel
theorem dX1_sumOfLaid_60 : decode cX1_sumOfLaid 60 = .ok (.if_icmp .ge 25, 3) := by decide +kernel
theorem dX1_sumOfLaid_63 : decode cX1_sumOfLaid 63 = .ok (.aload_n 0, 1) := by decide +kernel
theorem dX1_sumOfLaid_64 : decode cX1_sumOfLaid 64 = .ok (.iload_n 3, 1) := by decide +kernel
theorem dX1_sumOfLaid_65 : decode cX1_sumOfLaid 65 = .ok (.ifCond .ne 10, 3) := by decide +kernel
theorem dX1_sumOfLaid_68 : decode cX1_sumOfLaid 68 = .ok (.aload_n 0, 1) := by decide +kernel
theorem dX1_sumOfLaid_69 : decode cX1_sumOfLaid 69 = .ok (.getfield 57, 3) := by decide +kernel
theorem dX1_sumOfLaid_72 : decode cX1_sumOfLaid 72 = .ok (.goto 4, 3) := by decide +kernel
theorem dX1_sumOfLaid_75 : decode cX1_sumOfLaid 75 = .ok (.iconst 0, 1) := by decide +kernel
theorem dX1_sumOfLaid_76 : decode cX1_sumOfLaid 76 = .ok (.invokevirtual 114, 3) := by decide +kernel
theorem dX1_sumOfLaid_79 : decode cX1_sumOfLaid 79 = .ok (.iinc 3 1, 3) := by decide +kernel
theorem dX1_sumOfLaid_82 : decode cX1_sumOfLaid 82 = .ok (.goto (-24), 3) := by decide +kernel
theorem dX1_sumOfLaid_85 : decode cX1_sumOfLaid 85 = .ok (.iconst 0, 1) := by decide +kernel
theorem dX1_sumOfLaid_86 : decode cX1_sumOfLaid 86 = .ok (.istore_n 3, 1) := by decide +kernel
theorem dX1_sumOfLaid_87 : decode cX1_sumOfLaid 87 = .ok (.aload_n 0, 1) := by decide +kernel
theorem dX1_sumOfLaid_88 : decode cX1_sumOfLaid 88 = .ok (.getfield 113, 3) := by decide +kernel
theorem dX1_sumOfLaid_91 : decode cX1_sumOfLaid 91 = .ok (.istore 4, 2) := by decide +kernel
theorem dX1_sumOfLaid_93 : decode cX1_sumOfLaid 93 = .ok (.iload 4, 2) := by decide +kernel
theorem dX1_sumOfLaid_95 : decode cX1_sumOfLaid 95 = .ok (.aload_n 0, 1) := by decide +kernel
theorem dX1_sumOfLaid_96 : decode cX1_sumOfLaid 96 = .ok (.getfield 118, 3) := by decide +kernel
theorem dX1_sumOfLaid_99 : decode cX1_sumOfLaid 99 = .ok (.if_icmp .gt 22, 3) := by decide +kernel
theorem dX1_sumOfLaid_102 : decode cX1_sumOfLaid 102 = .ok (.iload_n 3, 1) := by decide +kernel
theorem dX1_sumOfLaid_103 : decode cX1_sumOfLaid 103 = .ok (.iload 4, 2) := by decide +kernel
theorem dX1_sumOfLaid_105 : decode cX1_sumOfLaid 105 = .ok (.aload_n 0, 1) := by decide +kernel
theorem dX1_sumOfLaid_106 : decode cX1_sumOfLaid 106 = .ok (.getfield 30, 3) := by decide +kernel
theorem dX1_sumOfLaid_109 : decode cX1_sumOfLaid 109 = .ok (.iload 4, 2) := by decide +kernel
theorem dX1_sumOfLaid_111 : decode cX1_sumOfLaid 111 = .ok (.iaload, 1) := by decide +kernel
theorem dX1_sumOfLaid_112 : decode cX1_sumOfLaid 112 = .ok (.imul, 1) := by decide +kernel
theorem dX1_sumOfLaid_113 : decode cX1_sumOfLaid 113 = .ok (.iadd, 1) := by decide +kernel
theorem dX1_sumOfLaid_114 : decode cX1_sumOfLaid 114 = .ok (.istore_n 3, 1) := by decide +kernel
theorem dX1_sumOfLaid_115 : decode cX1_sumOfLaid 115 = .ok (.iinc 4 1, 3) := by decide +kernel
theorem dX1_sumOfLaid_118 : decode cX1_sumOfLaid 118 = .ok (.goto (-25), 3) := by decide +kernel
theorem dX1_sumOfLaid_121 : decode cX1_sumOfLaid 121 = .ok (.iload_n 3, 1) := by decide +kernel
theorem dX1_sumOfLaid_122 : decode cX1_sumOfLaid 122 = .ok (.ireturn, 1) := by decide +kernel
theorem dX1_spread_0 : decode cX1_spread 0 = .ok (.aload_n 0, 1) := by decide +kernel
theorem dX1_spread_1 : decode cX1_spread 1 = .ok (.getfield 118, 3) := by decide +kernel
theorem dX1_spread_4 : decode cX1_spread 4 = .ok (.istore_n 2, 1) := by decide +kernel
theorem dX1_spread_5 : decode cX1_spread 5 = .ok (.iload_n 2, 1) := by decide +kernel
theorem dX1_spread_6 : decode cX1_spread 6 = .ok (.aload_n 0, 1) := by decide +kernel
theorem dX1_spread_7 : decode cX1_spread 7 = .ok (.getfield 113, 3) := by decide +kernel
theorem dX1_spread_10 : decode cX1_spread 10 = .ok (.if_icmp .lt 98, 3) := by decide +kernel
theorem dX1_spread_13 : decode cX1_spread 13 = .ok (.aload_n 0, 1) := by decide +kernel
theorem dX1_spread_14 : decode cX1_spread 14 = .ok (.getfield 30, 3) := by decide +kernel
theorem dX1_spread_17 : decode cX1_spread 17 = .ok (.iload_n 2, 1) := by decide +kernel
theorem dX1_spread_18 : decode cX1_spread 18 = .ok (.iaload, 1) := by decide +kernel
theorem dX1_spread_19 : decode cX1_spread 19 = .ok (.istore_n 3, 1) := by decide +kernel
theorem dX1_spread_20 : decode cX1_spread 20 = .ok (.iload_n 3, 1) := by decide +kernel
theorem dX1_spread_21 : decode cX1_spread 21 = .ok (.ifCond .eq 81, 3) := by decide +kernel
theorem dX1_spread_24 : decode cX1_spread 24 = .ok (.aload_n 0, 1) := by decide +kernel
theorem dX1_spread_25 : decode cX1_spread 25 = .ok (.getfield 30, 3) := by decide +kernel
theorem dX1_spread_28 : decode cX1_spread 28 = .ok (.iload_n 2, 1) := by decide +kernel
theorem dX1_spread_29 : decode cX1_spread 29 = .ok (.iconst 0, 1) := by decide +kernel
theorem dX1_spread_30 : decode cX1_spread 30 = .ok (.iastore, 1) := by decide +kernel
theorem dX1_spread_31 : decode cX1_spread 31 = .ok (.aload_n 0, 1) := by decide +kernel
theorem dX1_spread_32 : decode cX1_spread 32 = .ok (.getfield 30, 3) := by decide +kernel
theorem dX1_spread_35 : decode cX1_spread 35 = .ok (.aload_n 0, 1) := by decide +kernel
theorem dX1_spread_36 : decode cX1_spread 36 = .ok (.iconst 0, 1) := by decide +kernel
theorem dX1_spread_37 : decode cX1_spread 37 = .ok (.iload_n 2, 1) := by decide +kernel
theorem dX1_spread_38 : decode cX1_spread 38 = .ok (.iload_n 1, 1) := by decide +kernel
theorem dX1_spread_39 : decode cX1_spread 39 = .ok (.invokevirtual 121, 3) := by decide +kernel
theorem dX1_spread_42 : decode cX1_spread 42 = .ok (.dup2, 1) := by decide +kernel
theorem dX1_spread_43 : decode cX1_spread 43 = .ok (.iaload, 1) := by decide +kernel
theorem dX1_spread_44 : decode cX1_spread 44 = .ok (.iload_n 3, 1) := by decide +kernel
theorem dX1_spread_45 : decode cX1_spread 45 = .ok (.bipush 10, 2) := by decide +kernel
theorem dX1_spread_47 : decode cX1_spread 47 = .ok (.aload_n 0, 1) := by decide +kernel
theorem dX1_spread_48 : decode cX1_spread 48 = .ok (.getfield 125, 3) := by decide +kernel
theorem dX1_spread_51 : decode cX1_spread 51 = .ok (.isub, 1) := by decide +kernel
theorem dX1_spread_52 : decode cX1_spread 52 = .ok (.aload_n 0, 1) := by decide +kernel
theorem dX1_spread_53 : decode cX1_spread 53 = .ok (.getfield 128, 3) := by decide +kernel
theorem dX1_spread_56 : decode cX1_spread 56 = .ok (.isub, 1) := by decide +kernel
theorem dX1_spread_57 : decode cX1_spread 57 = .ok (.imul, 1) := by decide +kernel
theorem dX1_spread_58 : decode cX1_spread 58 = .ok (.iadd, 1) := by decide +kernel
theorem dX1_spread_59 : decode cX1_spread 59 = .ok (.iastore, 1) := by decide +kernel
theorem dX1_spread_60 : decode cX1_spread 60 = .ok (.aload_n 0, 1) := by decide +kernel
theorem dX1_spread_61 : decode cX1_spread 61 = .ok (.getfield 30, 3) := by decide +kernel
theorem dX1_spread_64 : decode cX1_spread 64 = .ok (.aload_n 0, 1) := by decide +kernel
theorem dX1_spread_65 : decode cX1_spread 65 = .ok (.iconst 1, 1) := by decide +kernel
theorem dX1_spread_66 : decode cX1_spread 66 = .ok (.iload_n 2, 1) := by decide +kernel
theorem dX1_spread_67 : decode cX1_spread 67 = .ok (.iload_n 1, 1) := by decide +kernel
theorem dX1_spread_68 : decode cX1_spread 68 = .ok (.invokevirtual 121, 3) := by decide +kernel
theorem dX1_spread_71 : decode cX1_spread 71 = .ok (.dup2, 1) := by decide +kernel
theorem dX1_spread_72 : decode cX1_spread 72 = .ok (.iaload, 1) := by decide +kernel
theorem dX1_spread_73 : decode cX1_spread 73 = .ok (.iload_n 3, 1) := by decide +kernel
theorem dX1_spread_74 : decode cX1_spread 74 = .ok (.aload_n 0, 1) := by decide +kernel
theorem dX1_spread_75 : decode cX1_spread 75 = .ok (.getfield 125, 3) := by decide +kernel
theorem dX1_spread_78 : decode cX1_spread 78 = .ok (.imul, 1) := by decide +kernel
theorem dX1_spread_79 : decode cX1_spread 79 = .ok (.iadd, 1) := by decide +kernel
theorem dX1_spread_80 : decode cX1_spread 80 = .ok (.iastore, 1) := by decide +kernel
theorem dX1_spread_81 : decode cX1_spread 81 = .ok (.aload_n 0, 1) := by decide +kernel
theorem dX1_spread_82 : decode cX1_spread 82 = .ok (.getfield 30, 3) := by decide +kernel
theorem dX1_spread_85 : decode cX1_spread 85 = .ok (.aload_n 0, 1) := by decide +kernel
theorem dX1_spread_86 : decode cX1_spread 86 = .ok (.iconst 2, 1) := by decide +kernel
theorem dX1_spread_87 : decode cX1_spread 87 = .ok (.iload_n 2, 1) := by decide +kernel
theorem dX1_spread_88 : decode cX1_spread 88 = .ok (.iload_n 1, 1) := by decide +kernel
theorem dX1_spread_89 : decode cX1_spread 89 = .ok (.invokevirtual 121, 3) := by decide +kernel
theorem dX1_spread_92 : decode cX1_spread 92 = .ok (.dup2, 1) := by decide +kernel
theorem dX1_spread_93 : decode cX1_spread 93 = .ok (.iaload, 1) := by decide +kernel
theorem dX1_spread_94 : decode cX1_spread 94 = .ok (.iload_n 3, 1) := by decide +kernel
theorem dX1_spread_95 : decode cX1_spread 95 = .ok (.aload_n 0, 1) := by decide +kernel
theorem dX1_spread_96 : decode cX1_spread 96 = .ok (.getfield 128, 3) := by decide +kernel
theorem dX1_spread_99 : decode cX1_spread 99 = .ok (.imul, 1) := by decide +kernel
theorem dX1_spread_100 : decode cX1_spread 100 = .ok (.iadd, 1) := by decide +kernel
theorem dX1_spread_101 : decode cX1_spread 101 = .ok (.iastore, 1) := by decide +kernel
theorem dX1_spread_102 : decode cX1_spread 102 = .ok (.iinc 2 (-1), 3) := by decide +kernel
theorem dX1_spread_105 : decode cX1_spread 105 = .ok (.goto (-100), 3) := by decide +kernel
theorem dX1_spread_108 : decode cX1_spread 108 = .ok (.return_, 1) := by decide +kernel
theorem dX1_look_0 : decode cX1_look 0 = .ok (.aload_n 0, 1) := by decide +kernel
theorem dX1_look_1 : decode cX1_look 1 = .ok (.aload_n 1, 1) := by decide +kernel
theorem dX1_look_2 : decode cX1_look 2 = .ok (.getfield 131, 3) := by decide +kernel
theorem dX1_look_5 : decode cX1_look 5 = .ok (.putfield 118, 3) := by decide +kernel
theorem dX1_look_8 : decode cX1_look 8 = .ok (.aload_n 0, 1) := by decide +kernel
theorem dX1_look_9 : decode cX1_look 9 = .ok (.aload_n 1, 1) := by decide +kernel
theorem dX1_look_10 : decode cX1_look 10 = .ok (.getfield 132, 3) := by decide +kernel
theorem dX1_look_13 : decode cX1_look 13 = .ok (.putfield 67, 3) := by decide +kernel
theorem dX1_look_16 : decode cX1_look 16 = .ok (.aload_n 0, 1) := by decide +kernel
theorem dX1_look_17 : decode cX1_look 17 = .ok (.aload_n 1, 1) := by decide +kernel
theorem dX1_look_18 : decode cX1_look 18 = .ok (.getfield 133, 3) := by decide +kernel
theorem dX1_look_21 : decode cX1_look 21 = .ok (.putfield 125, 3) := by decide +kernel
theorem dX1_look_24 : decode cX1_look 24 = .ok (.aload_n 0, 1) := by decide +kernel
theorem dX1_look_25 : decode cX1_look 25 = .ok (.aload_n 1, 1) := by decide +kernel
theorem dX1_look_26 : decode cX1_look 26 = .ok (.getfield 134, 3) := by decide +kernel
theorem dX1_look_29 : decode cX1_look 29 = .ok (.putfield 128, 3) := by decide +kernel
theorem dX1_look_32 : decode cX1_look 32 = .ok (.aload_n 0, 1) := by decide +kernel
theorem dX1_look_33 : decode cX1_look 33 = .ok (.iload_n 2, 1) := by decide +kernel
theorem dX1_look_34 : decode cX1_look 34 = .ok (.putfield 70, 3) := by decide +kernel
theorem dX1_look_37 : decode cX1_look 37 = .ok (.aload_n 0, 1) := by decide +kernel
theorem dX1_look_38 : decode cX1_look 38 = .ok (.iload_n 3, 1) := by decide +kernel
theorem dX1_look_39 : decode cX1_look 39 = .ok (.putfield 113, 3) := by decide +kernel
theorem dX1_look_42 : decode cX1_look 42 = .ok (.aload_n 0, 1) := by decide +kernel
theorem dX1_look_43 : decode cX1_look 43 = .ok (.iload 4, 2) := by decide +kernel
theorem dX1_look_45 : decode cX1_look 45 = .ok (.putfield 57, 3) := by decide +kernel
theorem dX1_look_48 : decode cX1_look 48 = .ok (.return_, 1) := by decide +kernel
theorem dX1_reckonLays_0 : decode cX1_reckonLays 0 = .ok (.iconst 0, 1) := by decide +kernel
theorem dX1_reckonLays_1 : decode cX1_reckonLays 1 = .ok (.istore 4, 2) := by decide +kernel
theorem dX1_reckonLays_3 : decode cX1_reckonLays 3 = .ok (.iload 4, 2) := by decide +kernel
theorem dX1_reckonLays_5 : decode cX1_reckonLays 5 = .ok (.iconst 3, 1) := by decide +kernel
theorem dX1_reckonLays_6 : decode cX1_reckonLays 6 = .ok (.if_icmp .ge 54, 3) := by decide +kernel
theorem dX1_reckonLays_9 : decode cX1_reckonLays 9 = .ok (.aload_n 0, 1) := by decide +kernel
theorem dX1_reckonLays_10 : decode cX1_reckonLays 10 = .ok (.getfield 113, 3) := by decide +kernel
theorem dX1_reckonLays_13 : decode cX1_reckonLays 13 = .ok (.istore 5, 2) := by decide +kernel
theorem dX1_reckonLays_15 : decode cX1_reckonLays 15 = .ok (.iload 5, 2) := by decide +kernel
theorem dX1_reckonLays_17 : decode cX1_reckonLays 17 = .ok (.aload_n 0, 1) := by decide +kernel
theorem dX1_reckonLays_18 : decode cX1_reckonLays 18 = .ok (.getfield 118, 3) := by decide +kernel
theorem dX1_reckonLays_21 : decode cX1_reckonLays 21 = .ok (.if_icmp .gt 33, 3) := by decide +kernel
theorem dX1_reckonLays_24 : decode cX1_reckonLays 24 = .ok (.aload_n 0, 1) := by decide +kernel
theorem dX1_reckonLays_25 : decode cX1_reckonLays 25 = .ok (.getfield 11, 3) := by decide +kernel
theorem dX1_reckonLays_28 : decode cX1_reckonLays 28 = .ok (.iload 4, 2) := by decide +kernel
theorem dX1_reckonLays_30 : decode cX1_reckonLays 30 = .ok (.sipush 201, 3) := by decide +kernel
theorem dX1_reckonLays_33 : decode cX1_reckonLays 33 = .ok (.imul, 1) := by decide +kernel
theorem dX1_reckonLays_34 : decode cX1_reckonLays 34 = .ok (.iload 5, 2) := by decide +kernel
theorem dX1_reckonLays_36 : decode cX1_reckonLays 36 = .ok (.iadd, 1) := by decide +kernel
theorem dX1_reckonLays_37 : decode cX1_reckonLays 37 = .ok (.aload_n 1, 1) := by decide +kernel
theorem dX1_reckonLays_38 : decode cX1_reckonLays 38 = .ok (.iload 4, 2) := by decide +kernel
theorem dX1_reckonLays_40 : decode cX1_reckonLays 40 = .ok (.iload 5, 2) := by decide +kernel
theorem dX1_reckonLays_42 : decode cX1_reckonLays 42 = .ok (.iload_n 2, 1) := by decide +kernel
theorem dX1_reckonLays_43 : decode cX1_reckonLays 43 = .ok (.iload_n 3, 1) := by decide +kernel
theorem dX1_reckonLays_44 : decode cX1_reckonLays 44 = .ok (.invokevirtual 135, 3) := by decide +kernel
theorem dX1_reckonLays_47 : decode cX1_reckonLays 47 = .ok (.iastore, 1) := by decide +kernel
theorem dX1_reckonLays_48 : decode cX1_reckonLays 48 = .ok (.iinc 5 1, 3) := by decide +kernel
theorem dX1_reckonLays_51 : decode cX1_reckonLays 51 = .ok (.goto (-36), 3) := by decide +kernel
theorem dX1_reckonLays_54 : decode cX1_reckonLays 54 = .ok (.iinc 4 1, 3) := by decide +kernel
theorem dX1_reckonLays_57 : decode cX1_reckonLays 57 = .ok (.goto (-54), 3) := by decide +kernel
theorem dX1_reckonLays_60 : decode cX1_reckonLays 60 = .ok (.aload_n 0, 1) := by decide +kernel
theorem dX1_reckonLays_61 : decode cX1_reckonLays 61 = .ok (.aload_n 0, 1) := by decide +kernel
theorem dX1_reckonLays_62 : decode cX1_reckonLays 62 = .ok (.getfield 15, 3) := by decide +kernel
theorem dX1_reckonLays_65 : decode cX1_reckonLays 65 = .ok (.iconst 0, 1) := by decide +kernel
theorem dX1_reckonLays_66 : decode cX1_reckonLays 66 = .ok (.invokevirtual 93, 3) := by decide +kernel
theorem dX1_reckonLays_69 : decode cX1_reckonLays 69 = .ok (.aload_n 0, 1) := by decide +kernel
theorem dX1_reckonLays_70 : decode cX1_reckonLays 70 = .ok (.getfield 27, 3) := by decide +kernel
theorem dX1_reckonLays_73 : decode cX1_reckonLays 73 = .ok (.aload_n 0, 1) := by decide +kernel
theorem dX1_reckonLays_74 : decode cX1_reckonLays 74 = .ok (.getfield 70, 3) := by decide +kernel
theorem dX1_reckonLays_77 : decode cX1_reckonLays 77 = .ok (.aload_n 0, 1) := by decide +kernel
theorem dX1_reckonLays_78 : decode cX1_reckonLays 78 = .ok (.getfield 113, 3) := by decide +kernel
theorem dX1_reckonLays_81 : decode cX1_reckonLays 81 = .ok (.iastore, 1) := by decide +kernel
theorem dX1_reckonLays_82 : decode cX1_reckonLays 82 = .ok (.aload_n 0, 1) := by decide +kernel
theorem dX1_reckonLays_83 : decode cX1_reckonLays 83 = .ok (.getfield 70, 3) := by decide +kernel
theorem dX1_reckonLays_86 : decode cX1_reckonLays 86 = .ok (.istore 4, 2) := by decide +kernel
theorem dX1_reckonLays_88 : decode cX1_reckonLays 88 = .ok (.iload 4, 2) := by decide +kernel
theorem dX1_reckonLays_90 : decode cX1_reckonLays 90 = .ok (.aload_n 0, 1) := by decide +kernel
theorem dX1_reckonLays_91 : decode cX1_reckonLays 91 = .ok (.getfield 67, 3) := by decide +kernel
theorem dX1_reckonLays_94 : decode cX1_reckonLays 94 = .ok (.if_icmp .ge 47, 3) := by decide +kernel
theorem dX1_reckonLays_97 : decode cX1_reckonLays 97 = .ok (.aload_n 0, 1) := by decide +kernel
theorem dX1_reckonLays_98 : decode cX1_reckonLays 98 = .ok (.getfield 27, 3) := by decide +kernel
theorem dX1_reckonLays_101 : decode cX1_reckonLays 101 = .ok (.iload 4, 2) := by decide +kernel
theorem dX1_reckonLays_103 : decode cX1_reckonLays 103 = .ok (.iconst 1, 1) := by decide +kernel
theorem dX1_reckonLays_104 : decode cX1_reckonLays 104 = .ok (.iadd, 1) := by decide +kernel
theorem dX1_reckonLays_105 : decode cX1_reckonLays 105 = .ok (.aload_n 0, 1) := by decide +kernel
theorem dX1_reckonLays_106 : decode cX1_reckonLays 106 = .ok (.iconst 0, 1) := by decide +kernel
theorem dX1_reckonLays_107 : decode cX1_reckonLays 107 = .ok (.aload_n 0, 1) := by decide +kernel
theorem dX1_reckonLays_108 : decode cX1_reckonLays 108 = .ok (.getfield 27, 3) := by decide +kernel
theorem dX1_reckonLays_111 : decode cX1_reckonLays 111 = .ok (.iload 4, 2) := by decide +kernel
theorem dX1_reckonLays_113 : decode cX1_reckonLays 113 = .ok (.iaload, 1) := by decide +kernel
theorem dX1_reckonLays_114 : decode cX1_reckonLays 114 = .ok (.iload 4, 2) := by decide +kernel
theorem dX1_reckonLays_116 : decode cX1_reckonLays 116 = .ok (.aload_n 0, 1) := by decide +kernel
theorem dX1_reckonLays_117 : decode cX1_reckonLays 117 = .ok (.getfield 70, 3) := by decide +kernel
theorem dX1_reckonLays_120 : decode cX1_reckonLays 120 = .ok (.if_icmp .ne 10, 3) := by decide +kernel
theorem dX1_reckonLays_123 : decode cX1_reckonLays 123 = .ok (.aload_n 0, 1) := by decide +kernel
theorem dX1_reckonLays_124 : decode cX1_reckonLays 124 = .ok (.getfield 57, 3) := by decide +kernel
theorem dX1_reckonLays_127 : decode cX1_reckonLays 127 = .ok (.goto 4, 3) := by decide +kernel
theorem dX1_reckonLays_130 : decode cX1_reckonLays 130 = .ok (.iconst 0, 1) := by decide +kernel
theorem dX1_reckonLays_131 : decode cX1_reckonLays 131 = .ok (.invokevirtual 121, 3) := by decide +kernel
theorem dX1_reckonLays_134 : decode cX1_reckonLays 134 = .ok (.iastore, 1) := by decide +kernel
theorem dX1_reckonLays_135 : decode cX1_reckonLays 135 = .ok (.iinc 4 1, 3) := by decide +kernel
theorem dX1_reckonLays_138 : decode cX1_reckonLays 138 = .ok (.goto (-50), 3) := by decide +kernel
theorem dX1_reckonLays_141 : decode cX1_reckonLays 141 = .ok (.return_, 1) := by decide +kernel
theorem dX1_fillBehind_0 : decode cX1_fillBehind 0 = .ok (.iconst 0, 1) := by decide +kernel
theorem dX1_fillBehind_1 : decode cX1_fillBehind 1 = .ok (.istore_n 3, 1) := by decide +kernel
theorem dX1_fillBehind_2 : decode cX1_fillBehind 2 = .ok (.iload_n 3, 1) := by decide +kernel
theorem dX1_fillBehind_3 : decode cX1_fillBehind 3 = .ok (.iconst 3, 1) := by decide +kernel
theorem dX1_fillBehind_4 : decode cX1_fillBehind 4 = .ok (.if_icmp .ge 48, 3) := by decide +kernel
theorem dX1_fillBehind_7 : decode cX1_fillBehind 7 = .ok (.aload_n 0, 1) := by decide +kernel
theorem dX1_fillBehind_8 : decode cX1_fillBehind 8 = .ok (.getfield 113, 3) := by decide +kernel
theorem dX1_fillBehind_11 : decode cX1_fillBehind 11 = .ok (.istore 4, 2) := by decide +kernel
theorem dX1_fillBehind_13 : decode cX1_fillBehind 13 = .ok (.iload 4, 2) := by decide +kernel
theorem dX1_fillBehind_15 : decode cX1_fillBehind 15 = .ok (.aload_n 0, 1) := by decide +kernel
theorem dX1_fillBehind_16 : decode cX1_fillBehind 16 = .ok (.getfield 118, 3) := by decide +kernel
theorem dX1_fillBehind_19 : decode cX1_fillBehind 19 = .ok (.if_icmp .gt 27, 3) := by decide +kernel
theorem dX1_fillBehind_22 : decode cX1_fillBehind 22 = .ok (.aload_n 1, 1) := by decide +kernel
theorem dX1_fillBehind_23 : decode cX1_fillBehind 23 = .ok (.iload_n 3, 1) := by decide +kernel
theorem dX1_fillBehind_24 : decode cX1_fillBehind 24 = .ok (.sipush 201, 3) := by decide +kernel
theorem dX1_fillBehind_27 : decode cX1_fillBehind 27 = .ok (.imul, 1) := by decide +kernel
theorem dX1_fillBehind_28 : decode cX1_fillBehind 28 = .ok (.iload 4, 2) := by decide +kernel
theorem dX1_fillBehind_30 : decode cX1_fillBehind 30 = .ok (.iadd, 1) := by decide +kernel
theorem dX1_fillBehind_31 : decode cX1_fillBehind 31 = .ok (.aload_n 0, 1) := by decide +kernel
theorem dX1_fillBehind_32 : decode cX1_fillBehind 32 = .ok (.iload_n 3, 1) := by decide +kernel
theorem dX1_fillBehind_33 : decode cX1_fillBehind 33 = .ok (.iload 4, 2) := by decide +kernel
theorem dX1_fillBehind_35 : decode cX1_fillBehind 35 = .ok (.iload_n 2, 1) := by decide +kernel
theorem dX1_fillBehind_36 : decode cX1_fillBehind 36 = .ok (.invokevirtual 121, 3) := by decide +kernel
theorem dX1_fillBehind_39 : decode cX1_fillBehind 39 = .ok (.iastore, 1) := by decide +kernel
theorem dX1_fillBehind_40 : decode cX1_fillBehind 40 = .ok (.iinc 4 1, 3) := by decide +kernel
theorem dX1_fillBehind_43 : decode cX1_fillBehind 43 = .ok (.goto (-30), 3) := by decide +kernel
theorem dX1_fillBehind_46 : decode cX1_fillBehind 46 = .ok (.iinc 3 1, 3) := by decide +kernel
theorem dX1_fillBehind_49 : decode cX1_fillBehind 49 = .ok (.goto (-47), 3) := by decide +kernel
theorem dX1_fillBehind_52 : decode cX1_fillBehind 52 = .ok (.return_, 1) := by decide +kernel
theorem dX1_laidBehind_0 : decode cX1_laidBehind 0 = .ok (.aload_n 0, 1) := by decide +kernel
theorem dX1_laidBehind_1 : decode cX1_laidBehind 1 = .ok (.getfield 11, 3) := by decide +kernel
theorem dX1_laidBehind_4 : decode cX1_laidBehind 4 = .ok (.iload_n 1, 1) := by decide +kernel
theorem dX1_laidBehind_5 : decode cX1_laidBehind 5 = .ok (.sipush 201, 3) := by decide +kernel
theorem dX1_laidBehind_8 : decode cX1_laidBehind 8 = .ok (.imul, 1) := by decide +kernel
theorem dX1_laidBehind_9 : decode cX1_laidBehind 9 = .ok (.iload_n 2, 1) := by decide +kernel
theorem dX1_laidBehind_10 : decode cX1_laidBehind 10 = .ok (.iadd, 1) := by decide +kernel
theorem dX1_laidBehind_11 : decode cX1_laidBehind 11 = .ok (.iaload, 1) := by decide +kernel
theorem dX1_laidBehind_12 : decode cX1_laidBehind 12 = .ok (.iload_n 3, 1) := by decide +kernel
theorem dX1_laidBehind_13 : decode cX1_laidBehind 13 = .ok (.isub, 1) := by decide +kernel
theorem dX1_laidBehind_14 : decode cX1_laidBehind 14 = .ok (.istore 4, 2) := by decide +kernel
theorem dX1_laidBehind_16 : decode cX1_laidBehind 16 = .ok (.iload 4, 2) := by decide +kernel
theorem dX1_laidBehind_18 : decode cX1_laidBehind 18 = .ok (.ifCond .gt 7, 3) := by decide +kernel
theorem dX1_laidBehind_21 : decode cX1_laidBehind 21 = .ok (.iload_n 2, 1) := by decide +kernel
theorem dX1_laidBehind_22 : decode cX1_laidBehind 22 = .ok (.goto 14, 3) := by decide +kernel
theorem dX1_laidBehind_25 : decode cX1_laidBehind 25 = .ok (.aload_n 0, 1) := by decide +kernel
theorem dX1_laidBehind_26 : decode cX1_laidBehind 26 = .ok (.getfield 118, 3) := by decide +kernel
theorem dX1_laidBehind_29 : decode cX1_laidBehind 29 = .ok (.iload_n 2, 1) := by decide +kernel
theorem dX1_laidBehind_30 : decode cX1_laidBehind 30 = .ok (.iload 4, 2) := by decide +kernel
theorem dX1_laidBehind_32 : decode cX1_laidBehind 32 = .ok (.iadd, 1) := by decide +kernel
theorem dX1_laidBehind_33 : decode cX1_laidBehind 33 = .ok (.invokestatic 139, 3) := by decide +kernel
theorem dX1_laidBehind_36 : decode cX1_laidBehind 36 = .ok (.ireturn, 1) := by decide +kernel
theorem dX1_startAtSummer_0 : decode cX1_startAtSummer 0 = .ok (.aload_n 0, 1) := by decide +kernel
theorem dX1_startAtSummer_1 : decode cX1_startAtSummer 1 = .ok (.getfield 113, 3) := by decide +kernel
theorem dX1_startAtSummer_4 : decode cX1_startAtSummer 4 = .ok (.istore_n 1, 1) := by decide +kernel
theorem dX1_startAtSummer_5 : decode cX1_startAtSummer 5 = .ok (.iload_n 1, 1) := by decide +kernel
theorem dX1_startAtSummer_6 : decode cX1_startAtSummer 6 = .ok (.aload_n 0, 1) := by decide +kernel
theorem dX1_startAtSummer_7 : decode cX1_startAtSummer 7 = .ok (.getfield 118, 3) := by decide +kernel
theorem dX1_startAtSummer_10 : decode cX1_startAtSummer 10 = .ok (.if_icmp .ge 16, 3) := by decide +kernel
theorem dX1_startAtSummer_13 : decode cX1_startAtSummer 13 = .ok (.aload_n 0, 1) := by decide +kernel
theorem dX1_startAtSummer_14 : decode cX1_startAtSummer 14 = .ok (.getfield 21, 3) := by decide +kernel
theorem dX1_startAtSummer_17 : decode cX1_startAtSummer 17 = .ok (.iload_n 1, 1) := by decide +kernel
theorem dX1_startAtSummer_18 : decode cX1_startAtSummer 18 = .ok (.iconst 0, 1) := by decide +kernel
theorem dX1_startAtSummer_19 : decode cX1_startAtSummer 19 = .ok (.iastore, 1) := by decide +kernel
theorem dX1_startAtSummer_20 : decode cX1_startAtSummer 20 = .ok (.iinc 1 1, 3) := by decide +kernel
theorem dX1_startAtSummer_23 : decode cX1_startAtSummer 23 = .ok (.goto (-18), 3) := by decide +kernel
theorem dX1_startAtSummer_26 : decode cX1_startAtSummer 26 = .ok (.aload_n 0, 1) := by decide +kernel
theorem dX1_startAtSummer_27 : decode cX1_startAtSummer 27 = .ok (.getfield 21, 3) := by decide +kernel
theorem dX1_startAtSummer_30 : decode cX1_startAtSummer 30 = .ok (.aload_n 0, 1) := by decide +kernel
theorem dX1_startAtSummer_31 : decode cX1_startAtSummer 31 = .ok (.getfield 118, 3) := by decide +kernel
theorem dX1_startAtSummer_34 : decode cX1_startAtSummer 34 = .ok (.ldc 100, 2) := by decide +kernel
theorem dX1_startAtSummer_36 : decode cX1_startAtSummer 36 = .ok (.iastore, 1) := by decide +kernel
theorem dX1_startAtSummer_37 : decode cX1_startAtSummer 37 = .ok (.return_, 1) := by decide +kernel
theorem dX1_goBackToTomorrow_0 : decode cX1_goBackToTomorrow 0 = .ok (.aload_n 0, 1) := by decide +kernel
theorem dX1_goBackToTomorrow_1 : decode cX1_goBackToTomorrow 1 = .ok (.invokevirtual 64, 3) := by decide +kernel
theorem dX1_goBackToTomorrow_4 : decode cX1_goBackToTomorrow 4 = .ok (.aload_n 0, 1) := by decide +kernel
theorem dX1_goBackToTomorrow_5 : decode cX1_goBackToTomorrow 5 = .ok (.getfield 67, 3) := by decide +kernel
theorem dX1_goBackToTomorrow_8 : decode cX1_goBackToTomorrow 8 = .ok (.iconst 1, 1) := by decide +kernel
theorem dX1_goBackToTomorrow_9 : decode cX1_goBackToTomorrow 9 = .ok (.isub, 1) := by decide +kernel
theorem dX1_goBackToTomorrow_10 : decode cX1_goBackToTomorrow 10 = .ok (.istore_n 1, 1) := by decide +kernel
theorem dX1_goBackToTomorrow_11 : decode cX1_goBackToTomorrow 11 = .ok (.iload_n 1, 1) := by decide +kernel
theorem dX1_goBackToTomorrow_12 : decode cX1_goBackToTomorrow 12 = .ok (.aload_n 0, 1) := by decide +kernel
theorem dX1_goBackToTomorrow_13 : decode cX1_goBackToTomorrow 13 = .ok (.getfield 70, 3) := by decide +kernel
theorem dX1_goBackToTomorrow_16 : decode cX1_goBackToTomorrow 16 = .ok (.if_icmp .le 22, 3) := by decide +kernel
theorem dX1_goBackToTomorrow_19 : decode cX1_goBackToTomorrow 19 = .ok (.aload_n 0, 1) := by decide +kernel
theorem dX1_goBackToTomorrow_20 : decode cX1_goBackToTomorrow 20 = .ok (.aload_n 0, 1) := by decide +kernel
theorem dX1_goBackToTomorrow_21 : decode cX1_goBackToTomorrow 21 = .ok (.getfield 21, 3) := by decide +kernel
theorem dX1_goBackToTomorrow_24 : decode cX1_goBackToTomorrow 24 = .ok (.aload_n 0, 1) := by decide +kernel
theorem dX1_goBackToTomorrow_25 : decode cX1_goBackToTomorrow 25 = .ok (.getfield 15, 3) := by decide +kernel
theorem dX1_goBackToTomorrow_28 : decode cX1_goBackToTomorrow 28 = .ok (.iload_n 1, 1) := by decide +kernel
theorem dX1_goBackToTomorrow_29 : decode cX1_goBackToTomorrow 29 = .ok (.invokevirtual 71, 3) := by decide +kernel
theorem dX1_goBackToTomorrow_32 : decode cX1_goBackToTomorrow 32 = .ok (.iinc 1 (-1), 3) := by decide +kernel
theorem dX1_goBackToTomorrow_35 : decode cX1_goBackToTomorrow 35 = .ok (.goto (-24), 3) := by decide +kernel
theorem dX1_goBackToTomorrow_38 : decode cX1_goBackToTomorrow 38 = .ok (.return_, 1) := by decide +kernel
theorem dX1_stepBack_0 : decode cX1_stepBack 0 = .ok (.aload_n 0, 1) := by decide +kernel
theorem dX1_stepBack_1 : decode cX1_stepBack 1 = .ok (.getfield 27, 3) := by decide +kernel
theorem dX1_stepBack_4 : decode cX1_stepBack 4 = .ok (.iload_n 3, 1) := by decide +kernel
theorem dX1_stepBack_5 : decode cX1_stepBack 5 = .ok (.iaload, 1) := by decide +kernel
theorem dX1_stepBack_6 : decode cX1_stepBack 6 = .ok (.aload_n 0, 1) := by decide +kernel
theorem dX1_stepBack_7 : decode cX1_stepBack 7 = .ok (.getfield 118, 3) := by decide +kernel
theorem dX1_stepBack_10 : decode cX1_stepBack 10 = .ok (.iconst 1, 1) := by decide +kernel
theorem dX1_stepBack_11 : decode cX1_stepBack 11 = .ok (.isub, 1) := by decide +kernel
theorem dX1_stepBack_12 : decode cX1_stepBack 12 = .ok (.invokestatic 139, 3) := by decide +kernel
theorem dX1_stepBack_15 : decode cX1_stepBack 15 = .ok (.istore 4, 2) := by decide +kernel
theorem dX1_stepBack_17 : decode cX1_stepBack 17 = .ok (.bipush 10, 2) := by decide +kernel
theorem dX1_stepBack_19 : decode cX1_stepBack 19 = .ok (.aload_n 0, 1) := by decide +kernel
theorem dX1_stepBack_20 : decode cX1_stepBack 20 = .ok (.getfield 125, 3) := by decide +kernel
theorem dX1_stepBack_23 : decode cX1_stepBack 23 = .ok (.isub, 1) := by decide +kernel
theorem dX1_stepBack_24 : decode cX1_stepBack 24 = .ok (.aload_n 0, 1) := by decide +kernel
theorem dX1_stepBack_25 : decode cX1_stepBack 25 = .ok (.getfield 128, 3) := by decide +kernel
theorem dX1_stepBack_28 : decode cX1_stepBack 28 = .ok (.isub, 1) := by decide +kernel
theorem dX1_stepBack_29 : decode cX1_stepBack 29 = .ok (.istore 5, 2) := by decide +kernel
theorem dX1_stepBack_31 : decode cX1_stepBack 31 = .ok (.aload_n 0, 1) := by decide +kernel
theorem dX1_stepBack_32 : decode cX1_stepBack 32 = .ok (.getfield 113, 3) := by decide +kernel
theorem dX1_stepBack_35 : decode cX1_stepBack 35 = .ok (.istore 6, 2) := by decide +kernel
theorem dX1_stepBack_37 : decode cX1_stepBack 37 = .ok (.iload 6, 2) := by decide +kernel
theorem dX1_stepBack_39 : decode cX1_stepBack 39 = .ok (.iload 4, 2) := by decide +kernel
theorem dX1_stepBack_41 : decode cX1_stepBack 41 = .ok (.if_icmp .gt 57, 3) := by decide +kernel
theorem dX1_stepBack_44 : decode cX1_stepBack 44 = .ok (.aload_n 1, 1) := by decide +kernel
theorem dX1_stepBack_45 : decode cX1_stepBack 45 = .ok (.iload 6, 2) := by decide +kernel
theorem dX1_stepBack_47 : decode cX1_stepBack 47 = .ok (.aload_n 1, 1) := by decide +kernel
theorem dX1_stepBack_48 : decode cX1_stepBack 48 = .ok (.aload_n 2, 1) := by decide +kernel
theorem dX1_stepBack_49 : decode cX1_stepBack 49 = .ok (.iload 6, 2) := by decide +kernel
theorem dX1_stepBack_51 : decode cX1_stepBack 51 = .ok (.iaload, 1) := by decide +kernel
theorem dX1_stepBack_52 : decode cX1_stepBack 52 = .ok (.iaload, 1) := by decide +kernel
theorem dX1_stepBack_53 : decode cX1_stepBack 53 = .ok (.iload 5, 2) := by decide +kernel
theorem dX1_stepBack_55 : decode cX1_stepBack 55 = .ok (.imul, 1) := by decide +kernel
theorem dX1_stepBack_56 : decode cX1_stepBack 56 = .ok (.aload_n 1, 1) := by decide +kernel
theorem dX1_stepBack_57 : decode cX1_stepBack 57 = .ok (.aload_n 2, 1) := by decide +kernel
theorem dX1_stepBack_58 : decode cX1_stepBack 58 = .ok (.sipush 201, 3) := by decide +kernel
theorem dX1_stepBack_61 : decode cX1_stepBack 61 = .ok (.iload 6, 2) := by decide +kernel
theorem dX1_stepBack_63 : decode cX1_stepBack 63 = .ok (.iadd, 1) := by decide +kernel
theorem dX1_stepBack_64 : decode cX1_stepBack 64 = .ok (.iaload, 1) := by decide +kernel
theorem dX1_stepBack_65 : decode cX1_stepBack 65 = .ok (.iaload, 1) := by decide +kernel
theorem dX1_stepBack_66 : decode cX1_stepBack 66 = .ok (.aload_n 0, 1) := by decide +kernel
theorem dX1_stepBack_67 : decode cX1_stepBack 67 = .ok (.getfield 125, 3) := by decide +kernel
theorem dX1_stepBack_70 : decode cX1_stepBack 70 = .ok (.imul, 1) := by decide +kernel
theorem dX1_stepBack_71 : decode cX1_stepBack 71 = .ok (.iadd, 1) := by decide +kernel
theorem dX1_stepBack_72 : decode cX1_stepBack 72 = .ok (.aload_n 1, 1) := by decide +kernel
theorem dX1_stepBack_73 : decode cX1_stepBack 73 = .ok (.aload_n 2, 1) := by decide +kernel
theorem dX1_stepBack_74 : decode cX1_stepBack 74 = .ok (.sipush 402, 3) := by decide +kernel
theorem dX1_stepBack_77 : decode cX1_stepBack 77 = .ok (.iload 6, 2) := by decide +kernel
theorem dX1_stepBack_79 : decode cX1_stepBack 79 = .ok (.iadd, 1) := by decide +kernel
theorem dX1_stepBack_80 : decode cX1_stepBack 80 = .ok (.iaload, 1) := by decide +kernel
theorem dX1_stepBack_81 : decode cX1_stepBack 81 = .ok (.iaload, 1) := by decide +kernel
theorem dX1_stepBack_82 : decode cX1_stepBack 82 = .ok (.aload_n 0, 1) := by decide +kernel
theorem dX1_stepBack_83 : decode cX1_stepBack 83 = .ok (.getfield 128, 3) := by decide +kernel
theorem dX1_stepBack_86 : decode cX1_stepBack 86 = .ok (.imul, 1) := by decide +kernel
theorem dX1_stepBack_87 : decode cX1_stepBack 87 = .ok (.iadd, 1) := by decide +kernel
theorem dX1_stepBack_88 : decode cX1_stepBack 88 = .ok (.bipush 10, 2) := by decide +kernel
theorem dX1_stepBack_90 : decode cX1_stepBack 90 = .ok (.idiv, 1) := by decide +kernel
theorem dX1_stepBack_91 : decode cX1_stepBack 91 = .ok (.iastore, 1) := by decide +kernel
theorem dX1_stepBack_92 : decode cX1_stepBack 92 = .ok (.iinc 6 1, 3) := by decide +kernel
theorem dX1_stepBack_95 : decode cX1_stepBack 95 = .ok (.goto (-58), 3) := by decide +kernel
theorem dX1_stepBack_98 : decode cX1_stepBack 98 = .ok (.return_, 1) := by decide +kernel
theorem dX1_oddsToday_0 : decode cX1_oddsToday 0 = .ok (.aload_n 0, 1) := by decide +kernel
theorem dX1_oddsToday_1 : decode cX1_oddsToday 1 = .ok (.getfield 113, 3) := by decide +kernel
theorem dX1_oddsToday_4 : decode cX1_oddsToday 4 = .ok (.aload_n 0, 1) := by decide +kernel
theorem dX1_oddsToday_5 : decode cX1_oddsToday 5 = .ok (.getfield 118, 3) := by decide +kernel
theorem dX1_oddsToday_8 : decode cX1_oddsToday 8 = .ok (.if_icmp .lt 6, 3) := by decide +kernel
theorem dX1_oddsToday_11 : decode cX1_oddsToday 11 = .ok (.ldc 100, 2) := by decide +kernel
theorem dX1_oddsToday_13 : decode cX1_oddsToday 13 = .ok (.ireturn, 1) := by decide +kernel
theorem dX1_oddsToday_14 : decode cX1_oddsToday 14 = .ok (.aload_n 0, 1) := by decide +kernel
theorem dX1_oddsToday_15 : decode cX1_oddsToday 15 = .ok (.getfield 70, 3) := by decide +kernel
theorem dX1_oddsToday_18 : decode cX1_oddsToday 18 = .ok (.aload_n 0, 1) := by decide +kernel
theorem dX1_oddsToday_19 : decode cX1_oddsToday 19 = .ok (.getfield 67, 3) := by decide +kernel
theorem dX1_oddsToday_22 : decode cX1_oddsToday 22 = .ok (.if_icmp .lt 5, 3) := by decide +kernel
theorem dX1_oddsToday_25 : decode cX1_oddsToday 25 = .ok (.iconst 0, 1) := by decide +kernel
theorem dX1_oddsToday_26 : decode cX1_oddsToday 26 = .ok (.ireturn, 1) := by decide +kernel
theorem dX1_oddsToday_27 : decode cX1_oddsToday 27 = .ok (.aload_n 1, 1) := by decide +kernel
theorem dX1_oddsToday_28 : decode cX1_oddsToday 28 = .ok (.aload_n 0, 1) := by decide +kernel
theorem dX1_oddsToday_29 : decode cX1_oddsToday 29 = .ok (.iconst 0, 1) := by decide +kernel
theorem dX1_oddsToday_30 : decode cX1_oddsToday 30 = .ok (.aload_n 0, 1) := by decide +kernel
theorem dX1_oddsToday_31 : decode cX1_oddsToday 31 = .ok (.getfield 113, 3) := by decide +kernel
theorem dX1_oddsToday_34 : decode cX1_oddsToday 34 = .ok (.iload_n 2, 1) := by decide +kernel
theorem dX1_oddsToday_35 : decode cX1_oddsToday 35 = .ok (.invokevirtual 121, 3) := by decide +kernel
theorem dX1_oddsToday_38 : decode cX1_oddsToday 38 = .ok (.iaload, 1) := by decide +kernel
theorem dX1_oddsToday_39 : decode cX1_oddsToday 39 = .ok (.bipush 10, 2) := by decide +kernel
theorem dX1_oddsToday_41 : decode cX1_oddsToday 41 = .ok (.aload_n 0, 1) := by decide +kernel
theorem dX1_oddsToday_42 : decode cX1_oddsToday 42 = .ok (.getfield 125, 3) := by decide +kernel
theorem dX1_oddsToday_45 : decode cX1_oddsToday 45 = .ok (.isub, 1) := by decide +kernel
theorem dX1_oddsToday_46 : decode cX1_oddsToday 46 = .ok (.aload_n 0, 1) := by decide +kernel
theorem dX1_oddsToday_47 : decode cX1_oddsToday 47 = .ok (.getfield 128, 3) := by decide +kernel
theorem dX1_oddsToday_50 : decode cX1_oddsToday 50 = .ok (.isub, 1) := by decide +kernel
theorem dX1_oddsToday_51 : decode cX1_oddsToday 51 = .ok (.imul, 1) := by decide +kernel
theorem dX1_oddsToday_52 : decode cX1_oddsToday 52 = .ok (.aload_n 1, 1) := by decide +kernel
theorem dX1_oddsToday_53 : decode cX1_oddsToday 53 = .ok (.aload_n 0, 1) := by decide +kernel
theorem dX1_oddsToday_54 : decode cX1_oddsToday 54 = .ok (.iconst 1, 1) := by decide +kernel
theorem dX1_oddsToday_55 : decode cX1_oddsToday 55 = .ok (.aload_n 0, 1) := by decide +kernel
theorem dX1_oddsToday_56 : decode cX1_oddsToday 56 = .ok (.getfield 113, 3) := by decide +kernel
theorem dX1_oddsToday_59 : decode cX1_oddsToday 59 = .ok (.iload_n 2, 1) := by decide +kernel
theorem dX1_oddsToday_60 : decode cX1_oddsToday 60 = .ok (.invokevirtual 121, 3) := by decide +kernel
theorem dX1_oddsToday_63 : decode cX1_oddsToday 63 = .ok (.iaload, 1) := by decide +kernel
theorem dX1_oddsToday_64 : decode cX1_oddsToday 64 = .ok (.aload_n 0, 1) := by decide +kernel
theorem dX1_oddsToday_65 : decode cX1_oddsToday 65 = .ok (.getfield 125, 3) := by decide +kernel
theorem dX1_oddsToday_68 : decode cX1_oddsToday 68 = .ok (.imul, 1) := by decide +kernel
theorem dX1_oddsToday_69 : decode cX1_oddsToday 69 = .ok (.iadd, 1) := by decide +kernel
theorem dX1_oddsToday_70 : decode cX1_oddsToday 70 = .ok (.aload_n 1, 1) := by decide +kernel
theorem dX1_oddsToday_71 : decode cX1_oddsToday 71 = .ok (.aload_n 0, 1) := by decide +kernel
theorem dX1_oddsToday_72 : decode cX1_oddsToday 72 = .ok (.iconst 2, 1) := by decide +kernel
theorem dX1_oddsToday_73 : decode cX1_oddsToday 73 = .ok (.aload_n 0, 1) := by decide +kernel
theorem dX1_oddsToday_74 : decode cX1_oddsToday 74 = .ok (.getfield 113, 3) := by decide +kernel
theorem dX1_oddsToday_77 : decode cX1_oddsToday 77 = .ok (.iload_n 2, 1) := by decide +kernel
theorem dX1_oddsToday_78 : decode cX1_oddsToday 78 = .ok (.invokevirtual 121, 3) := by decide +kernel
theorem dX1_oddsToday_81 : decode cX1_oddsToday 81 = .ok (.iaload, 1) := by decide +kernel
theorem dX1_oddsToday_82 : decode cX1_oddsToday 82 = .ok (.aload_n 0, 1) := by decide +kernel
theorem dX1_oddsToday_83 : decode cX1_oddsToday 83 = .ok (.getfield 128, 3) := by decide +kernel
theorem dX1_oddsToday_86 : decode cX1_oddsToday 86 = .ok (.imul, 1) := by decide +kernel
theorem dX1_oddsToday_87 : decode cX1_oddsToday 87 = .ok (.iadd, 1) := by decide +kernel
theorem dX1_oddsToday_88 : decode cX1_oddsToday 88 = .ok (.bipush 10, 2) := by decide +kernel
theorem dX1_oddsToday_90 : decode cX1_oddsToday 90 = .ok (.idiv, 1) := by decide +kernel
theorem dX1_oddsToday_91 : decode cX1_oddsToday 91 = .ok (.ireturn, 1) := by decide +kernel
theorem dX2_init_0 : decode cX2_init 0 = .ok (.aload_n 0, 1) := by decide +kernel
theorem dX2_init_1 : decode cX2_init 1 = .ok (.iload_n 1, 1) := by decide +kernel
theorem dX2_init_2 : decode cX2_init 2 = .ok (.iload_n 2, 1) := by decide +kernel
theorem dX2_init_3 : decode cX2_init 3 = .ok (.invokespecial 3, 3) := by decide +kernel
theorem dX2_init_6 : decode cX2_init 6 = .ok (.return_, 1) := by decide +kernel
theorem dX2_kind_0 : decode cX2_kind 0 = .ok (.iconst 3, 1) := by decide +kernel
theorem dX2_kind_1 : decode cX2_kind 1 = .ok (.ireturn, 1) := by decide +kernel
theorem dX2_hauls_0 : decode cX2_hauls 0 = .ok (.iconst 2, 1) := by decide +kernel
theorem dX2_hauls_1 : decode cX2_hauls 1 = .ok (.aload_n 0, 1) := by decide +kernel
theorem dX2_hauls_2 : decode cX2_hauls 2 = .ok (.iload_n 1, 1) := by decide +kernel
theorem dX2_hauls_3 : decode cX2_hauls 3 = .ok (.iload_n 2, 1) := by decide +kernel
theorem dX2_hauls_4 : decode cX2_hauls 4 = .ok (.invokespecial 9, 3) := by decide +kernel
theorem dX2_hauls_7 : decode cX2_hauls 7 = .ok (.imul, 1) := by decide +kernel
theorem dX2_hauls_8 : decode cX2_hauls 8 = .ok (.ireturn, 1) := by decide +kernel
theorem dX2_laysInThaw_0 : decode cX2_laysInThaw 0 = .ok (.aload_n 0, 1) := by decide +kernel
theorem dX2_laysInThaw_1 : decode cX2_laysInThaw 1 = .ok (.iload_n 1, 1) := by decide +kernel
theorem dX2_laysInThaw_2 : decode cX2_laysInThaw 2 = .ok (.invokespecial 13, 3) := by decide +kernel
theorem dX2_laysInThaw_5 : decode cX2_laysInThaw 5 = .ok (.istore_n 2, 1) := by decide +kernel
theorem dX2_laysInThaw_6 : decode cX2_laysInThaw 6 = .ok (.iload_n 2, 1) := by decide +kernel
theorem dX2_laysInThaw_7 : decode cX2_laysInThaw 7 = .ok (.iconst 2, 1) := by decide +kernel
theorem dX2_laysInThaw_8 : decode cX2_laysInThaw 8 = .ok (.if_icmp .lt 9, 3) := by decide +kernel
theorem dX2_laysInThaw_11 : decode cX2_laysInThaw 11 = .ok (.iload_n 2, 1) := by decide +kernel
theorem dX2_laysInThaw_12 : decode cX2_laysInThaw 12 = .ok (.iconst 2, 1) := by decide +kernel
theorem dX2_laysInThaw_13 : decode cX2_laysInThaw 13 = .ok (.isub, 1) := by decide +kernel
theorem dX2_laysInThaw_14 : decode cX2_laysInThaw 14 = .ok (.goto 4, 3) := by decide +kernel
theorem dX2_laysInThaw_17 : decode cX2_laysInThaw 17 = .ok (.iconst 0, 1) := by decide +kernel
theorem dX2_laysInThaw_18 : decode cX2_laysInThaw 18 = .ok (.ireturn, 1) := by decide +kernel
theorem dX3_init_0 : decode cX3_init 0 = .ok (.aload_n 0, 1) := by decide +kernel
theorem dX3_init_1 : decode cX3_init 1 = .ok (.iload_n 1, 1) := by decide +kernel
theorem dX3_init_2 : decode cX3_init 2 = .ok (.iload_n 2, 1) := by decide +kernel
theorem dX3_init_3 : decode cX3_init 3 = .ok (.invokespecial 3, 3) := by decide +kernel
theorem dX3_init_6 : decode cX3_init 6 = .ok (.return_, 1) := by decide +kernel
theorem dX3_kind_0 : decode cX3_kind 0 = .ok (.iconst 1, 1) := by decide +kernel
theorem dX3_kind_1 : decode cX3_kind 1 = .ok (.ireturn, 1) := by decide +kernel
theorem dX3_hauls_0 : decode cX3_hauls 0 = .ok (.aload_n 0, 1) := by decide +kernel
theorem dX3_hauls_1 : decode cX3_hauls 1 = .ok (.getfield 9, 3) := by decide +kernel
theorem dX3_hauls_4 : decode cX3_hauls 4 = .ok (.iload_n 2, 1) := by decide +kernel
theorem dX3_hauls_5 : decode cX3_hauls 5 = .ok (.iadd, 1) := by decide +kernel
theorem dX3_hauls_6 : decode cX3_hauls 6 = .ok (.aload_n 0, 1) := by decide +kernel
theorem dX3_hauls_7 : decode cX3_hauls 7 = .ok (.getfield 15, 3) := by decide +kernel
theorem dX3_hauls_10 : decode cX3_hauls 10 = .ok (.iadd, 1) := by decide +kernel
theorem dX3_hauls_11 : decode cX3_hauls 11 = .ok (.ireturn, 1) := by decide +kernel
theorem dX4_init_0 : decode cX4_init 0 = .ok (.aload_n 0, 1) := by decide +kernel
theorem dX4_init_1 : decode cX4_init 1 = .ok (.iload_n 1, 1) := by decide +kernel
theorem dX4_init_2 : decode cX4_init 2 = .ok (.iload_n 2, 1) := by decide +kernel
theorem dX4_init_3 : decode cX4_init 3 = .ok (.invokespecial 3, 3) := by decide +kernel
theorem dX4_init_6 : decode cX4_init 6 = .ok (.return_, 1) := by decide +kernel
theorem dX4_kind_0 : decode cX4_kind 0 = .ok (.iconst 4, 1) := by decide +kernel
theorem dX4_kind_1 : decode cX4_kind 1 = .ok (.ireturn, 1) := by decide +kernel
theorem dX4_hauls_0 : decode cX4_hauls 0 = .ok (.aload_n 0, 1) := by decide +kernel
theorem dX4_hauls_1 : decode cX4_hauls 1 = .ok (.getfield 9, 3) := by decide +kernel
theorem dX4_hauls_4 : decode cX4_hauls 4 = .ok (.iload_n 2, 1) := by decide +kernel
theorem dX4_hauls_5 : decode cX4_hauls 5 = .ok (.iadd, 1) := by decide +kernel
theorem dX4_hauls_6 : decode cX4_hauls 6 = .ok (.iload_n 1, 1) := by decide +kernel
theorem dX4_hauls_7 : decode cX4_hauls 7 = .ok (.bipush 10, 2) := by decide +kernel
theorem dX4_hauls_9 : decode cX4_hauls 9 = .ok (.idiv, 1) := by decide +kernel
theorem dX4_hauls_10 : decode cX4_hauls 10 = .ok (.iadd, 1) := by decide +kernel
theorem dX4_hauls_11 : decode cX4_hauls 11 = .ok (.ireturn, 1) := by decide +kernel
theorem dX5_init_0 : decode cX5_init 0 = .ok (.aload_n 0, 1) := by decide +kernel
theorem dX5_init_1 : decode cX5_init 1 = .ok (.invokespecial 3, 3) := by decide +kernel
theorem dX5_init_4 : decode cX5_init 4 = .ok (.aload_n 0, 1) := by decide +kernel
theorem dX5_init_5 : decode cX5_init 5 = .ok (.iload_n 1, 1) := by decide +kernel
theorem dX5_init_6 : decode cX5_init 6 = .ok (.putfield 9, 3) := by decide +kernel
theorem dX5_init_9 : decode cX5_init 9 = .ok (.aload_n 0, 1) := by decide +kernel
theorem dX5_init_10 : decode cX5_init 10 = .ok (.iload_n 2, 1) := by decide +kernel
theorem dX5_init_11 : decode cX5_init 11 = .ok (.putfield 15, 3) := by decide +kernel
theorem dX5_init_14 : decode cX5_init 14 = .ok (.return_, 1) := by decide +kernel
theorem dX5_ofKind_0 : decode cX5_ofKind 0 = .ok (.iload_n 0, 1) := by decide +kernel
theorem dX5_ofKind_1 : decode cX5_ofKind 1 = .ok (.tableswitch 71 1 4 #[31, 41, 51, 61], 31) := by decide +kernel
theorem dX5_ofKind_32 : decode cX5_ofKind 32 = .ok (.new 18, 3) := by decide +kernel
theorem dX5_ofKind_35 : decode cX5_ofKind 35 = .ok (.dup, 1) := by decide +kernel
theorem dX5_ofKind_36 : decode cX5_ofKind 36 = .ok (.iload_n 1, 1) := by decide +kernel
theorem dX5_ofKind_37 : decode cX5_ofKind 37 = .ok (.iload_n 2, 1) := by decide +kernel
theorem dX5_ofKind_38 : decode cX5_ofKind 38 = .ok (.invokespecial 20, 3) := by decide +kernel
theorem dX5_ofKind_41 : decode cX5_ofKind 41 = .ok (.areturn, 1) := by decide +kernel
theorem dX5_ofKind_42 : decode cX5_ofKind 42 = .ok (.new 23, 3) := by decide +kernel
theorem dX5_ofKind_45 : decode cX5_ofKind 45 = .ok (.dup, 1) := by decide +kernel
theorem dX5_ofKind_46 : decode cX5_ofKind 46 = .ok (.iload_n 1, 1) := by decide +kernel
theorem dX5_ofKind_47 : decode cX5_ofKind 47 = .ok (.iload_n 2, 1) := by decide +kernel
theorem dX5_ofKind_48 : decode cX5_ofKind 48 = .ok (.invokespecial 25, 3) := by decide +kernel
theorem dX5_ofKind_51 : decode cX5_ofKind 51 = .ok (.areturn, 1) := by decide +kernel
theorem dX5_ofKind_52 : decode cX5_ofKind 52 = .ok (.new 26, 3) := by decide +kernel
theorem dX5_ofKind_55 : decode cX5_ofKind 55 = .ok (.dup, 1) := by decide +kernel
theorem dX5_ofKind_56 : decode cX5_ofKind 56 = .ok (.iload_n 1, 1) := by decide +kernel
theorem dX5_ofKind_57 : decode cX5_ofKind 57 = .ok (.iload_n 2, 1) := by decide +kernel
theorem dX5_ofKind_58 : decode cX5_ofKind 58 = .ok (.invokespecial 28, 3) := by decide +kernel
theorem dX5_ofKind_61 : decode cX5_ofKind 61 = .ok (.areturn, 1) := by decide +kernel
theorem dX5_ofKind_62 : decode cX5_ofKind 62 = .ok (.new 29, 3) := by decide +kernel
theorem dX5_ofKind_65 : decode cX5_ofKind 65 = .ok (.dup, 1) := by decide +kernel
theorem dX5_ofKind_66 : decode cX5_ofKind 66 = .ok (.iload_n 1, 1) := by decide +kernel
theorem dX5_ofKind_67 : decode cX5_ofKind 67 = .ok (.iload_n 2, 1) := by decide +kernel
theorem dX5_ofKind_68 : decode cX5_ofKind 68 = .ok (.invokespecial 31, 3) := by decide +kernel
theorem dX5_ofKind_71 : decode cX5_ofKind 71 = .ok (.areturn, 1) := by decide +kernel
theorem dX5_ofKind_72 : decode cX5_ofKind 72 = .ok (.new 10, 3) := by decide +kernel
theorem dX5_ofKind_75 : decode cX5_ofKind 75 = .ok (.dup, 1) := by decide +kernel
theorem dX5_ofKind_76 : decode cX5_ofKind 76 = .ok (.iload_n 1, 1) := by decide +kernel
theorem dX5_ofKind_77 : decode cX5_ofKind 77 = .ok (.iload_n 2, 1) := by decide +kernel
theorem dX5_ofKind_78 : decode cX5_ofKind 78 = .ok (.invokespecial 32, 3) := by decide +kernel
theorem dX5_ofKind_81 : decode cX5_ofKind 81 = .ok (.areturn, 1) := by decide +kernel
theorem dX5_kind_0 : decode cX5_kind 0 = .ok (.iconst 0, 1) := by decide +kernel
theorem dX5_kind_1 : decode cX5_kind 1 = .ok (.ireturn, 1) := by decide +kernel
theorem dX5_hauls_0 : decode cX5_hauls 0 = .ok (.aload_n 0, 1) := by decide +kernel
theorem dX5_hauls_1 : decode cX5_hauls 1 = .ok (.getfield 9, 3) := by decide +kernel
theorem dX5_hauls_4 : decode cX5_hauls 4 = .ok (.iload_n 2, 1) := by decide +kernel
theorem dX5_hauls_5 : decode cX5_hauls 5 = .ok (.iadd, 1) := by decide +kernel
theorem dX5_hauls_6 : decode cX5_hauls 6 = .ok (.ireturn, 1) := by decide +kernel
theorem dX5_laysInFrost_0 : decode cX5_laysInFrost 0 = .ok (.iload_n 1, 1) := by decide +kernel
theorem dX5_laysInFrost_1 : decode cX5_laysInFrost 1 = .ok (.iconst 2, 1) := by decide +kernel
theorem dX5_laysInFrost_2 : decode cX5_laysInFrost 2 = .ok (.idiv, 1) := by decide +kernel
theorem dX5_laysInFrost_3 : decode cX5_laysInFrost 3 = .ok (.ireturn, 1) := by decide +kernel
theorem dX5_laysInThaw_0 : decode cX5_laysInThaw 0 = .ok (.iload_n 1, 1) := by decide +kernel
theorem dX5_laysInThaw_1 : decode cX5_laysInThaw 1 = .ok (.iconst 1, 1) := by decide +kernel
theorem dX5_laysInThaw_2 : decode cX5_laysInThaw 2 = .ok (.if_icmp .lt 9, 3) := by decide +kernel
theorem dX5_laysInThaw_5 : decode cX5_laysInThaw 5 = .ok (.iload_n 1, 1) := by decide +kernel
theorem dX5_laysInThaw_6 : decode cX5_laysInThaw 6 = .ok (.iconst 1, 1) := by decide +kernel
theorem dX5_laysInThaw_7 : decode cX5_laysInThaw 7 = .ok (.isub, 1) := by decide +kernel
theorem dX5_laysInThaw_8 : decode cX5_laysInThaw 8 = .ok (.goto 4, 3) := by decide +kernel
theorem dX5_laysInThaw_11 : decode cX5_laysInThaw 11 = .ok (.iconst 0, 1) := by decide +kernel
theorem dX5_laysInThaw_12 : decode cX5_laysInThaw 12 = .ok (.ireturn, 1) := by decide +kernel
theorem dX5_lays_0 : decode cX5_lays 0 = .ok (.aload_n 0, 1) := by decide +kernel
theorem dX5_lays_1 : decode cX5_lays 1 = .ok (.iload_n 2, 1) := by decide +kernel
theorem dX5_lays_2 : decode cX5_lays 2 = .ok (.iload_n 3, 1) := by decide +kernel
theorem dX5_lays_3 : decode cX5_lays 3 = .ok (.invokevirtual 33, 3) := by decide +kernel
theorem dX5_lays_6 : decode cX5_lays 6 = .ok (.istore 4, 2) := by decide +kernel
theorem dX5_lays_8 : decode cX5_lays 8 = .ok (.iload_n 1, 1) := by decide +kernel
theorem dX5_lays_9 : decode cX5_lays 9 = .ok (.lookupswitch 41 #[(1, 27), (2, 34)], 27) := by decide +kernel
theorem dX5_lays_36 : decode cX5_lays 36 = .ok (.aload_n 0, 1) := by decide +kernel
theorem dX5_lays_37 : decode cX5_lays 37 = .ok (.iload 4, 2) := by decide +kernel
theorem dX5_lays_39 : decode cX5_lays 39 = .ok (.invokevirtual 37, 3) := by decide +kernel
theorem dX5_lays_42 : decode cX5_lays 42 = .ok (.ireturn, 1) := by decide +kernel
theorem dX5_lays_43 : decode cX5_lays 43 = .ok (.aload_n 0, 1) := by decide +kernel
theorem dX5_lays_44 : decode cX5_lays 44 = .ok (.iload 4, 2) := by decide +kernel
theorem dX5_lays_46 : decode cX5_lays 46 = .ok (.invokevirtual 41, 3) := by decide +kernel
theorem dX5_lays_49 : decode cX5_lays 49 = .ok (.ireturn, 1) := by decide +kernel
theorem dX5_lays_50 : decode cX5_lays 50 = .ok (.iload 4, 2) := by decide +kernel
theorem dX5_lays_52 : decode cX5_lays 52 = .ok (.ireturn, 1) := by decide +kernel
theorem dX6_init_0 : decode cX6_init 0 = .ok (.aload_n 0, 1) := by decide +kernel
theorem dX6_init_1 : decode cX6_init 1 = .ok (.invokespecial 3, 3) := by decide +kernel
theorem dX6_init_4 : decode cX6_init 4 = .ok (.aload_n 0, 1) := by decide +kernel
theorem dX6_init_5 : decode cX6_init 5 = .ok (.bipush 24, 2) := by decide +kernel
theorem dX6_init_7 : decode cX6_init 7 = .ok (.newarray .long, 2) := by decide +kernel
theorem dX6_init_9 : decode cX6_init 9 = .ok (.putfield 9, 3) := by decide +kernel
theorem dX6_init_12 : decode cX6_init 12 = .ok (.return_, 1) := by decide +kernel
theorem dX6_renew_0 : decode cX6_renew 0 = .ok (.aload_n 0, 1) := by decide +kernel
theorem dX6_renew_1 : decode cX6_renew 1 = .ok (.iconst 1, 1) := by decide +kernel
theorem dX6_renew_2 : decode cX6_renew 2 = .ok (.putfield 15, 3) := by decide +kernel
theorem dX6_renew_5 : decode cX6_renew 5 = .ok (.aload_n 0, 1) := by decide +kernel
theorem dX6_renew_6 : decode cX6_renew 6 = .ok (.iload_n 1, 1) := by decide +kernel
theorem dX6_renew_7 : decode cX6_renew 7 = .ok (.putfield 19, 3) := by decide +kernel
theorem dX6_renew_10 : decode cX6_renew 10 = .ok (.aload_n 0, 1) := by decide +kernel
theorem dX6_renew_11 : decode cX6_renew 11 = .ok (.iload_n 2, 1) := by decide +kernel
theorem dX6_renew_12 : decode cX6_renew 12 = .ok (.putfield 23, 3) := by decide +kernel
theorem dX6_renew_15 : decode cX6_renew 15 = .ok (.iconst 0, 1) := by decide +kernel
theorem dX6_renew_16 : decode cX6_renew 16 = .ok (.istore_n 3, 1) := by decide +kernel
theorem dX6_renew_17 : decode cX6_renew 17 = .ok (.iload_n 3, 1) := by decide +kernel
theorem dX6_renew_18 : decode cX6_renew 18 = .ok (.bipush 24, 2) := by decide +kernel
theorem dX6_renew_20 : decode cX6_renew 20 = .ok (.if_icmp .ge 16, 3) := by decide +kernel
theorem dX6_renew_23 : decode cX6_renew 23 = .ok (.aload_n 0, 1) := by decide +kernel
theorem dX6_renew_24 : decode cX6_renew 24 = .ok (.getfield 9, 3) := by decide +kernel
theorem dX6_renew_27 : decode cX6_renew 27 = .ok (.iload_n 3, 1) := by decide +kernel
theorem dX6_renew_28 : decode cX6_renew 28 = .ok (.lconst 0, 1) := by decide +kernel
theorem dX6_renew_29 : decode cX6_renew 29 = .ok (.lastore, 1) := by decide +kernel
theorem dX6_renew_30 : decode cX6_renew 30 = .ok (.iinc 3 1, 3) := by decide +kernel
theorem dX6_renew_33 : decode cX6_renew 33 = .ok (.goto (-16), 3) := by decide +kernel
theorem dX6_renew_36 : decode cX6_renew 36 = .ok (.return_, 1) := by decide +kernel
theorem dX6_find_0 : decode cX6_find 0 = .ok (.aload_n 0, 1) := by decide +kernel
theorem dX6_find_1 : decode cX6_find 1 = .ok (.getfield 15, 3) := by decide +kernel
theorem dX6_find_4 : decode cX6_find 4 = .ok (.ifCond .ne 6, 3) := by decide +kernel
theorem dX6_find_7 : decode cX6_find 7 = .ok (.bipush (-11), 2) := by decide +kernel
theorem dX6_find_9 : decode cX6_find 9 = .ok (.ireturn, 1) := by decide +kernel
theorem dX6_find_10 : decode cX6_find 10 = .ok (.aload_n 0, 1) := by decide +kernel
theorem dX6_find_11 : decode cX6_find 11 = .ok (.getfield 19, 3) := by decide +kernel
theorem dX6_find_14 : decode cX6_find 14 = .ok (.iload_n 1, 1) := by decide +kernel
theorem dX6_find_15 : decode cX6_find 15 = .ok (.if_icmp .eq 6, 3) := by decide +kernel
theorem dX6_find_18 : decode cX6_find 18 = .ok (.bipush (-12), 2) := by decide +kernel
theorem dX6_find_20 : decode cX6_find 20 = .ok (.ireturn, 1) := by decide +kernel
theorem dX6_find_21 : decode cX6_find 21 = .ok (.aload_n 0, 1) := by decide +kernel
theorem dX6_find_22 : decode cX6_find 22 = .ok (.iload_n 2, 1) := by decide +kernel
theorem dX6_find_23 : decode cX6_find 23 = .ok (.iload_n 3, 1) := by decide +kernel
theorem dX6_find_24 : decode cX6_find 24 = .ok (.invokevirtual 26, 3) := by decide +kernel
theorem dX6_find_27 : decode cX6_find 27 = .ok (.ifCond .eq 7, 3) := by decide +kernel
theorem dX6_find_30 : decode cX6_find 30 = .ok (.iconst 0, 1) := by decide +kernel
theorem dX6_find_31 : decode cX6_find 31 = .ok (.goto 5, 3) := by decide +kernel
theorem dX6_find_34 : decode cX6_find 34 = .ok (.bipush (-13), 2) := by decide +kernel
theorem dX6_find_36 : decode cX6_find 36 = .ok (.ireturn, 1) := by decide +kernel
theorem dX6_has_0 : decode cX6_has 0 = .ok (.iload_n 1, 1) := by decide +kernel
theorem dX6_has_1 : decode cX6_has 1 = .ok (.ifCond .lt 21, 3) := by decide +kernel
theorem dX6_has_4 : decode cX6_has 4 = .ok (.iload_n 2, 1) := by decide +kernel
theorem dX6_has_5 : decode cX6_has 5 = .ok (.ifCond .lt 17, 3) := by decide +kernel
theorem dX6_has_8 : decode cX6_has 8 = .ok (.iload_n 1, 1) := by decide +kernel
theorem dX6_has_9 : decode cX6_has 9 = .ok (.aload_n 0, 1) := by decide +kernel
theorem dX6_has_10 : decode cX6_has 10 = .ok (.getfield 23, 3) := by decide +kernel
theorem dX6_has_13 : decode cX6_has 13 = .ok (.iload_n 2, 1) := by decide +kernel
theorem dX6_has_14 : decode cX6_has 14 = .ok (.isub, 1) := by decide +kernel
theorem dX6_has_15 : decode cX6_has 15 = .ok (.if_icmp .gt 7, 3) := by decide +kernel
theorem dX6_has_18 : decode cX6_has 18 = .ok (.iconst 1, 1) := by decide +kernel
theorem dX6_has_19 : decode cX6_has 19 = .ok (.goto 4, 3) := by decide +kernel
theorem dX6_has_22 : decode cX6_has 22 = .ok (.iconst 0, 1) := by decide +kernel
theorem dX6_has_23 : decode cX6_has 23 = .ok (.ireturn, 1) := by decide +kernel
theorem dX6_put_0 : decode cX6_put 0 = .ok (.iload_n 1, 1) := by decide +kernel
theorem dX6_put_1 : decode cX6_put 1 = .ok (.iconst 0, 1) := by decide +kernel
theorem dX6_put_2 : decode cX6_put 2 = .ok (.aload_n 0, 1) := by decide +kernel
theorem dX6_put_3 : decode cX6_put 3 = .ok (.getfield 23, 3) := by decide +kernel
theorem dX6_put_6 : decode cX6_put 6 = .ok (.iconst 1, 1) := by decide +kernel
theorem dX6_put_7 : decode cX6_put 7 = .ok (.isub, 1) := by decide +kernel
theorem dX6_put_8 : decode cX6_put 8 = .ok (.invokestatic 30, 3) := by decide +kernel
theorem dX6_put_11 : decode cX6_put 11 = .ok (.ifCond .eq 14, 3) := by decide +kernel
theorem dX6_put_14 : decode cX6_put 14 = .ok (.aload_n 0, 1) := by decide +kernel
theorem dX6_put_15 : decode cX6_put 15 = .ok (.getfield 9, 3) := by decide +kernel
theorem dX6_put_18 : decode cX6_put 18 = .ok (.iload_n 1, 1) := by decide +kernel
theorem dX6_put_19 : decode cX6_put 19 = .ok (.aload_n 0, 1) := by decide +kernel
theorem dX6_put_20 : decode cX6_put 20 = .ok (.lload_n 2, 1) := by decide +kernel
theorem dX6_put_21 : decode cX6_put 21 = .ok (.invokevirtual 34, 3) := by decide +kernel
theorem dX6_put_24 : decode cX6_put 24 = .ok (.lastore, 1) := by decide +kernel
theorem dX6_put_25 : decode cX6_put 25 = .ok (.return_, 1) := by decide +kernel
theorem dX6_cut_0 : decode cX6_cut 0 = .ok (.aload_n 0, 1) := by decide +kernel
theorem dX6_cut_1 : decode cX6_cut 1 = .ok (.getfield 19, 3) := by decide +kernel
theorem dX6_cut_4 : decode cX6_cut 4 = .ok (.tableswitch 42 0 2 #[28, 33, 38], 28) := by decide +kernel
theorem dX6_cut_32 : decode cX6_cut 32 = .ok (.lload_n 1, 1) := by decide +kernel
theorem dX6_cut_33 : decode cX6_cut 33 = .ok (.l2i, 1) := by decide +kernel
theorem dX6_cut_34 : decode cX6_cut 34 = .ok (.i2b, 1) := by decide +kernel
theorem dX6_cut_35 : decode cX6_cut 35 = .ok (.i2l, 1) := by decide +kernel
theorem dX6_cut_36 : decode cX6_cut 36 = .ok (.lreturn, 1) := by decide +kernel
theorem dX6_cut_37 : decode cX6_cut 37 = .ok (.lload_n 1, 1) := by decide +kernel
theorem dX6_cut_38 : decode cX6_cut 38 = .ok (.l2i, 1) := by decide +kernel
theorem dX6_cut_39 : decode cX6_cut 39 = .ok (.i2s, 1) := by decide +kernel
theorem dX6_cut_40 : decode cX6_cut 40 = .ok (.i2l, 1) := by decide +kernel
theorem dX6_cut_41 : decode cX6_cut 41 = .ok (.lreturn, 1) := by decide +kernel
theorem dX6_cut_42 : decode cX6_cut 42 = .ok (.lload_n 1, 1) := by decide +kernel
theorem dX6_cut_43 : decode cX6_cut 43 = .ok (.l2i, 1) := by decide +kernel
theorem dX6_cut_44 : decode cX6_cut 44 = .ok (.i2l, 1) := by decide +kernel
theorem dX6_cut_45 : decode cX6_cut 45 = .ok (.lreturn, 1) := by decide +kernel
theorem dX6_cut_46 : decode cX6_cut 46 = .ok (.lload_n 1, 1) := by decide +kernel
theorem dX6_cut_47 : decode cX6_cut 47 = .ok (.lreturn, 1) := by decide +kernel
theorem dX7_init_0 : decode cX7_init 0 = .ok (.aload_n 0, 1) := by decide +kernel
theorem dX7_init_1 : decode cX7_init 1 = .ok (.invokespecial 3, 3) := by decide +kernel
theorem dX7_init_4 : decode cX7_init 4 = .ok (.aload_n 0, 1) := by decide +kernel
theorem dX7_init_5 : decode cX7_init 5 = .ok (.bipush 60, 2) := by decide +kernel
theorem dX7_init_7 : decode cX7_init 7 = .ok (.putfield 9, 3) := by decide +kernel
theorem dX7_init_10 : decode cX7_init 10 = .ok (.aload_n 0, 1) := by decide +kernel
theorem dX7_init_11 : decode cX7_init 11 = .ok (.bipush 20, 2) := by decide +kernel
theorem dX7_init_13 : decode cX7_init 13 = .ok (.putfield 15, 3) := by decide +kernel
theorem dX7_init_16 : decode cX7_init 16 = .ok (.aload_n 0, 1) := by decide +kernel
theorem dX7_init_17 : decode cX7_init 17 = .ok (.iconst 2, 1) := by decide +kernel
theorem dX7_init_18 : decode cX7_init 18 = .ok (.putfield 18, 3) := by decide +kernel
theorem dX7_init_21 : decode cX7_init 21 = .ok (.aload_n 0, 1) := by decide +kernel
theorem dX7_init_22 : decode cX7_init 22 = .ok (.iconst 1, 1) := by decide +kernel
theorem dX7_init_23 : decode cX7_init 23 = .ok (.putfield 21, 3) := by decide +kernel
theorem dX7_init_26 : decode cX7_init 26 = .ok (.aload_n 0, 1) := by decide +kernel
theorem dX7_init_27 : decode cX7_init 27 = .ok (.bipush 15, 2) := by decide +kernel
theorem dX7_init_29 : decode cX7_init 29 = .ok (.putfield 24, 3) := by decide +kernel
theorem dX7_init_32 : decode cX7_init 32 = .ok (.aload_n 0, 1) := by decide +kernel
theorem dX7_init_33 : decode cX7_init 33 = .ok (.iconst 1, 1) := by decide +kernel
theorem dX7_init_34 : decode cX7_init 34 = .ok (.putfield 27, 3) := by decide +kernel
theorem dX7_init_37 : decode cX7_init 37 = .ok (.aload_n 0, 1) := by decide +kernel
theorem dX7_init_38 : decode cX7_init 38 = .ok (.iconst 4, 1) := by decide +kernel
theorem dX7_init_39 : decode cX7_init 39 = .ok (.anewarray 30, 3) := by decide +kernel
theorem dX7_init_42 : decode cX7_init 42 = .ok (.putfield 32, 3) := by decide +kernel
theorem dX7_init_45 : decode cX7_init 45 = .ok (.aload_n 0, 1) := by decide +kernel
theorem dX7_init_46 : decode cX7_init 46 = .ok (.bipush 6, 2) := by decide +kernel
theorem dX7_init_48 : decode cX7_init 48 = .ok (.newarray .int, 2) := by decide +kernel
theorem dX7_init_50 : decode cX7_init 50 = .ok (.putfield 36, 3) := by decide +kernel
theorem dX7_init_53 : decode cX7_init 53 = .ok (.aload_n 0, 1) := by decide +kernel
theorem dX7_init_54 : decode cX7_init 54 = .ok (.bipush 6, 2) := by decide +kernel
theorem dX7_init_56 : decode cX7_init 56 = .ok (.newarray .int, 2) := by decide +kernel
theorem dX7_init_58 : decode cX7_init 58 = .ok (.putfield 40, 3) := by decide +kernel
theorem dX7_init_61 : decode cX7_init 61 = .ok (.aload_n 0, 1) := by decide +kernel
theorem dX7_init_62 : decode cX7_init 62 = .ok (.bipush 48, 2) := by decide +kernel
theorem dX7_init_64 : decode cX7_init 64 = .ok (.newarray .int, 2) := by decide +kernel
theorem dX7_init_66 : decode cX7_init 66 = .ok (.putfield 43, 3) := by decide +kernel
theorem dX7_init_69 : decode cX7_init 69 = .ok (.return_, 1) := by decide +kernel
theorem dX7_isSummer_0 : decode cX7_isSummer 0 = .ok (.aload_n 0, 1) := by decide +kernel
theorem dX7_isSummer_1 : decode cX7_isSummer 1 = .ok (.getfield 46, 3) := by decide +kernel
theorem dX7_isSummer_4 : decode cX7_isSummer 4 = .ok (.aload_n 0, 1) := by decide +kernel
theorem dX7_isSummer_5 : decode cX7_isSummer 5 = .ok (.getfield 15, 3) := by decide +kernel
theorem dX7_isSummer_8 : decode cX7_isSummer 8 = .ok (.if_icmp .lt 7, 3) := by decide +kernel
theorem dX7_isSummer_11 : decode cX7_isSummer 11 = .ok (.iconst 1, 1) := by decide +kernel
theorem dX7_isSummer_12 : decode cX7_isSummer 12 = .ok (.goto 4, 3) := by decide +kernel
theorem dX7_isSummer_15 : decode cX7_isSummer 15 = .ok (.iconst 0, 1) := by decide +kernel
theorem dX7_isSummer_16 : decode cX7_isSummer 16 = .ok (.ireturn, 1) := by decide +kernel
theorem dX7_isUsed_0 : decode cX7_isUsed 0 = .ok (.aload_n 0, 1) := by decide +kernel
theorem dX7_isUsed_1 : decode cX7_isUsed 1 = .ok (.getfield 49, 3) := by decide +kernel
theorem dX7_isUsed_4 : decode cX7_isUsed 4 = .ok (.iload_n 1, 1) := by decide +kernel
theorem dX7_isUsed_5 : decode cX7_isUsed 5 = .ok (.ishr, 1) := by decide +kernel
theorem dX7_isUsed_6 : decode cX7_isUsed 6 = .ok (.iconst 1, 1) := by decide +kernel
theorem dX7_isUsed_7 : decode cX7_isUsed 7 = .ok (.iand, 1) := by decide +kernel
theorem dX7_isUsed_8 : decode cX7_isUsed 8 = .ok (.ifCond .eq 7, 3) := by decide +kernel
theorem dX7_isUsed_11 : decode cX7_isUsed 11 = .ok (.iconst 1, 1) := by decide +kernel
theorem dX7_isUsed_12 : decode cX7_isUsed 12 = .ok (.goto 4, 3) := by decide +kernel
theorem dX7_isUsed_15 : decode cX7_isUsed 15 = .ok (.iconst 0, 1) := by decide +kernel
theorem dX7_isUsed_16 : decode cX7_isUsed 16 = .ok (.ireturn, 1) := by decide +kernel
theorem dX7_addBuilder_0 : decode cX7_addBuilder 0 = .ok (.aload_n 0, 1) := by decide +kernel
theorem dX7_addBuilder_1 : decode cX7_addBuilder 1 = .ok (.getfield 52, 3) := by decide +kernel
theorem dX7_addBuilder_4 : decode cX7_addBuilder 4 = .ok (.iconst 4, 1) := by decide +kernel
theorem dX7_addBuilder_5 : decode cX7_addBuilder 5 = .ok (.if_icmp .ge 28, 3) := by decide +kernel
theorem dX7_addBuilder_8 : decode cX7_addBuilder 8 = .ok (.aload_n 0, 1) := by decide +kernel
theorem dX7_addBuilder_9 : decode cX7_addBuilder 9 = .ok (.getfield 32, 3) := by decide +kernel
theorem dX7_addBuilder_12 : decode cX7_addBuilder 12 = .ok (.aload_n 0, 1) := by decide +kernel
theorem dX7_addBuilder_13 : decode cX7_addBuilder 13 = .ok (.getfield 52, 3) := by decide +kernel
theorem dX7_addBuilder_16 : decode cX7_addBuilder 16 = .ok (.iload_n 1, 1) := by decide +kernel
theorem dX7_addBuilder_17 : decode cX7_addBuilder 17 = .ok (.iload_n 2, 1) := by decide +kernel
theorem dX7_addBuilder_18 : decode cX7_addBuilder 18 = .ok (.iload_n 3, 1) := by decide +kernel
theorem dX7_addBuilder_19 : decode cX7_addBuilder 19 = .ok (.invokestatic 55, 3) := by decide +kernel
theorem dX7_addBuilder_22 : decode cX7_addBuilder 22 = .ok (.aastore, 1) := by decide +kernel
theorem dX7_addBuilder_23 : decode cX7_addBuilder 23 = .ok (.aload_n 0, 1) := by decide +kernel
theorem dX7_addBuilder_24 : decode cX7_addBuilder 24 = .ok (.dup, 1) := by decide +kernel
theorem dX7_addBuilder_25 : decode cX7_addBuilder 25 = .ok (.getfield 52, 3) := by decide +kernel
theorem dX7_addBuilder_28 : decode cX7_addBuilder 28 = .ok (.iconst 1, 1) := by decide +kernel
theorem dX7_addBuilder_29 : decode cX7_addBuilder 29 = .ok (.iadd, 1) := by decide +kernel
theorem dX7_addBuilder_30 : decode cX7_addBuilder 30 = .ok (.putfield 52, 3) := by decide +kernel
theorem dX7_addBuilder_33 : decode cX7_addBuilder 33 = .ok (.return_, 1) := by decide +kernel
theorem dX7_addHindrance_0 : decode cX7_addHindrance 0 = .ok (.aload_n 0, 1) := by decide +kernel
theorem dX7_addHindrance_1 : decode cX7_addHindrance 1 = .ok (.getfield 59, 3) := by decide +kernel
theorem dX7_addHindrance_4 : decode cX7_addHindrance 4 = .ok (.bipush 6, 2) := by decide +kernel
theorem dX7_addHindrance_6 : decode cX7_addHindrance 6 = .ok (.if_icmp .ge 33, 3) := by decide +kernel
theorem dX7_addHindrance_9 : decode cX7_addHindrance 9 = .ok (.aload_n 0, 1) := by decide +kernel
theorem dX7_addHindrance_10 : decode cX7_addHindrance 10 = .ok (.getfield 36, 3) := by decide +kernel
theorem dX7_addHindrance_13 : decode cX7_addHindrance 13 = .ok (.aload_n 0, 1) := by decide +kernel
theorem dX7_addHindrance_14 : decode cX7_addHindrance 14 = .ok (.getfield 59, 3) := by decide +kernel
theorem dX7_addHindrance_17 : decode cX7_addHindrance 17 = .ok (.iload_n 1, 1) := by decide +kernel
theorem dX7_addHindrance_18 : decode cX7_addHindrance 18 = .ok (.iastore, 1) := by decide +kernel
theorem dX7_addHindrance_19 : decode cX7_addHindrance 19 = .ok (.aload_n 0, 1) := by decide +kernel
theorem dX7_addHindrance_20 : decode cX7_addHindrance 20 = .ok (.getfield 40, 3) := by decide +kernel
theorem dX7_addHindrance_23 : decode cX7_addHindrance 23 = .ok (.aload_n 0, 1) := by decide +kernel
theorem dX7_addHindrance_24 : decode cX7_addHindrance 24 = .ok (.getfield 59, 3) := by decide +kernel
theorem dX7_addHindrance_27 : decode cX7_addHindrance 27 = .ok (.iload_n 2, 1) := by decide +kernel
theorem dX7_addHindrance_28 : decode cX7_addHindrance 28 = .ok (.iastore, 1) := by decide +kernel
theorem dX7_addHindrance_29 : decode cX7_addHindrance 29 = .ok (.aload_n 0, 1) := by decide +kernel
theorem dX7_addHindrance_30 : decode cX7_addHindrance 30 = .ok (.dup, 1) := by decide +kernel
theorem dX7_addHindrance_31 : decode cX7_addHindrance 31 = .ok (.getfield 59, 3) := by decide +kernel
theorem dX7_addHindrance_34 : decode cX7_addHindrance 34 = .ok (.iconst 1, 1) := by decide +kernel
theorem dX7_addHindrance_35 : decode cX7_addHindrance 35 = .ok (.iadd, 1) := by decide +kernel
theorem dX7_addHindrance_36 : decode cX7_addHindrance 36 = .ok (.putfield 59, 3) := by decide +kernel
theorem dX7_addHindrance_39 : decode cX7_addHindrance 39 = .ok (.return_, 1) := by decide +kernel
theorem dX7_layTogether_0 : decode cX7_layTogether 0 = .ok (.iconst 0, 1) := by decide +kernel
theorem dX7_layTogether_1 : decode cX7_layTogether 1 = .ok (.istore 5, 2) := by decide +kernel
theorem dX7_layTogether_3 : decode cX7_layTogether 3 = .ok (.iconst 0, 1) := by decide +kernel
theorem dX7_layTogether_4 : decode cX7_layTogether 4 = .ok (.istore 6, 2) := by decide +kernel
theorem dX7_layTogether_6 : decode cX7_layTogether 6 = .ok (.iload 6, 2) := by decide +kernel
theorem dX7_layTogether_8 : decode cX7_layTogether 8 = .ok (.aload_n 0, 1) := by decide +kernel
theorem dX7_layTogether_9 : decode cX7_layTogether 9 = .ok (.getfield 52, 3) := by decide +kernel
theorem dX7_layTogether_12 : decode cX7_layTogether 12 = .ok (.if_icmp .ge 47, 3) := by decide +kernel
theorem dX7_layTogether_15 : decode cX7_layTogether 15 = .ok (.aload_n 0, 1) := by decide +kernel
theorem dX7_layTogether_16 : decode cX7_layTogether 16 = .ok (.getfield 32, 3) := by decide +kernel
theorem dX7_layTogether_19 : decode cX7_layTogether 19 = .ok (.iload 6, 2) := by decide +kernel
theorem dX7_layTogether_21 : decode cX7_layTogether 21 = .ok (.aaload, 1) := by decide +kernel
theorem dX7_layTogether_22 : decode cX7_layTogether 22 = .ok (.astore 7, 2) := by decide +kernel
theorem dX7_layTogether_24 : decode cX7_layTogether 24 = .ok (.aload 7, 2) := by decide +kernel
theorem dX7_layTogether_26 : decode cX7_layTogether 26 = .ok (.ifnull 27, 3) := by decide +kernel
theorem dX7_layTogether_29 : decode cX7_layTogether 29 = .ok (.iload 5, 2) := by decide +kernel
theorem dX7_layTogether_31 : decode cX7_layTogether 31 = .ok (.aload 7, 2) := by decide +kernel
theorem dX7_layTogether_33 : decode cX7_layTogether 33 = .ok (.iload_n 1, 1) := by decide +kernel
theorem dX7_layTogether_34 : decode cX7_layTogether 34 = .ok (.iload_n 2, 1) := by decide +kernel
theorem dX7_layTogether_35 : decode cX7_layTogether 35 = .ok (.iload 6, 2) := by decide +kernel
theorem dX7_layTogether_37 : decode cX7_layTogether 37 = .ok (.iload_n 3, 1) := by decide +kernel
theorem dX7_layTogether_38 : decode cX7_layTogether 38 = .ok (.if_icmp .ne 8, 3) := by decide +kernel
theorem dX7_layTogether_41 : decode cX7_layTogether 41 = .ok (.iload 4, 2) := by decide +kernel
theorem dX7_layTogether_43 : decode cX7_layTogether 43 = .ok (.goto 4, 3) := by decide +kernel
theorem dX7_layTogether_46 : decode cX7_layTogether 46 = .ok (.iconst 0, 1) := by decide +kernel
theorem dX7_layTogether_47 : decode cX7_layTogether 47 = .ok (.invokevirtual 62, 3) := by decide +kernel
theorem dX7_layTogether_50 : decode cX7_layTogether 50 = .ok (.iadd, 1) := by decide +kernel
theorem dX7_layTogether_51 : decode cX7_layTogether 51 = .ok (.istore 5, 2) := by decide +kernel
theorem dX7_layTogether_53 : decode cX7_layTogether 53 = .ok (.iinc 6 1, 3) := by decide +kernel
theorem dX7_layTogether_56 : decode cX7_layTogether 56 = .ok (.goto (-50), 3) := by decide +kernel
theorem dX7_layTogether_59 : decode cX7_layTogether 59 = .ok (.iload 5, 2) := by decide +kernel
theorem dX7_layTogether_61 : decode cX7_layTogether 61 = .ok (.ireturn, 1) := by decide +kernel
theorem dX7_laidBehind_0 : decode cX7_laidBehind 0 = .ok (.aload_n 0, 1) := by decide +kernel
theorem dX7_laidBehind_1 : decode cX7_laidBehind 1 = .ok (.iload_n 1, 1) := by decide +kernel
theorem dX7_laidBehind_2 : decode cX7_laidBehind 2 = .ok (.iload_n 2, 1) := by decide +kernel
theorem dX7_laidBehind_3 : decode cX7_laidBehind 3 = .ok (.iconst (-1), 1) := by decide +kernel
theorem dX7_laidBehind_4 : decode cX7_laidBehind 4 = .ok (.iconst 0, 1) := by decide +kernel
theorem dX7_laidBehind_5 : decode cX7_laidBehind 5 = .ok (.invokevirtual 66, 3) := by decide +kernel
theorem dX7_laidBehind_8 : decode cX7_laidBehind 8 = .ok (.iload_n 3, 1) := by decide +kernel
theorem dX7_laidBehind_9 : decode cX7_laidBehind 9 = .ok (.isub, 1) := by decide +kernel
theorem dX7_laidBehind_10 : decode cX7_laidBehind 10 = .ok (.istore 4, 2) := by decide +kernel
theorem dX7_laidBehind_12 : decode cX7_laidBehind 12 = .ok (.iload 4, 2) := by decide +kernel
theorem dX7_laidBehind_14 : decode cX7_laidBehind 14 = .ok (.ifCond .gt 7, 3) := by decide +kernel
theorem dX7_laidBehind_17 : decode cX7_laidBehind 17 = .ok (.iload_n 2, 1) := by decide +kernel
theorem dX7_laidBehind_18 : decode cX7_laidBehind 18 = .ok (.goto 14, 3) := by decide +kernel
theorem dX7_laidBehind_21 : decode cX7_laidBehind 21 = .ok (.aload_n 0, 1) := by decide +kernel
theorem dX7_laidBehind_22 : decode cX7_laidBehind 22 = .ok (.getfield 9, 3) := by decide +kernel
theorem dX7_laidBehind_25 : decode cX7_laidBehind 25 = .ok (.iload_n 2, 1) := by decide +kernel
theorem dX7_laidBehind_26 : decode cX7_laidBehind 26 = .ok (.iload 4, 2) := by decide +kernel
theorem dX7_laidBehind_28 : decode cX7_laidBehind 28 = .ok (.iadd, 1) := by decide +kernel
theorem dX7_laidBehind_29 : decode cX7_laidBehind 29 = .ok (.invokestatic 70, 3) := by decide +kernel
theorem dX7_laidBehind_32 : decode cX7_laidBehind 32 = .ok (.ireturn, 1) := by decide +kernel
theorem dX7_costOf_0 : decode cX7_costOf 0 = .ok (.iconst 0, 1) := by decide +kernel
theorem dX7_costOf_1 : decode cX7_costOf 1 = .ok (.istore_n 2, 1) := by decide +kernel
theorem dX7_costOf_2 : decode cX7_costOf 2 = .ok (.iconst 0, 1) := by decide +kernel
theorem dX7_costOf_3 : decode cX7_costOf 3 = .ok (.istore_n 3, 1) := by decide +kernel
theorem dX7_costOf_4 : decode cX7_costOf 4 = .ok (.iload_n 3, 1) := by decide +kernel
theorem dX7_costOf_5 : decode cX7_costOf 5 = .ok (.aload_n 0, 1) := by decide +kernel
theorem dX7_costOf_6 : decode cX7_costOf 6 = .ok (.getfield 59, 3) := by decide +kernel
theorem dX7_costOf_9 : decode cX7_costOf 9 = .ok (.if_icmp .ge 26, 3) := by decide +kernel
theorem dX7_costOf_12 : decode cX7_costOf 12 = .ok (.iload_n 1, 1) := by decide +kernel
theorem dX7_costOf_13 : decode cX7_costOf 13 = .ok (.iload_n 3, 1) := by decide +kernel
theorem dX7_costOf_14 : decode cX7_costOf 14 = .ok (.ishr, 1) := by decide +kernel
theorem dX7_costOf_15 : decode cX7_costOf 15 = .ok (.iconst 1, 1) := by decide +kernel
theorem dX7_costOf_16 : decode cX7_costOf 16 = .ok (.iand, 1) := by decide +kernel
theorem dX7_costOf_17 : decode cX7_costOf 17 = .ok (.ifCond .eq 12, 3) := by decide +kernel
theorem dX7_costOf_20 : decode cX7_costOf 20 = .ok (.iload_n 2, 1) := by decide +kernel
theorem dX7_costOf_21 : decode cX7_costOf 21 = .ok (.aload_n 0, 1) := by decide +kernel
theorem dX7_costOf_22 : decode cX7_costOf 22 = .ok (.getfield 36, 3) := by decide +kernel
theorem dX7_costOf_25 : decode cX7_costOf 25 = .ok (.iload_n 3, 1) := by decide +kernel
theorem dX7_costOf_26 : decode cX7_costOf 26 = .ok (.iaload, 1) := by decide +kernel
theorem dX7_costOf_27 : decode cX7_costOf 27 = .ok (.iadd, 1) := by decide +kernel
theorem dX7_costOf_28 : decode cX7_costOf 28 = .ok (.istore_n 2, 1) := by decide +kernel
theorem dX7_costOf_29 : decode cX7_costOf 29 = .ok (.iinc 3 1, 3) := by decide +kernel
theorem dX7_costOf_32 : decode cX7_costOf 32 = .ok (.goto (-28), 3) := by decide +kernel
theorem dX7_costOf_35 : decode cX7_costOf 35 = .ok (.iload_n 2, 1) := by decide +kernel
theorem dX7_costOf_36 : decode cX7_costOf 36 = .ok (.ireturn, 1) := by decide +kernel
theorem dX7_costToday_0 : decode cX7_costToday 0 = .ok (.aload_n 0, 1) := by decide +kernel
theorem dX7_costToday_1 : decode cX7_costToday 1 = .ok (.aload_n 0, 1) := by decide +kernel
theorem dX7_costToday_2 : decode cX7_costToday 2 = .ok (.getfield 76, 3) := by decide +kernel
theorem dX7_costToday_5 : decode cX7_costToday 5 = .ok (.invokevirtual 79, 3) := by decide +kernel
theorem dX7_costToday_8 : decode cX7_costToday 8 = .ok (.ireturn, 1) := by decide +kernel
theorem dX7_forbidden_0 : decode cX7_forbidden 0 = .ok (.iconst 0, 1) := by decide +kernel
theorem dX7_forbidden_1 : decode cX7_forbidden 1 = .ok (.istore_n 1, 1) := by decide +kernel
theorem dX7_forbidden_2 : decode cX7_forbidden 2 = .ok (.iconst 0, 1) := by decide +kernel
theorem dX7_forbidden_3 : decode cX7_forbidden 3 = .ok (.istore_n 2, 1) := by decide +kernel
theorem dX7_forbidden_4 : decode cX7_forbidden 4 = .ok (.iload_n 2, 1) := by decide +kernel
theorem dX7_forbidden_5 : decode cX7_forbidden 5 = .ok (.aload_n 0, 1) := by decide +kernel
theorem dX7_forbidden_6 : decode cX7_forbidden 6 = .ok (.getfield 59, 3) := by decide +kernel
theorem dX7_forbidden_9 : decode cX7_forbidden 9 = .ok (.if_icmp .ge 23, 3) := by decide +kernel
theorem dX7_forbidden_12 : decode cX7_forbidden 12 = .ok (.aload_n 0, 1) := by decide +kernel
theorem dX7_forbidden_13 : decode cX7_forbidden 13 = .ok (.iload_n 2, 1) := by decide +kernel
theorem dX7_forbidden_14 : decode cX7_forbidden 14 = .ok (.invokevirtual 83, 3) := by decide +kernel
theorem dX7_forbidden_17 : decode cX7_forbidden 17 = .ok (.ifCond .eq 9, 3) := by decide +kernel
theorem dX7_forbidden_20 : decode cX7_forbidden 20 = .ok (.iload_n 1, 1) := by decide +kernel
theorem dX7_forbidden_21 : decode cX7_forbidden 21 = .ok (.iconst 1, 1) := by decide +kernel
theorem dX7_forbidden_22 : decode cX7_forbidden 22 = .ok (.iload_n 2, 1) := by decide +kernel
theorem dX7_forbidden_23 : decode cX7_forbidden 23 = .ok (.ishl, 1) := by decide +kernel
theorem dX7_forbidden_24 : decode cX7_forbidden 24 = .ok (.ior, 1) := by decide +kernel
theorem dX7_forbidden_25 : decode cX7_forbidden 25 = .ok (.istore_n 1, 1) := by decide +kernel
theorem dX7_forbidden_26 : decode cX7_forbidden 26 = .ok (.iinc 2 1, 3) := by decide +kernel
theorem dX7_forbidden_29 : decode cX7_forbidden 29 = .ok (.goto (-25), 3) := by decide +kernel
theorem dX7_forbidden_32 : decode cX7_forbidden 32 = .ok (.iload_n 1, 1) := by decide +kernel
theorem dX7_forbidden_33 : decode cX7_forbidden 33 = .ok (.ireturn, 1) := by decide +kernel
theorem dX7_breaksSworn_0 : decode cX7_breaksSworn 0 = .ok (.aload_n 0, 1) := by decide +kernel
theorem dX7_breaksSworn_1 : decode cX7_breaksSworn 1 = .ok (.getfield 40, 3) := by decide +kernel
theorem dX7_breaksSworn_4 : decode cX7_breaksSworn 4 = .ok (.iload_n 1, 1) := by decide +kernel
theorem dX7_breaksSworn_5 : decode cX7_breaksSworn 5 = .ok (.iaload, 1) := by decide +kernel
theorem dX7_breaksSworn_6 : decode cX7_breaksSworn 6 = .ok (.istore_n 2, 1) := by decide +kernel
theorem dX7_breaksSworn_7 : decode cX7_breaksSworn 7 = .ok (.iload_n 2, 1) := by decide +kernel
theorem dX7_breaksSworn_8 : decode cX7_breaksSworn 8 = .ok (.ifCond .lt 18, 3) := by decide +kernel
theorem dX7_breaksSworn_11 : decode cX7_breaksSworn 11 = .ok (.aload_n 0, 1) := by decide +kernel
theorem dX7_breaksSworn_12 : decode cX7_breaksSworn 12 = .ok (.getfield 24, 3) := by decide +kernel
theorem dX7_breaksSworn_15 : decode cX7_breaksSworn 15 = .ok (.iload_n 2, 1) := by decide +kernel
theorem dX7_breaksSworn_16 : decode cX7_breaksSworn 16 = .ok (.ishr, 1) := by decide +kernel
theorem dX7_breaksSworn_17 : decode cX7_breaksSworn 17 = .ok (.iconst 1, 1) := by decide +kernel
theorem dX7_breaksSworn_18 : decode cX7_breaksSworn 18 = .ok (.iand, 1) := by decide +kernel
theorem dX7_breaksSworn_19 : decode cX7_breaksSworn 19 = .ok (.ifCond .eq 7, 3) := by decide +kernel
theorem dX7_breaksSworn_22 : decode cX7_breaksSworn 22 = .ok (.iconst 1, 1) := by decide +kernel
theorem dX7_breaksSworn_23 : decode cX7_breaksSworn 23 = .ok (.goto 4, 3) := by decide +kernel
theorem dX7_breaksSworn_26 : decode cX7_breaksSworn 26 = .ok (.iconst 0, 1) := by decide +kernel
theorem dX7_breaksSworn_27 : decode cX7_breaksSworn 27 = .ok (.ireturn, 1) := by decide +kernel
theorem dX7_hinder_0 : decode cX7_hinder 0 = .ok (.aload_n 0, 1) := by decide +kernel
theorem dX7_hinder_1 : decode cX7_hinder 1 = .ok (.dup, 1) := by decide +kernel
theorem dX7_hinder_2 : decode cX7_hinder 2 = .ok (.getfield 49, 3) := by decide +kernel
theorem dX7_hinder_5 : decode cX7_hinder 5 = .ok (.iconst 1, 1) := by decide +kernel
theorem dX7_hinder_6 : decode cX7_hinder 6 = .ok (.iload_n 1, 1) := by decide +kernel
theorem dX7_hinder_7 : decode cX7_hinder 7 = .ok (.ishl, 1) := by decide +kernel
theorem dX7_hinder_8 : decode cX7_hinder 8 = .ok (.ior, 1) := by decide +kernel
theorem dX7_hinder_9 : decode cX7_hinder 9 = .ok (.putfield 49, 3) := by decide +kernel
theorem dX7_hinder_12 : decode cX7_hinder 12 = .ok (.aload_n 0, 1) := by decide +kernel
theorem dX7_hinder_13 : decode cX7_hinder 13 = .ok (.dup, 1) := by decide +kernel
theorem dX7_hinder_14 : decode cX7_hinder 14 = .ok (.getfield 76, 3) := by decide +kernel
theorem dX7_hinder_17 : decode cX7_hinder 17 = .ok (.iconst 1, 1) := by decide +kernel
theorem dX7_hinder_18 : decode cX7_hinder 18 = .ok (.iload_n 1, 1) := by decide +kernel
theorem dX7_hinder_19 : decode cX7_hinder 19 = .ok (.ishl, 1) := by decide +kernel
theorem dX7_hinder_20 : decode cX7_hinder 20 = .ok (.ior, 1) := by decide +kernel
theorem dX7_hinder_21 : decode cX7_hinder 21 = .ok (.putfield 76, 3) := by decide +kernel
theorem dX7_hinder_24 : decode cX7_hinder 24 = .ok (.aload_n 0, 1) := by decide +kernel
theorem dX7_hinder_25 : decode cX7_hinder 25 = .ok (.iload_n 1, 1) := by decide +kernel
theorem dX7_hinder_26 : decode cX7_hinder 26 = .ok (.invokevirtual 83, 3) := by decide +kernel
theorem dX7_hinder_29 : decode cX7_hinder 29 = .ok (.ifCond .eq 20, 3) := by decide +kernel
theorem dX7_hinder_32 : decode cX7_hinder 32 = .ok (.aload_n 0, 1) := by decide +kernel
theorem dX7_hinder_33 : decode cX7_hinder 33 = .ok (.dup, 1) := by decide +kernel
theorem dX7_hinder_34 : decode cX7_hinder 34 = .ok (.getfield 87, 3) := by decide +kernel
theorem dX7_hinder_37 : decode cX7_hinder 37 = .ok (.iconst 1, 1) := by decide +kernel
theorem dX7_hinder_38 : decode cX7_hinder 38 = .ok (.aload_n 0, 1) := by decide +kernel
theorem dX7_hinder_39 : decode cX7_hinder 39 = .ok (.getfield 40, 3) := by decide +kernel
theorem dX7_hinder_42 : decode cX7_hinder 42 = .ok (.iload_n 1, 1) := by decide +kernel
theorem dX7_hinder_43 : decode cX7_hinder 43 = .ok (.iaload, 1) := by decide +kernel
theorem dX7_hinder_44 : decode cX7_hinder 44 = .ok (.ishl, 1) := by decide +kernel
theorem dX7_hinder_45 : decode cX7_hinder 45 = .ok (.ior, 1) := by decide +kernel
theorem dX7_hinder_46 : decode cX7_hinder 46 = .ok (.putfield 87, 3) := by decide +kernel
theorem dX7_hinder_49 : decode cX7_hinder 49 = .ok (.return_, 1) := by decide +kernel
theorem dX7_pass_0 : decode cX7_pass 0 = .ok (.aload_n 0, 1) := by decide +kernel
theorem dX7_pass_1 : decode cX7_pass 1 = .ok (.getfield 90, 3) := by decide +kernel
theorem dX7_pass_4 : decode cX7_pass 4 = .ok (.istore_n 2, 1) := by decide +kernel
theorem dX7_pass_5 : decode cX7_pass 5 = .ok (.aload_n 0, 1) := by decide +kernel
theorem dX7_pass_6 : decode cX7_pass 6 = .ok (.aload_n 0, 1) := by decide +kernel
theorem dX7_pass_7 : decode cX7_pass 7 = .ok (.iload_n 1, 1) := by decide +kernel
theorem dX7_pass_8 : decode cX7_pass 8 = .ok (.iload_n 2, 1) := by decide +kernel
theorem dX7_pass_9 : decode cX7_pass 9 = .ok (.aload_n 0, 1) := by decide +kernel
theorem dX7_pass_10 : decode cX7_pass 10 = .ok (.invokevirtual 93, 3) := by decide +kernel
theorem dX7_pass_13 : decode cX7_pass 13 = .ok (.invokevirtual 97, 3) := by decide +kernel
theorem dX7_pass_16 : decode cX7_pass 16 = .ok (.putfield 90, 3) := by decide +kernel
theorem dX7_pass_19 : decode cX7_pass 19 = .ok (.aload_n 0, 1) := by decide +kernel
theorem dX7_pass_20 : decode cX7_pass 20 = .ok (.iconst 0, 1) := by decide +kernel
theorem dX7_pass_21 : decode cX7_pass 21 = .ok (.putfield 76, 3) := by decide +kernel
theorem dX7_pass_24 : decode cX7_pass 24 = .ok (.aload_n 0, 1) := by decide +kernel
theorem dX7_pass_25 : decode cX7_pass 25 = .ok (.dup, 1) := by decide +kernel
theorem dX7_pass_26 : decode cX7_pass 26 = .ok (.getfield 46, 3) := by decide +kernel
theorem dX7_pass_29 : decode cX7_pass 29 = .ok (.iconst 1, 1) := by decide +kernel
theorem dX7_pass_30 : decode cX7_pass 30 = .ok (.iadd, 1) := by decide +kernel
theorem dX7_pass_31 : decode cX7_pass 31 = .ok (.putfield 46, 3) := by decide +kernel
theorem dX7_pass_34 : decode cX7_pass 34 = .ok (.aload_n 0, 1) := by decide +kernel
theorem dX7_pass_35 : decode cX7_pass 35 = .ok (.getfield 90, 3) := by decide +kernel
theorem dX7_pass_38 : decode cX7_pass 38 = .ok (.iload_n 2, 1) := by decide +kernel
theorem dX7_pass_39 : decode cX7_pass 39 = .ok (.isub, 1) := by decide +kernel
theorem dX7_pass_40 : decode cX7_pass 40 = .ok (.ireturn, 1) := by decide +kernel
theorem dX7_drawWeather_0 : decode cX7_drawWeather 0 = .ok (.aload_n 0, 1) := by decide +kernel
theorem dX7_drawWeather_1 : decode cX7_drawWeather 1 = .ok (.aload_n 0, 1) := by decide +kernel
theorem dX7_drawWeather_2 : decode cX7_drawWeather 2 = .ok (.getfield 27, 3) := by decide +kernel
theorem dX7_drawWeather_5 : decode cX7_drawWeather 5 = .ok (.i2l, 1) := by decide +kernel
theorem dX7_drawWeather_6 : decode cX7_drawWeather 6 = .ok (.ldc2_w 100, 3) := by decide +kernel
theorem dX7_drawWeather_9 : decode cX7_drawWeather 9 = .ok (.lmul, 1) := by decide +kernel
theorem dX7_drawWeather_10 : decode cX7_drawWeather 10 = .ok (.ldc2_w 102, 3) := by decide +kernel
theorem dX7_drawWeather_13 : decode cX7_drawWeather 13 = .ok (.ladd, 1) := by decide +kernel
theorem dX7_drawWeather_14 : decode cX7_drawWeather 14 = .ok (.ldc2_w 104, 3) := by decide +kernel
theorem dX7_drawWeather_17 : decode cX7_drawWeather 17 = .ok (.land, 1) := by decide +kernel
theorem dX7_drawWeather_18 : decode cX7_drawWeather 18 = .ok (.l2i, 1) := by decide +kernel
theorem dX7_drawWeather_19 : decode cX7_drawWeather 19 = .ok (.putfield 27, 3) := by decide +kernel
theorem dX7_drawWeather_22 : decode cX7_drawWeather 22 = .ok (.aload_n 0, 1) := by decide +kernel
theorem dX7_drawWeather_23 : decode cX7_drawWeather 23 = .ok (.getfield 27, 3) := by decide +kernel
theorem dX7_drawWeather_26 : decode cX7_drawWeather 26 = .ok (.ldc 106, 2) := by decide +kernel
theorem dX7_drawWeather_28 : decode cX7_drawWeather 28 = .ok (.idiv, 1) := by decide +kernel
theorem dX7_drawWeather_29 : decode cX7_drawWeather 29 = .ok (.bipush 10, 2) := by decide +kernel
theorem dX7_drawWeather_31 : decode cX7_drawWeather 31 = .ok (.irem, 1) := by decide +kernel
theorem dX7_drawWeather_32 : decode cX7_drawWeather 32 = .ok (.istore_n 1, 1) := by decide +kernel
theorem dX7_drawWeather_33 : decode cX7_drawWeather 33 = .ok (.iload_n 1, 1) := by decide +kernel
theorem dX7_drawWeather_34 : decode cX7_drawWeather 34 = .ok (.aload_n 0, 1) := by decide +kernel
theorem dX7_drawWeather_35 : decode cX7_drawWeather 35 = .ok (.getfield 18, 3) := by decide +kernel
theorem dX7_drawWeather_38 : decode cX7_drawWeather 38 = .ok (.if_icmp .ge 5, 3) := by decide +kernel
theorem dX7_drawWeather_41 : decode cX7_drawWeather 41 = .ok (.iconst 1, 1) := by decide +kernel
theorem dX7_drawWeather_42 : decode cX7_drawWeather 42 = .ok (.ireturn, 1) := by decide +kernel
theorem dX7_drawWeather_43 : decode cX7_drawWeather 43 = .ok (.iload_n 1, 1) := by decide +kernel
theorem dX7_drawWeather_44 : decode cX7_drawWeather 44 = .ok (.aload_n 0, 1) := by decide +kernel
theorem dX7_drawWeather_45 : decode cX7_drawWeather 45 = .ok (.getfield 18, 3) := by decide +kernel
theorem dX7_drawWeather_48 : decode cX7_drawWeather 48 = .ok (.aload_n 0, 1) := by decide +kernel
theorem dX7_drawWeather_49 : decode cX7_drawWeather 49 = .ok (.getfield 21, 3) := by decide +kernel
theorem dX7_drawWeather_52 : decode cX7_drawWeather 52 = .ok (.iadd, 1) := by decide +kernel
theorem dX7_drawWeather_53 : decode cX7_drawWeather 53 = .ok (.if_icmp .ge 7, 3) := by decide +kernel
theorem dX7_drawWeather_56 : decode cX7_drawWeather 56 = .ok (.iconst 2, 1) := by decide +kernel
theorem dX7_drawWeather_57 : decode cX7_drawWeather 57 = .ok (.goto 4, 3) := by decide +kernel
theorem dX7_drawWeather_60 : decode cX7_drawWeather 60 = .ok (.iconst 0, 1) := by decide +kernel
theorem dX7_drawWeather_61 : decode cX7_drawWeather 61 = .ok (.ireturn, 1) := by decide +kernel
theorem dX7_remember_0 : decode cX7_remember 0 = .ok (.aload_n 0, 1) := by decide +kernel
theorem dX7_remember_1 : decode cX7_remember 1 = .ok (.getfield 107, 3) := by decide +kernel
theorem dX7_remember_4 : decode cX7_remember 4 = .ok (.bipush 8, 2) := by decide +kernel
theorem dX7_remember_6 : decode cX7_remember 6 = .ok (.if_icmp .lt 25, 3) := by decide +kernel
theorem dX7_remember_9 : decode cX7_remember 9 = .ok (.aload_n 0, 1) := by decide +kernel
theorem dX7_remember_10 : decode cX7_remember 10 = .ok (.getfield 43, 3) := by decide +kernel
theorem dX7_remember_13 : decode cX7_remember 13 = .ok (.bipush 6, 2) := by decide +kernel
theorem dX7_remember_15 : decode cX7_remember 15 = .ok (.aload_n 0, 1) := by decide +kernel
theorem dX7_remember_16 : decode cX7_remember 16 = .ok (.getfield 43, 3) := by decide +kernel
theorem dX7_remember_19 : decode cX7_remember 19 = .ok (.iconst 0, 1) := by decide +kernel
theorem dX7_remember_20 : decode cX7_remember 20 = .ok (.bipush 42, 2) := by decide +kernel
theorem dX7_remember_22 : decode cX7_remember 22 = .ok (.invokestatic 110, 3) := by decide +kernel
theorem dX7_remember_25 : decode cX7_remember 25 = .ok (.aload_n 0, 1) := by decide +kernel
theorem dX7_remember_26 : decode cX7_remember 26 = .ok (.bipush 7, 2) := by decide +kernel
theorem dX7_remember_28 : decode cX7_remember 28 = .ok (.putfield 107, 3) := by decide +kernel
theorem dX7_remember_31 : decode cX7_remember 31 = .ok (.aload_n 0, 1) := by decide +kernel
theorem dX7_remember_32 : decode cX7_remember 32 = .ok (.getfield 107, 3) := by decide +kernel
theorem dX7_remember_35 : decode cX7_remember 35 = .ok (.bipush 6, 2) := by decide +kernel
theorem dX7_remember_37 : decode cX7_remember 37 = .ok (.imul, 1) := by decide +kernel
theorem dX7_remember_38 : decode cX7_remember 38 = .ok (.istore_n 1, 1) := by decide +kernel
theorem dX7_remember_39 : decode cX7_remember 39 = .ok (.aload_n 0, 1) := by decide +kernel
theorem dX7_remember_40 : decode cX7_remember 40 = .ok (.getfield 43, 3) := by decide +kernel
theorem dX7_remember_43 : decode cX7_remember 43 = .ok (.iload_n 1, 1) := by decide +kernel
theorem dX7_remember_44 : decode cX7_remember 44 = .ok (.aload_n 0, 1) := by decide +kernel
theorem dX7_remember_45 : decode cX7_remember 45 = .ok (.getfield 46, 3) := by decide +kernel
theorem dX7_remember_48 : decode cX7_remember 48 = .ok (.iastore, 1) := by decide +kernel
theorem dX7_remember_49 : decode cX7_remember 49 = .ok (.aload_n 0, 1) := by decide +kernel
theorem dX7_remember_50 : decode cX7_remember 50 = .ok (.getfield 43, 3) := by decide +kernel
theorem dX7_remember_53 : decode cX7_remember 53 = .ok (.iload_n 1, 1) := by decide +kernel
theorem dX7_remember_54 : decode cX7_remember 54 = .ok (.iconst 1, 1) := by decide +kernel
theorem dX7_remember_55 : decode cX7_remember 55 = .ok (.iadd, 1) := by decide +kernel
theorem dX7_remember_56 : decode cX7_remember 56 = .ok (.aload_n 0, 1) := by decide +kernel
theorem dX7_remember_57 : decode cX7_remember 57 = .ok (.getfield 90, 3) := by decide +kernel
theorem dX7_remember_60 : decode cX7_remember 60 = .ok (.iastore, 1) := by decide +kernel
theorem dX7_remember_61 : decode cX7_remember 61 = .ok (.aload_n 0, 1) := by decide +kernel
theorem dX7_remember_62 : decode cX7_remember 62 = .ok (.getfield 43, 3) := by decide +kernel
theorem dX7_remember_65 : decode cX7_remember 65 = .ok (.iload_n 1, 1) := by decide +kernel
theorem dX7_remember_66 : decode cX7_remember 66 = .ok (.iconst 2, 1) := by decide +kernel
theorem dX7_remember_67 : decode cX7_remember 67 = .ok (.iadd, 1) := by decide +kernel
theorem dX7_remember_68 : decode cX7_remember 68 = .ok (.aload_n 0, 1) := by decide +kernel
theorem dX7_remember_69 : decode cX7_remember 69 = .ok (.getfield 49, 3) := by decide +kernel
theorem dX7_remember_72 : decode cX7_remember 72 = .ok (.iastore, 1) := by decide +kernel
theorem dX7_remember_73 : decode cX7_remember 73 = .ok (.aload_n 0, 1) := by decide +kernel
theorem dX7_remember_74 : decode cX7_remember 74 = .ok (.getfield 43, 3) := by decide +kernel
theorem dX7_remember_77 : decode cX7_remember 77 = .ok (.iload_n 1, 1) := by decide +kernel
theorem dX7_remember_78 : decode cX7_remember 78 = .ok (.iconst 3, 1) := by decide +kernel
theorem dX7_remember_79 : decode cX7_remember 79 = .ok (.iadd, 1) := by decide +kernel
theorem dX7_remember_80 : decode cX7_remember 80 = .ok (.aload_n 0, 1) := by decide +kernel
theorem dX7_remember_81 : decode cX7_remember 81 = .ok (.getfield 76, 3) := by decide +kernel
theorem dX7_remember_84 : decode cX7_remember 84 = .ok (.iastore, 1) := by decide +kernel
theorem dX7_remember_85 : decode cX7_remember 85 = .ok (.aload_n 0, 1) := by decide +kernel
theorem dX7_remember_86 : decode cX7_remember 86 = .ok (.getfield 43, 3) := by decide +kernel
theorem dX7_remember_89 : decode cX7_remember 89 = .ok (.iload_n 1, 1) := by decide +kernel
theorem dX7_remember_90 : decode cX7_remember 90 = .ok (.iconst 4, 1) := by decide +kernel
theorem dX7_remember_91 : decode cX7_remember 91 = .ok (.iadd, 1) := by decide +kernel
theorem dX7_remember_92 : decode cX7_remember 92 = .ok (.aload_n 0, 1) := by decide +kernel
theorem dX7_remember_93 : decode cX7_remember 93 = .ok (.getfield 87, 3) := by decide +kernel
theorem dX7_remember_96 : decode cX7_remember 96 = .ok (.iastore, 1) := by decide +kernel
theorem dX7_remember_97 : decode cX7_remember 97 = .ok (.aload_n 0, 1) := by decide +kernel
theorem dX7_remember_98 : decode cX7_remember 98 = .ok (.getfield 43, 3) := by decide +kernel
theorem dX7_remember_101 : decode cX7_remember 101 = .ok (.iload_n 1, 1) := by decide +kernel
theorem dX7_remember_102 : decode cX7_remember 102 = .ok (.iconst 5, 1) := by decide +kernel
theorem dX7_remember_103 : decode cX7_remember 103 = .ok (.iadd, 1) := by decide +kernel
theorem dX7_remember_104 : decode cX7_remember 104 = .ok (.aload_n 0, 1) := by decide +kernel
theorem dX7_remember_105 : decode cX7_remember 105 = .ok (.getfield 27, 3) := by decide +kernel
theorem dX7_remember_108 : decode cX7_remember 108 = .ok (.iastore, 1) := by decide +kernel
theorem dX7_remember_109 : decode cX7_remember 109 = .ok (.aload_n 0, 1) := by decide +kernel
theorem dX7_remember_110 : decode cX7_remember 110 = .ok (.dup, 1) := by decide +kernel
theorem dX7_remember_111 : decode cX7_remember 111 = .ok (.getfield 107, 3) := by decide +kernel
theorem dX7_remember_114 : decode cX7_remember 114 = .ok (.iconst 1, 1) := by decide +kernel
theorem dX7_remember_115 : decode cX7_remember 115 = .ok (.iadd, 1) := by decide +kernel
theorem dX7_remember_116 : decode cX7_remember 116 = .ok (.putfield 107, 3) := by decide +kernel
theorem dX7_remember_119 : decode cX7_remember 119 = .ok (.return_, 1) := by decide +kernel
theorem dX7_recall_0 : decode cX7_recall 0 = .ok (.aload_n 0, 1) := by decide +kernel
theorem dX7_recall_1 : decode cX7_recall 1 = .ok (.getfield 107, 3) := by decide +kernel
theorem dX7_recall_4 : decode cX7_recall 4 = .ok (.ifCond .gt 4, 3) := by decide +kernel
theorem dX7_recall_7 : decode cX7_recall 7 = .ok (.return_, 1) := by decide +kernel
theorem dX7_recall_8 : decode cX7_recall 8 = .ok (.aload_n 0, 1) := by decide +kernel
theorem dX7_recall_9 : decode cX7_recall 9 = .ok (.dup, 1) := by decide +kernel
theorem dX7_recall_10 : decode cX7_recall 10 = .ok (.getfield 107, 3) := by decide +kernel
theorem dX7_recall_13 : decode cX7_recall 13 = .ok (.iconst 1, 1) := by decide +kernel
theorem dX7_recall_14 : decode cX7_recall 14 = .ok (.isub, 1) := by decide +kernel
theorem dX7_recall_15 : decode cX7_recall 15 = .ok (.putfield 107, 3) := by decide +kernel
theorem dX7_recall_18 : decode cX7_recall 18 = .ok (.aload_n 0, 1) := by decide +kernel
theorem dX7_recall_19 : decode cX7_recall 19 = .ok (.getfield 107, 3) := by decide +kernel
theorem dX7_recall_22 : decode cX7_recall 22 = .ok (.bipush 6, 2) := by decide +kernel
theorem dX7_recall_24 : decode cX7_recall 24 = .ok (.imul, 1) := by decide +kernel
theorem dX7_recall_25 : decode cX7_recall 25 = .ok (.istore_n 1, 1) := by decide +kernel
theorem dX7_recall_26 : decode cX7_recall 26 = .ok (.aload_n 0, 1) := by decide +kernel
theorem dX7_recall_27 : decode cX7_recall 27 = .ok (.aload_n 0, 1) := by decide +kernel
theorem dX7_recall_28 : decode cX7_recall 28 = .ok (.getfield 43, 3) := by decide +kernel
theorem dX7_recall_31 : decode cX7_recall 31 = .ok (.iload_n 1, 1) := by decide +kernel
theorem dX7_recall_32 : decode cX7_recall 32 = .ok (.iaload, 1) := by decide +kernel
theorem dX7_recall_33 : decode cX7_recall 33 = .ok (.putfield 46, 3) := by decide +kernel
theorem dX7_recall_36 : decode cX7_recall 36 = .ok (.aload_n 0, 1) := by decide +kernel
theorem dX7_recall_37 : decode cX7_recall 37 = .ok (.aload_n 0, 1) := by decide +kernel
theorem dX7_recall_38 : decode cX7_recall 38 = .ok (.getfield 43, 3) := by decide +kernel
theorem dX7_recall_41 : decode cX7_recall 41 = .ok (.iload_n 1, 1) := by decide +kernel
theorem dX7_recall_42 : decode cX7_recall 42 = .ok (.iconst 1, 1) := by decide +kernel
theorem dX7_recall_43 : decode cX7_recall 43 = .ok (.iadd, 1) := by decide +kernel
theorem dX7_recall_44 : decode cX7_recall 44 = .ok (.iaload, 1) := by decide +kernel
theorem dX7_recall_45 : decode cX7_recall 45 = .ok (.putfield 90, 3) := by decide +kernel
theorem dX7_recall_48 : decode cX7_recall 48 = .ok (.aload_n 0, 1) := by decide +kernel
theorem dX7_recall_49 : decode cX7_recall 49 = .ok (.aload_n 0, 1) := by decide +kernel
theorem dX7_recall_50 : decode cX7_recall 50 = .ok (.getfield 43, 3) := by decide +kernel
theorem dX7_recall_53 : decode cX7_recall 53 = .ok (.iload_n 1, 1) := by decide +kernel
theorem dX7_recall_54 : decode cX7_recall 54 = .ok (.iconst 2, 1) := by decide +kernel
theorem dX7_recall_55 : decode cX7_recall 55 = .ok (.iadd, 1) := by decide +kernel
theorem dX7_recall_56 : decode cX7_recall 56 = .ok (.iaload, 1) := by decide +kernel
theorem dX7_recall_57 : decode cX7_recall 57 = .ok (.putfield 49, 3) := by decide +kernel
theorem dX7_recall_60 : decode cX7_recall 60 = .ok (.aload_n 0, 1) := by decide +kernel
theorem dX7_recall_61 : decode cX7_recall 61 = .ok (.aload_n 0, 1) := by decide +kernel
theorem dX7_recall_62 : decode cX7_recall 62 = .ok (.getfield 43, 3) := by decide +kernel
theorem dX7_recall_65 : decode cX7_recall 65 = .ok (.iload_n 1, 1) := by decide +kernel
theorem dX7_recall_66 : decode cX7_recall 66 = .ok (.iconst 3, 1) := by decide +kernel
theorem dX7_recall_67 : decode cX7_recall 67 = .ok (.iadd, 1) := by decide +kernel
theorem dX7_recall_68 : decode cX7_recall 68 = .ok (.iaload, 1) := by decide +kernel
theorem dX7_recall_69 : decode cX7_recall 69 = .ok (.putfield 76, 3) := by decide +kernel
theorem dX7_recall_72 : decode cX7_recall 72 = .ok (.aload_n 0, 1) := by decide +kernel
theorem dX7_recall_73 : decode cX7_recall 73 = .ok (.aload_n 0, 1) := by decide +kernel
theorem dX7_recall_74 : decode cX7_recall 74 = .ok (.getfield 43, 3) := by decide +kernel
theorem dX7_recall_77 : decode cX7_recall 77 = .ok (.iload_n 1, 1) := by decide +kernel
theorem dX7_recall_78 : decode cX7_recall 78 = .ok (.iconst 4, 1) := by decide +kernel
theorem dX7_recall_79 : decode cX7_recall 79 = .ok (.iadd, 1) := by decide +kernel
theorem dX7_recall_80 : decode cX7_recall 80 = .ok (.iaload, 1) := by decide +kernel
theorem dX7_recall_81 : decode cX7_recall 81 = .ok (.putfield 87, 3) := by decide +kernel
theorem dX7_recall_84 : decode cX7_recall 84 = .ok (.aload_n 0, 1) := by decide +kernel
theorem dX7_recall_85 : decode cX7_recall 85 = .ok (.aload_n 0, 1) := by decide +kernel
theorem dX7_recall_86 : decode cX7_recall 86 = .ok (.getfield 43, 3) := by decide +kernel
theorem dX7_recall_89 : decode cX7_recall 89 = .ok (.iload_n 1, 1) := by decide +kernel
theorem dX7_recall_90 : decode cX7_recall 90 = .ok (.iconst 5, 1) := by decide +kernel
theorem dX7_recall_91 : decode cX7_recall 91 = .ok (.iadd, 1) := by decide +kernel
theorem dX7_recall_92 : decode cX7_recall 92 = .ok (.iaload, 1) := by decide +kernel
theorem dX7_recall_93 : decode cX7_recall 93 = .ok (.putfield 27, 3) := by decide +kernel
theorem dX7_recall_96 : decode cX7_recall 96 = .ok (.return_, 1) := by decide +kernel
theorem dX7_begin_0 : decode cX7_begin 0 = .ok (.aload_n 0, 1) := by decide +kernel
theorem dX7_begin_1 : decode cX7_begin 1 = .ok (.aload_n 1, 1) := by decide +kernel
theorem dX7_begin_2 : decode cX7_begin 2 = .ok (.getfield 116, 3) := by decide +kernel
theorem dX7_begin_5 : decode cX7_begin 5 = .ok (.putfield 9, 3) := by decide +kernel
theorem dX7_begin_8 : decode cX7_begin 8 = .ok (.aload_n 0, 1) := by decide +kernel
theorem dX7_begin_9 : decode cX7_begin 9 = .ok (.aload_n 1, 1) := by decide +kernel
theorem dX7_begin_10 : decode cX7_begin 10 = .ok (.getfield 119, 3) := by decide +kernel
theorem dX7_begin_13 : decode cX7_begin 13 = .ok (.putfield 15, 3) := by decide +kernel
theorem dX7_begin_16 : decode cX7_begin 16 = .ok (.aload_n 0, 1) := by decide +kernel
theorem dX7_begin_17 : decode cX7_begin 17 = .ok (.iconst 0, 1) := by decide +kernel
theorem dX7_begin_18 : decode cX7_begin 18 = .ok (.putfield 46, 3) := by decide +kernel
theorem dX7_begin_21 : decode cX7_begin 21 = .ok (.aload_n 0, 1) := by decide +kernel
theorem dX7_begin_22 : decode cX7_begin 22 = .ok (.iconst 0, 1) := by decide +kernel
theorem dX7_begin_23 : decode cX7_begin 23 = .ok (.putfield 90, 3) := by decide +kernel
theorem dX7_begin_26 : decode cX7_begin 26 = .ok (.aload_n 0, 1) := by decide +kernel
theorem dX7_begin_27 : decode cX7_begin 27 = .ok (.iconst 0, 1) := by decide +kernel
theorem dX7_begin_28 : decode cX7_begin 28 = .ok (.putfield 49, 3) := by decide +kernel
theorem dX7_begin_31 : decode cX7_begin 31 = .ok (.aload_n 0, 1) := by decide +kernel
theorem dX7_begin_32 : decode cX7_begin 32 = .ok (.iconst 0, 1) := by decide +kernel
theorem dX7_begin_33 : decode cX7_begin 33 = .ok (.putfield 76, 3) := by decide +kernel
theorem dX7_begin_36 : decode cX7_begin 36 = .ok (.aload_n 0, 1) := by decide +kernel
theorem dX7_begin_37 : decode cX7_begin 37 = .ok (.iconst 0, 1) := by decide +kernel
theorem dX7_begin_38 : decode cX7_begin 38 = .ok (.putfield 87, 3) := by decide +kernel
theorem dX7_begin_41 : decode cX7_begin 41 = .ok (.aload_n 0, 1) := by decide +kernel
theorem dX7_begin_42 : decode cX7_begin 42 = .ok (.iconst 0, 1) := by decide +kernel
theorem dX7_begin_43 : decode cX7_begin 43 = .ok (.putfield 107, 3) := by decide +kernel
theorem dX7_begin_46 : decode cX7_begin 46 = .ok (.aload_n 0, 1) := by decide +kernel
theorem dX7_begin_47 : decode cX7_begin 47 = .ok (.iconst 0, 1) := by decide +kernel
theorem dX7_begin_48 : decode cX7_begin 48 = .ok (.putfield 52, 3) := by decide +kernel
theorem dX7_begin_51 : decode cX7_begin 51 = .ok (.aload_n 0, 1) := by decide +kernel
theorem dX7_begin_52 : decode cX7_begin 52 = .ok (.iconst 0, 1) := by decide +kernel
theorem dX7_begin_53 : decode cX7_begin 53 = .ok (.putfield 59, 3) := by decide +kernel
theorem dX7_begin_56 : decode cX7_begin 56 = .ok (.iconst 0, 1) := by decide +kernel
theorem dX7_begin_57 : decode cX7_begin 57 = .ok (.istore_n 2, 1) := by decide +kernel
theorem dX7_begin_58 : decode cX7_begin 58 = .ok (.iload_n 2, 1) := by decide +kernel
theorem dX7_begin_59 : decode cX7_begin 59 = .ok (.aload_n 1, 1) := by decide +kernel
theorem dX7_begin_60 : decode cX7_begin 60 = .ok (.getfield 120, 3) := by decide +kernel
theorem dX7_begin_63 : decode cX7_begin 63 = .ok (.if_icmp .ge 31, 3) := by decide +kernel
theorem dX7_begin_66 : decode cX7_begin 66 = .ok (.aload_n 0, 1) := by decide +kernel
theorem dX7_begin_67 : decode cX7_begin 67 = .ok (.aload_n 1, 1) := by decide +kernel
theorem dX7_begin_68 : decode cX7_begin 68 = .ok (.getfield 121, 3) := by decide +kernel
theorem dX7_begin_71 : decode cX7_begin 71 = .ok (.iload_n 2, 1) := by decide +kernel
theorem dX7_begin_72 : decode cX7_begin 72 = .ok (.iaload, 1) := by decide +kernel
theorem dX7_begin_73 : decode cX7_begin 73 = .ok (.aload_n 1, 1) := by decide +kernel
theorem dX7_begin_74 : decode cX7_begin 74 = .ok (.getfield 124, 3) := by decide +kernel
theorem dX7_begin_77 : decode cX7_begin 77 = .ok (.iload_n 2, 1) := by decide +kernel
theorem dX7_begin_78 : decode cX7_begin 78 = .ok (.iaload, 1) := by decide +kernel
theorem dX7_begin_79 : decode cX7_begin 79 = .ok (.aload_n 1, 1) := by decide +kernel
theorem dX7_begin_80 : decode cX7_begin 80 = .ok (.getfield 127, 3) := by decide +kernel
theorem dX7_begin_83 : decode cX7_begin 83 = .ok (.iload_n 2, 1) := by decide +kernel
theorem dX7_begin_84 : decode cX7_begin 84 = .ok (.iaload, 1) := by decide +kernel
theorem dX7_begin_85 : decode cX7_begin 85 = .ok (.invokevirtual 130, 3) := by decide +kernel
theorem dX7_begin_88 : decode cX7_begin 88 = .ok (.iinc 2 1, 3) := by decide +kernel
theorem dX7_begin_91 : decode cX7_begin 91 = .ok (.goto (-33), 3) := by decide +kernel
theorem dX7_begin_94 : decode cX7_begin 94 = .ok (.iconst 0, 1) := by decide +kernel
theorem dX7_begin_95 : decode cX7_begin 95 = .ok (.istore_n 2, 1) := by decide +kernel
theorem dX7_begin_96 : decode cX7_begin 96 = .ok (.iload_n 2, 1) := by decide +kernel
theorem dX7_begin_97 : decode cX7_begin 97 = .ok (.aload_n 1, 1) := by decide +kernel
theorem dX7_begin_98 : decode cX7_begin 98 = .ok (.getfield 134, 3) := by decide +kernel
theorem dX7_begin_101 : decode cX7_begin 101 = .ok (.if_icmp .ge 25, 3) := by decide +kernel
theorem dX7_begin_104 : decode cX7_begin 104 = .ok (.aload_n 0, 1) := by decide +kernel
theorem dX7_begin_105 : decode cX7_begin 105 = .ok (.aload_n 1, 1) := by decide +kernel
theorem dX7_begin_106 : decode cX7_begin 106 = .ok (.getfield 135, 3) := by decide +kernel
theorem dX7_begin_109 : decode cX7_begin 109 = .ok (.iload_n 2, 1) := by decide +kernel
theorem dX7_begin_110 : decode cX7_begin 110 = .ok (.iaload, 1) := by decide +kernel
theorem dX7_begin_111 : decode cX7_begin 111 = .ok (.aload_n 1, 1) := by decide +kernel
theorem dX7_begin_112 : decode cX7_begin 112 = .ok (.getfield 136, 3) := by decide +kernel
theorem dX7_begin_115 : decode cX7_begin 115 = .ok (.iload_n 2, 1) := by decide +kernel
theorem dX7_begin_116 : decode cX7_begin 116 = .ok (.iaload, 1) := by decide +kernel
theorem dX7_begin_117 : decode cX7_begin 117 = .ok (.invokevirtual 137, 3) := by decide +kernel
theorem dX7_begin_120 : decode cX7_begin 120 = .ok (.iinc 2 1, 3) := by decide +kernel
theorem dX7_begin_123 : decode cX7_begin 123 = .ok (.goto (-27), 3) := by decide +kernel
theorem dX7_begin_126 : decode cX7_begin 126 = .ok (.return_, 1) := by decide +kernel
theorem dX7_becomes_0 : decode cX7_becomes 0 = .ok (.aload_n 0, 1) := by decide +kernel
theorem dX7_becomes_1 : decode cX7_becomes 1 = .ok (.aload_n 1, 1) := by decide +kernel
theorem dX7_becomes_2 : decode cX7_becomes 2 = .ok (.getfield 9, 3) := by decide +kernel
theorem dX7_becomes_5 : decode cX7_becomes 5 = .ok (.putfield 9, 3) := by decide +kernel
theorem dX7_becomes_8 : decode cX7_becomes 8 = .ok (.aload_n 0, 1) := by decide +kernel
theorem dX7_becomes_9 : decode cX7_becomes 9 = .ok (.aload_n 1, 1) := by decide +kernel
theorem dX7_becomes_10 : decode cX7_becomes 10 = .ok (.getfield 15, 3) := by decide +kernel
theorem dX7_becomes_13 : decode cX7_becomes 13 = .ok (.putfield 15, 3) := by decide +kernel
theorem dX7_becomes_16 : decode cX7_becomes 16 = .ok (.aload_n 0, 1) := by decide +kernel
theorem dX7_becomes_17 : decode cX7_becomes 17 = .ok (.aload_n 1, 1) := by decide +kernel
theorem dX7_becomes_18 : decode cX7_becomes 18 = .ok (.getfield 18, 3) := by decide +kernel
theorem dX7_becomes_21 : decode cX7_becomes 21 = .ok (.putfield 18, 3) := by decide +kernel
theorem dX7_becomes_24 : decode cX7_becomes 24 = .ok (.aload_n 0, 1) := by decide +kernel
theorem dX7_becomes_25 : decode cX7_becomes 25 = .ok (.aload_n 1, 1) := by decide +kernel
theorem dX7_becomes_26 : decode cX7_becomes 26 = .ok (.getfield 21, 3) := by decide +kernel
theorem dX7_becomes_29 : decode cX7_becomes 29 = .ok (.putfield 21, 3) := by decide +kernel
theorem dX7_becomes_32 : decode cX7_becomes 32 = .ok (.aload_n 0, 1) := by decide +kernel
theorem dX7_becomes_33 : decode cX7_becomes 33 = .ok (.aload_n 1, 1) := by decide +kernel
theorem dX7_becomes_34 : decode cX7_becomes 34 = .ok (.getfield 46, 3) := by decide +kernel
theorem dX7_becomes_37 : decode cX7_becomes 37 = .ok (.putfield 46, 3) := by decide +kernel
theorem dX7_becomes_40 : decode cX7_becomes 40 = .ok (.aload_n 0, 1) := by decide +kernel
theorem dX7_becomes_41 : decode cX7_becomes 41 = .ok (.aload_n 1, 1) := by decide +kernel
theorem dX7_becomes_42 : decode cX7_becomes 42 = .ok (.getfield 90, 3) := by decide +kernel
theorem dX7_becomes_45 : decode cX7_becomes 45 = .ok (.putfield 90, 3) := by decide +kernel
theorem dX7_becomes_48 : decode cX7_becomes 48 = .ok (.aload_n 0, 1) := by decide +kernel
theorem dX7_becomes_49 : decode cX7_becomes 49 = .ok (.aload_n 1, 1) := by decide +kernel
theorem dX7_becomes_50 : decode cX7_becomes 50 = .ok (.getfield 49, 3) := by decide +kernel
theorem dX7_becomes_53 : decode cX7_becomes 53 = .ok (.putfield 49, 3) := by decide +kernel
theorem dX7_becomes_56 : decode cX7_becomes 56 = .ok (.aload_n 0, 1) := by decide +kernel
theorem dX7_becomes_57 : decode cX7_becomes 57 = .ok (.aload_n 1, 1) := by decide +kernel
theorem dX7_becomes_58 : decode cX7_becomes 58 = .ok (.getfield 76, 3) := by decide +kernel
theorem dX7_becomes_61 : decode cX7_becomes 61 = .ok (.putfield 76, 3) := by decide +kernel
theorem dX7_becomes_64 : decode cX7_becomes 64 = .ok (.aload_n 0, 1) := by decide +kernel
theorem dX7_becomes_65 : decode cX7_becomes 65 = .ok (.aload_n 1, 1) := by decide +kernel
theorem dX7_becomes_66 : decode cX7_becomes 66 = .ok (.getfield 87, 3) := by decide +kernel
theorem dX7_becomes_69 : decode cX7_becomes 69 = .ok (.putfield 87, 3) := by decide +kernel
theorem dX7_becomes_72 : decode cX7_becomes 72 = .ok (.aload_n 0, 1) := by decide +kernel
theorem dX7_becomes_73 : decode cX7_becomes 73 = .ok (.aload_n 1, 1) := by decide +kernel
theorem dX7_becomes_74 : decode cX7_becomes 74 = .ok (.getfield 24, 3) := by decide +kernel
theorem dX7_becomes_77 : decode cX7_becomes 77 = .ok (.putfield 24, 3) := by decide +kernel
theorem dX7_becomes_80 : decode cX7_becomes 80 = .ok (.aload_n 0, 1) := by decide +kernel
theorem dX7_becomes_81 : decode cX7_becomes 81 = .ok (.aload_n 1, 1) := by decide +kernel
theorem dX7_becomes_82 : decode cX7_becomes 82 = .ok (.getfield 27, 3) := by decide +kernel
theorem dX7_becomes_85 : decode cX7_becomes 85 = .ok (.putfield 27, 3) := by decide +kernel
theorem dX7_becomes_88 : decode cX7_becomes 88 = .ok (.aload_n 0, 1) := by decide +kernel
theorem dX7_becomes_89 : decode cX7_becomes 89 = .ok (.aload_n 1, 1) := by decide +kernel
theorem dX7_becomes_90 : decode cX7_becomes 90 = .ok (.getfield 52, 3) := by decide +kernel
theorem dX7_becomes_93 : decode cX7_becomes 93 = .ok (.putfield 52, 3) := by decide +kernel
theorem dX7_becomes_96 : decode cX7_becomes 96 = .ok (.aload_n 0, 1) := by decide +kernel
theorem dX7_becomes_97 : decode cX7_becomes 97 = .ok (.aload_n 1, 1) := by decide +kernel
theorem dX7_becomes_98 : decode cX7_becomes 98 = .ok (.getfield 59, 3) := by decide +kernel
theorem dX7_becomes_101 : decode cX7_becomes 101 = .ok (.putfield 59, 3) := by decide +kernel
theorem dX7_becomes_104 : decode cX7_becomes 104 = .ok (.aload_n 0, 1) := by decide +kernel
theorem dX7_becomes_105 : decode cX7_becomes 105 = .ok (.aload_n 1, 1) := by decide +kernel
theorem dX7_becomes_106 : decode cX7_becomes 106 = .ok (.getfield 107, 3) := by decide +kernel
theorem dX7_becomes_109 : decode cX7_becomes 109 = .ok (.putfield 107, 3) := by decide +kernel
theorem dX7_becomes_112 : decode cX7_becomes 112 = .ok (.iconst 0, 1) := by decide +kernel
theorem dX7_becomes_113 : decode cX7_becomes 113 = .ok (.istore_n 2, 1) := by decide +kernel
theorem dX7_becomes_114 : decode cX7_becomes 114 = .ok (.iload_n 2, 1) := by decide +kernel
theorem dX7_becomes_115 : decode cX7_becomes 115 = .ok (.iconst 4, 1) := by decide +kernel
theorem dX7_becomes_116 : decode cX7_becomes 116 = .ok (.if_icmp .ge 21, 3) := by decide +kernel
theorem dX7_becomes_119 : decode cX7_becomes 119 = .ok (.aload_n 0, 1) := by decide +kernel
theorem dX7_becomes_120 : decode cX7_becomes 120 = .ok (.getfield 32, 3) := by decide +kernel
theorem dX7_becomes_123 : decode cX7_becomes 123 = .ok (.iload_n 2, 1) := by decide +kernel
theorem dX7_becomes_124 : decode cX7_becomes 124 = .ok (.aload_n 1, 1) := by decide +kernel
theorem dX7_becomes_125 : decode cX7_becomes 125 = .ok (.getfield 32, 3) := by decide +kernel
theorem dX7_becomes_128 : decode cX7_becomes 128 = .ok (.iload_n 2, 1) := by decide +kernel
theorem dX7_becomes_129 : decode cX7_becomes 129 = .ok (.aaload, 1) := by decide +kernel
theorem dX7_becomes_130 : decode cX7_becomes 130 = .ok (.aastore, 1) := by decide +kernel
theorem dX7_becomes_131 : decode cX7_becomes 131 = .ok (.iinc 2 1, 3) := by decide +kernel
theorem dX7_becomes_134 : decode cX7_becomes 134 = .ok (.goto (-20), 3) := by decide +kernel
theorem dX7_becomes_137 : decode cX7_becomes 137 = .ok (.aload_n 1, 1) := by decide +kernel
theorem dX7_becomes_138 : decode cX7_becomes 138 = .ok (.getfield 36, 3) := by decide +kernel
theorem dX7_becomes_141 : decode cX7_becomes 141 = .ok (.iconst 0, 1) := by decide +kernel
theorem dX7_becomes_142 : decode cX7_becomes 142 = .ok (.aload_n 0, 1) := by decide +kernel
theorem dX7_becomes_143 : decode cX7_becomes 143 = .ok (.getfield 36, 3) := by decide +kernel
theorem dX7_becomes_146 : decode cX7_becomes 146 = .ok (.iconst 0, 1) := by decide +kernel
theorem dX7_becomes_147 : decode cX7_becomes 147 = .ok (.bipush 6, 2) := by decide +kernel
theorem dX7_becomes_149 : decode cX7_becomes 149 = .ok (.invokestatic 110, 3) := by decide +kernel
theorem dX7_becomes_152 : decode cX7_becomes 152 = .ok (.aload_n 1, 1) := by decide +kernel
theorem dX7_becomes_153 : decode cX7_becomes 153 = .ok (.getfield 40, 3) := by decide +kernel
theorem dX7_becomes_156 : decode cX7_becomes 156 = .ok (.iconst 0, 1) := by decide +kernel
theorem dX7_becomes_157 : decode cX7_becomes 157 = .ok (.aload_n 0, 1) := by decide +kernel
theorem dX7_becomes_158 : decode cX7_becomes 158 = .ok (.getfield 40, 3) := by decide +kernel
theorem dX7_becomes_161 : decode cX7_becomes 161 = .ok (.iconst 0, 1) := by decide +kernel
theorem dX7_becomes_162 : decode cX7_becomes 162 = .ok (.bipush 6, 2) := by decide +kernel
theorem dX7_becomes_164 : decode cX7_becomes 164 = .ok (.invokestatic 110, 3) := by decide +kernel
theorem dX7_becomes_167 : decode cX7_becomes 167 = .ok (.aload_n 1, 1) := by decide +kernel
theorem dX7_becomes_168 : decode cX7_becomes 168 = .ok (.getfield 43, 3) := by decide +kernel
theorem dX7_becomes_171 : decode cX7_becomes 171 = .ok (.iconst 0, 1) := by decide +kernel
theorem dX7_becomes_172 : decode cX7_becomes 172 = .ok (.aload_n 0, 1) := by decide +kernel
theorem dX7_becomes_173 : decode cX7_becomes 173 = .ok (.getfield 43, 3) := by decide +kernel
theorem dX7_becomes_176 : decode cX7_becomes 176 = .ok (.iconst 0, 1) := by decide +kernel
theorem dX7_becomes_177 : decode cX7_becomes 177 = .ok (.bipush 48, 2) := by decide +kernel
theorem dX7_becomes_179 : decode cX7_becomes 179 = .ok (.invokestatic 110, 3) := by decide +kernel
theorem dX7_becomes_182 : decode cX7_becomes 182 = .ok (.return_, 1) := by decide +kernel
theorem dX8_init_0 : decode cX8_init 0 = .ok (.aload_n 0, 1) := by decide +kernel
theorem dX8_init_1 : decode cX8_init 1 = .ok (.invokespecial 3, 3) := by decide +kernel
theorem dX8_init_4 : decode cX8_init 4 = .ok (.aload_n 0, 1) := by decide +kernel
theorem dX8_init_5 : decode cX8_init 5 = .ok (.bipush 60, 2) := by decide +kernel
theorem dX8_init_7 : decode cX8_init 7 = .ok (.newarray .char, 2) := by decide +kernel
theorem dX8_init_9 : decode cX8_init 9 = .ok (.putfield 9, 3) := by decide +kernel
theorem dX8_init_12 : decode cX8_init 12 = .ok (.aload_n 0, 1) := by decide +kernel
theorem dX8_init_13 : decode cX8_init 13 = .ok (.iconst 4, 1) := by decide +kernel
theorem dX8_init_14 : decode cX8_init 14 = .ok (.newarray .int, 2) := by decide +kernel
theorem dX8_init_16 : decode cX8_init 16 = .ok (.putfield 15, 3) := by decide +kernel
theorem dX8_init_19 : decode cX8_init 19 = .ok (.aload_n 0, 1) := by decide +kernel
theorem dX8_init_20 : decode cX8_init 20 = .ok (.iconst 4, 1) := by decide +kernel
theorem dX8_init_21 : decode cX8_init 21 = .ok (.newarray .int, 2) := by decide +kernel
theorem dX8_init_23 : decode cX8_init 23 = .ok (.putfield 19, 3) := by decide +kernel
theorem dX8_init_26 : decode cX8_init 26 = .ok (.aload_n 0, 1) := by decide +kernel
theorem dX8_init_27 : decode cX8_init 27 = .ok (.iconst 4, 1) := by decide +kernel
theorem dX8_init_28 : decode cX8_init 28 = .ok (.newarray .int, 2) := by decide +kernel
theorem dX8_init_30 : decode cX8_init 30 = .ok (.putfield 22, 3) := by decide +kernel
theorem dX8_init_33 : decode cX8_init 33 = .ok (.aload_n 0, 1) := by decide +kernel
theorem dX8_init_34 : decode cX8_init 34 = .ok (.bipush 6, 2) := by decide +kernel
theorem dX8_init_36 : decode cX8_init 36 = .ok (.newarray .int, 2) := by decide +kernel
theorem dX8_init_38 : decode cX8_init 38 = .ok (.putfield 25, 3) := by decide +kernel
theorem dX8_init_41 : decode cX8_init 41 = .ok (.aload_n 0, 1) := by decide +kernel
theorem dX8_init_42 : decode cX8_init 42 = .ok (.bipush 6, 2) := by decide +kernel
theorem dX8_init_44 : decode cX8_init 44 = .ok (.newarray .int, 2) := by decide +kernel
theorem dX8_init_46 : decode cX8_init 46 = .ok (.putfield 28, 3) := by decide +kernel
theorem dX8_init_49 : decode cX8_init 49 = .ok (.return_, 1) := by decide +kernel
theorem dX8_append_0 : decode cX8_append 0 = .ok (.aload_n 0, 1) := by decide +kernel
theorem dX8_append_1 : decode cX8_append 1 = .ok (.getfield 31, 3) := by decide +kernel
theorem dX8_append_4 : decode cX8_append 4 = .ok (.bipush 60, 2) := by decide +kernel
theorem dX8_append_6 : decode cX8_append 6 = .ok (.if_icmp .ge 23, 3) := by decide +kernel
theorem dX8_append_9 : decode cX8_append 9 = .ok (.aload_n 0, 1) := by decide +kernel
theorem dX8_append_10 : decode cX8_append 10 = .ok (.getfield 9, 3) := by decide +kernel
theorem dX8_append_13 : decode cX8_append 13 = .ok (.aload_n 0, 1) := by decide +kernel
theorem dX8_append_14 : decode cX8_append 14 = .ok (.getfield 31, 3) := by decide +kernel
theorem dX8_append_17 : decode cX8_append 17 = .ok (.iload_n 1, 1) := by decide +kernel
theorem dX8_append_18 : decode cX8_append 18 = .ok (.castore, 1) := by decide +kernel
theorem dX8_append_19 : decode cX8_append 19 = .ok (.aload_n 0, 1) := by decide +kernel
theorem dX8_append_20 : decode cX8_append 20 = .ok (.dup, 1) := by decide +kernel
theorem dX8_append_21 : decode cX8_append 21 = .ok (.getfield 31, 3) := by decide +kernel
theorem dX8_append_24 : decode cX8_append 24 = .ok (.iconst 1, 1) := by decide +kernel
theorem dX8_append_25 : decode cX8_append 25 = .ok (.iadd, 1) := by decide +kernel
theorem dX8_append_26 : decode cX8_append 26 = .ok (.putfield 31, 3) := by decide +kernel
theorem dX8_append_29 : decode cX8_append 29 = .ok (.return_, 1) := by decide +kernel
theorem dX8_read_0 : decode cX8_read 0 = .ok (.aload_n 0, 1) := by decide +kernel
theorem dX8_read_1 : decode cX8_read 1 = .ok (.iconst 0, 1) := by decide +kernel
theorem dX8_read_2 : decode cX8_read 2 = .ok (.putfield 35, 3) := by decide +kernel
theorem dX8_read_5 : decode cX8_read 5 = .ok (.aload_n 0, 1) := by decide +kernel
theorem dX8_read_6 : decode cX8_read 6 = .ok (.iconst 0, 1) := by decide +kernel
theorem dX8_read_7 : decode cX8_read 7 = .ok (.putfield 38, 3) := by decide +kernel
theorem dX8_read_10 : decode cX8_read 10 = .ok (.aload_n 0, 1) := by decide +kernel
theorem dX8_read_11 : decode cX8_read 11 = .ok (.iconst 0, 1) := by decide +kernel
theorem dX8_read_12 : decode cX8_read 12 = .ok (.putfield 41, 3) := by decide +kernel
theorem dX8_read_15 : decode cX8_read 15 = .ok (.aload_n 0, 1) := by decide +kernel
theorem dX8_read_16 : decode cX8_read 16 = .ok (.aload_n 0, 1) := by decide +kernel
theorem dX8_read_17 : decode cX8_read 17 = .ok (.sipush 200, 3) := by decide +kernel
theorem dX8_read_20 : decode cX8_read 20 = .ok (.invokevirtual 44, 3) := by decide +kernel
theorem dX8_read_23 : decode cX8_read 23 = .ok (.putfield 48, 3) := by decide +kernel
theorem dX8_read_26 : decode cX8_read 26 = .ok (.aload_n 0, 1) := by decide +kernel
theorem dX8_read_27 : decode cX8_read 27 = .ok (.getfield 48, 3) := by decide +kernel
theorem dX8_read_30 : decode cX8_read 30 = .ok (.ifCond .lt 12, 3) := by decide +kernel
theorem dX8_read_33 : decode cX8_read 33 = .ok (.aload_n 0, 1) := by decide +kernel
theorem dX8_read_34 : decode cX8_read 34 = .ok (.bipush 44, 2) := by decide +kernel
theorem dX8_read_36 : decode cX8_read 36 = .ok (.invokevirtual 51, 3) := by decide +kernel
theorem dX8_read_39 : decode cX8_read 39 = .ok (.ifCond .ne 5, 3) := by decide +kernel
theorem dX8_read_42 : decode cX8_read 42 = .ok (.iconst 0, 1) := by decide +kernel
theorem dX8_read_43 : decode cX8_read 43 = .ok (.ireturn, 1) := by decide +kernel
theorem dX8_read_44 : decode cX8_read 44 = .ok (.aload_n 0, 1) := by decide +kernel
theorem dX8_read_45 : decode cX8_read 45 = .ok (.aload_n 0, 1) := by decide +kernel
theorem dX8_read_46 : decode cX8_read 46 = .ok (.bipush 40, 2) := by decide +kernel
theorem dX8_read_48 : decode cX8_read 48 = .ok (.invokevirtual 44, 3) := by decide +kernel
theorem dX8_read_51 : decode cX8_read 51 = .ok (.putfield 55, 3) := by decide +kernel
theorem dX8_read_54 : decode cX8_read 54 = .ok (.aload_n 0, 1) := by decide +kernel
theorem dX8_read_55 : decode cX8_read 55 = .ok (.getfield 55, 3) := by decide +kernel
theorem dX8_read_58 : decode cX8_read 58 = .ok (.ifCond .lt 19, 3) := by decide +kernel
theorem dX8_read_61 : decode cX8_read 61 = .ok (.aload_n 0, 1) := by decide +kernel
theorem dX8_read_62 : decode cX8_read 62 = .ok (.bipush 59, 2) := by decide +kernel
theorem dX8_read_64 : decode cX8_read 64 = .ok (.invokevirtual 51, 3) := by decide +kernel
theorem dX8_read_67 : decode cX8_read 67 = .ok (.ifCond .eq 10, 3) := by decide +kernel
theorem dX8_read_70 : decode cX8_read 70 = .ok (.aload_n 0, 1) := by decide +kernel
theorem dX8_read_71 : decode cX8_read 71 = .ok (.invokevirtual 58, 3) := by decide +kernel
theorem dX8_read_74 : decode cX8_read 74 = .ok (.ifCond .ne 5, 3) := by decide +kernel
theorem dX8_read_77 : decode cX8_read 77 = .ok (.iconst 0, 1) := by decide +kernel
theorem dX8_read_78 : decode cX8_read 78 = .ok (.ireturn, 1) := by decide +kernel
theorem dX8_read_79 : decode cX8_read 79 = .ok (.aload_n 0, 1) := by decide +kernel
theorem dX8_read_80 : decode cX8_read 80 = .ok (.invokevirtual 62, 3) := by decide +kernel
theorem dX8_read_83 : decode cX8_read 83 = .ok (.ifCond .ne 5, 3) := by decide +kernel
theorem dX8_read_86 : decode cX8_read 86 = .ok (.iconst 1, 1) := by decide +kernel
theorem dX8_read_87 : decode cX8_read 87 = .ok (.ireturn, 1) := by decide +kernel
theorem dX8_read_88 : decode cX8_read 88 = .ok (.aload_n 0, 1) := by decide +kernel
theorem dX8_read_89 : decode cX8_read 89 = .ok (.bipush 59, 2) := by decide +kernel
theorem dX8_read_91 : decode cX8_read 91 = .ok (.invokevirtual 51, 3) := by decide +kernel
theorem dX8_read_94 : decode cX8_read 94 = .ok (.ifCond .eq 14, 3) := by decide +kernel
theorem dX8_read_97 : decode cX8_read 97 = .ok (.aload_n 0, 1) := by decide +kernel
theorem dX8_read_98 : decode cX8_read 98 = .ok (.invokevirtual 66, 3) := by decide +kernel
theorem dX8_read_101 : decode cX8_read 101 = .ok (.ifCond .eq 7, 3) := by decide +kernel
theorem dX8_read_104 : decode cX8_read 104 = .ok (.iconst 1, 1) := by decide +kernel
theorem dX8_read_105 : decode cX8_read 105 = .ok (.goto 4, 3) := by decide +kernel
theorem dX8_read_108 : decode cX8_read 108 = .ok (.iconst 0, 1) := by decide +kernel
theorem dX8_read_109 : decode cX8_read 109 = .ok (.ireturn, 1) := by decide +kernel
theorem dX8_readBuilders_0 : decode cX8_readBuilders 0 = .ok (.iconst 0, 1) := by decide +kernel
theorem dX8_readBuilders_1 : decode cX8_readBuilders 1 = .ok (.istore_n 1, 1) := by decide +kernel
theorem dX8_readBuilders_2 : decode cX8_readBuilders 2 = .ok (.iload_n 1, 1) := by decide +kernel
theorem dX8_readBuilders_3 : decode cX8_readBuilders 3 = .ok (.iconst 4, 1) := by decide +kernel
theorem dX8_readBuilders_4 : decode cX8_readBuilders 4 = .ok (.if_icmp .ge 43, 3) := by decide +kernel
theorem dX8_readBuilders_7 : decode cX8_readBuilders 7 = .ok (.iload_n 1, 1) := by decide +kernel
theorem dX8_readBuilders_8 : decode cX8_readBuilders 8 = .ok (.ifCond .le 24, 3) := by decide +kernel
theorem dX8_readBuilders_11 : decode cX8_readBuilders 11 = .ok (.aload_n 0, 1) := by decide +kernel
theorem dX8_readBuilders_12 : decode cX8_readBuilders 12 = .ok (.invokevirtual 62, 3) := by decide +kernel
theorem dX8_readBuilders_15 : decode cX8_readBuilders 15 = .ok (.bipush 44, 2) := by decide +kernel
theorem dX8_readBuilders_17 : decode cX8_readBuilders 17 = .ok (.if_icmp .eq 5, 3) := by decide +kernel
theorem dX8_readBuilders_20 : decode cX8_readBuilders 20 = .ok (.iconst 1, 1) := by decide +kernel
theorem dX8_readBuilders_21 : decode cX8_readBuilders 21 = .ok (.ireturn, 1) := by decide +kernel
theorem dX8_readBuilders_22 : decode cX8_readBuilders 22 = .ok (.aload_n 0, 1) := by decide +kernel
theorem dX8_readBuilders_23 : decode cX8_readBuilders 23 = .ok (.dup, 1) := by decide +kernel
theorem dX8_readBuilders_24 : decode cX8_readBuilders 24 = .ok (.getfield 35, 3) := by decide +kernel
theorem dX8_readBuilders_27 : decode cX8_readBuilders 27 = .ok (.iconst 1, 1) := by decide +kernel
theorem dX8_readBuilders_28 : decode cX8_readBuilders 28 = .ok (.iadd, 1) := by decide +kernel
theorem dX8_readBuilders_29 : decode cX8_readBuilders 29 = .ok (.putfield 35, 3) := by decide +kernel
theorem dX8_readBuilders_32 : decode cX8_readBuilders 32 = .ok (.aload_n 0, 1) := by decide +kernel
theorem dX8_readBuilders_33 : decode cX8_readBuilders 33 = .ok (.invokevirtual 69, 3) := by decide +kernel
theorem dX8_readBuilders_36 : decode cX8_readBuilders 36 = .ok (.ifCond .ne 5, 3) := by decide +kernel
theorem dX8_readBuilders_39 : decode cX8_readBuilders 39 = .ok (.iconst 0, 1) := by decide +kernel
theorem dX8_readBuilders_40 : decode cX8_readBuilders 40 = .ok (.ireturn, 1) := by decide +kernel
theorem dX8_readBuilders_41 : decode cX8_readBuilders 41 = .ok (.iinc 1 1, 3) := by decide +kernel
theorem dX8_readBuilders_44 : decode cX8_readBuilders 44 = .ok (.goto (-42), 3) := by decide +kernel
theorem dX8_readBuilders_47 : decode cX8_readBuilders 47 = .ok (.iconst 1, 1) := by decide +kernel
theorem dX8_readBuilders_48 : decode cX8_readBuilders 48 = .ok (.ireturn, 1) := by decide +kernel
theorem dX8_readBuilder_0 : decode cX8_readBuilder 0 = .ok (.aload_n 0, 1) := by decide +kernel
theorem dX8_readBuilder_1 : decode cX8_readBuilder 1 = .ok (.invokevirtual 62, 3) := by decide +kernel
theorem dX8_readBuilder_4 : decode cX8_readBuilder 4 = .ok (.invokestatic 72, 3) := by decide +kernel
theorem dX8_readBuilder_7 : decode cX8_readBuilder 7 = .ok (.istore_n 1, 1) := by decide +kernel
theorem dX8_readBuilder_8 : decode cX8_readBuilder 8 = .ok (.iload_n 1, 1) := by decide +kernel
theorem dX8_readBuilder_9 : decode cX8_readBuilder 9 = .ok (.ifCond .ge 12, 3) := by decide +kernel
theorem dX8_readBuilder_12 : decode cX8_readBuilder 12 = .ok (.aload_n 0, 1) := by decide +kernel
theorem dX8_readBuilder_13 : decode cX8_readBuilder 13 = .ok (.aload_n 0, 1) := by decide +kernel
theorem dX8_readBuilder_14 : decode cX8_readBuilder 14 = .ok (.getfield 35, 3) := by decide +kernel
theorem dX8_readBuilder_17 : decode cX8_readBuilder 17 = .ok (.invokevirtual 76, 3) := by decide +kernel
theorem dX8_readBuilder_20 : decode cX8_readBuilder 20 = .ok (.ireturn, 1) := by decide +kernel
theorem dX8_readBuilder_21 : decode cX8_readBuilder 21 = .ok (.aload_n 0, 1) := by decide +kernel
theorem dX8_readBuilder_22 : decode cX8_readBuilder 22 = .ok (.dup, 1) := by decide +kernel
theorem dX8_readBuilder_23 : decode cX8_readBuilder 23 = .ok (.getfield 35, 3) := by decide +kernel
theorem dX8_readBuilder_26 : decode cX8_readBuilder 26 = .ok (.iconst 1, 1) := by decide +kernel
theorem dX8_readBuilder_27 : decode cX8_readBuilder 27 = .ok (.iadd, 1) := by decide +kernel
theorem dX8_readBuilder_28 : decode cX8_readBuilder 28 = .ok (.putfield 35, 3) := by decide +kernel
theorem dX8_readBuilder_31 : decode cX8_readBuilder 31 = .ok (.aload_n 0, 1) := by decide +kernel
theorem dX8_readBuilder_32 : decode cX8_readBuilder 32 = .ok (.iconst 1, 1) := by decide +kernel
theorem dX8_readBuilder_33 : decode cX8_readBuilder 33 = .ok (.invokevirtual 80, 3) := by decide +kernel
theorem dX8_readBuilder_36 : decode cX8_readBuilder 36 = .ok (.istore_n 2, 1) := by decide +kernel
theorem dX8_readBuilder_37 : decode cX8_readBuilder 37 = .ok (.iload_n 2, 1) := by decide +kernel
theorem dX8_readBuilder_38 : decode cX8_readBuilder 38 = .ok (.ifCond .ge 5, 3) := by decide +kernel
theorem dX8_readBuilder_41 : decode cX8_readBuilder 41 = .ok (.iconst 0, 1) := by decide +kernel
theorem dX8_readBuilder_42 : decode cX8_readBuilder 42 = .ok (.ireturn, 1) := by decide +kernel
theorem dX8_readBuilder_43 : decode cX8_readBuilder 43 = .ok (.aload_n 0, 1) := by decide +kernel
theorem dX8_readBuilder_44 : decode cX8_readBuilder 44 = .ok (.iconst 0, 1) := by decide +kernel
theorem dX8_readBuilder_45 : decode cX8_readBuilder 45 = .ok (.invokevirtual 80, 3) := by decide +kernel
theorem dX8_readBuilder_48 : decode cX8_readBuilder 48 = .ok (.istore_n 3, 1) := by decide +kernel
theorem dX8_readBuilder_49 : decode cX8_readBuilder 49 = .ok (.iload_n 3, 1) := by decide +kernel
theorem dX8_readBuilder_50 : decode cX8_readBuilder 50 = .ok (.ifCond .lt 11, 3) := by decide +kernel
theorem dX8_readBuilder_53 : decode cX8_readBuilder 53 = .ok (.aload_n 0, 1) := by decide +kernel
theorem dX8_readBuilder_54 : decode cX8_readBuilder 54 = .ok (.getfield 38, 3) := by decide +kernel
theorem dX8_readBuilder_57 : decode cX8_readBuilder 57 = .ok (.iconst 4, 1) := by decide +kernel
theorem dX8_readBuilder_58 : decode cX8_readBuilder 58 = .ok (.if_icmp .lt 5, 3) := by decide +kernel
theorem dX8_readBuilder_61 : decode cX8_readBuilder 61 = .ok (.iconst 0, 1) := by decide +kernel
theorem dX8_readBuilder_62 : decode cX8_readBuilder 62 = .ok (.ireturn, 1) := by decide +kernel
theorem dX8_readBuilder_63 : decode cX8_readBuilder 63 = .ok (.aload_n 0, 1) := by decide +kernel
theorem dX8_readBuilder_64 : decode cX8_readBuilder 64 = .ok (.getfield 15, 3) := by decide +kernel
theorem dX8_readBuilder_67 : decode cX8_readBuilder 67 = .ok (.aload_n 0, 1) := by decide +kernel
theorem dX8_readBuilder_68 : decode cX8_readBuilder 68 = .ok (.getfield 38, 3) := by decide +kernel
theorem dX8_readBuilder_71 : decode cX8_readBuilder 71 = .ok (.iload_n 1, 1) := by decide +kernel
theorem dX8_readBuilder_72 : decode cX8_readBuilder 72 = .ok (.iastore, 1) := by decide +kernel
theorem dX8_readBuilder_73 : decode cX8_readBuilder 73 = .ok (.aload_n 0, 1) := by decide +kernel
theorem dX8_readBuilder_74 : decode cX8_readBuilder 74 = .ok (.getfield 19, 3) := by decide +kernel
theorem dX8_readBuilder_77 : decode cX8_readBuilder 77 = .ok (.aload_n 0, 1) := by decide +kernel
theorem dX8_readBuilder_78 : decode cX8_readBuilder 78 = .ok (.getfield 38, 3) := by decide +kernel
theorem dX8_readBuilder_81 : decode cX8_readBuilder 81 = .ok (.iload_n 2, 1) := by decide +kernel
theorem dX8_readBuilder_82 : decode cX8_readBuilder 82 = .ok (.iastore, 1) := by decide +kernel
theorem dX8_readBuilder_83 : decode cX8_readBuilder 83 = .ok (.aload_n 0, 1) := by decide +kernel
theorem dX8_readBuilder_84 : decode cX8_readBuilder 84 = .ok (.getfield 22, 3) := by decide +kernel
theorem dX8_readBuilder_87 : decode cX8_readBuilder 87 = .ok (.aload_n 0, 1) := by decide +kernel
theorem dX8_readBuilder_88 : decode cX8_readBuilder 88 = .ok (.getfield 38, 3) := by decide +kernel
theorem dX8_readBuilder_91 : decode cX8_readBuilder 91 = .ok (.iload_n 3, 1) := by decide +kernel
theorem dX8_readBuilder_92 : decode cX8_readBuilder 92 = .ok (.iastore, 1) := by decide +kernel
theorem dX8_readBuilder_93 : decode cX8_readBuilder 93 = .ok (.aload_n 0, 1) := by decide +kernel
theorem dX8_readBuilder_94 : decode cX8_readBuilder 94 = .ok (.dup, 1) := by decide +kernel
theorem dX8_readBuilder_95 : decode cX8_readBuilder 95 = .ok (.getfield 38, 3) := by decide +kernel
theorem dX8_readBuilder_98 : decode cX8_readBuilder 98 = .ok (.iconst 1, 1) := by decide +kernel
theorem dX8_readBuilder_99 : decode cX8_readBuilder 99 = .ok (.iadd, 1) := by decide +kernel
theorem dX8_readBuilder_100 : decode cX8_readBuilder 100 = .ok (.putfield 38, 3) := by decide +kernel
theorem dX8_readBuilder_103 : decode cX8_readBuilder 103 = .ok (.iconst 1, 1) := by decide +kernel
theorem dX8_readBuilder_104 : decode cX8_readBuilder 104 = .ok (.ireturn, 1) := by decide +kernel
theorem dX8_readHindrances_0 : decode cX8_readHindrances 0 = .ok (.iconst 0, 1) := by decide +kernel
theorem dX8_readHindrances_1 : decode cX8_readHindrances 1 = .ok (.istore_n 1, 1) := by decide +kernel
theorem dX8_readHindrances_2 : decode cX8_readHindrances 2 = .ok (.iload_n 1, 1) := by decide +kernel
theorem dX8_readHindrances_3 : decode cX8_readHindrances 3 = .ok (.bipush 6, 2) := by decide +kernel
theorem dX8_readHindrances_5 : decode cX8_readHindrances 5 = .ok (.if_icmp .ge 42, 3) := by decide +kernel
theorem dX8_readHindrances_8 : decode cX8_readHindrances 8 = .ok (.iload_n 1, 1) := by decide +kernel
theorem dX8_readHindrances_9 : decode cX8_readHindrances 9 = .ok (.ifCond .le 14, 3) := by decide +kernel
theorem dX8_readHindrances_12 : decode cX8_readHindrances 12 = .ok (.aload_n 0, 1) := by decide +kernel
theorem dX8_readHindrances_13 : decode cX8_readHindrances 13 = .ok (.bipush 44, 2) := by decide +kernel
theorem dX8_readHindrances_15 : decode cX8_readHindrances 15 = .ok (.invokevirtual 51, 3) := by decide +kernel
theorem dX8_readHindrances_18 : decode cX8_readHindrances 18 = .ok (.ifCond .ne 5, 3) := by decide +kernel
theorem dX8_readHindrances_21 : decode cX8_readHindrances 21 = .ok (.iconst 0, 1) := by decide +kernel
theorem dX8_readHindrances_22 : decode cX8_readHindrances 22 = .ok (.ireturn, 1) := by decide +kernel
theorem dX8_readHindrances_23 : decode cX8_readHindrances 23 = .ok (.aload_n 0, 1) := by decide +kernel
theorem dX8_readHindrances_24 : decode cX8_readHindrances 24 = .ok (.invokevirtual 83, 3) := by decide +kernel
theorem dX8_readHindrances_27 : decode cX8_readHindrances 27 = .ok (.ifCond .ne 5, 3) := by decide +kernel
theorem dX8_readHindrances_30 : decode cX8_readHindrances 30 = .ok (.iconst 0, 1) := by decide +kernel
theorem dX8_readHindrances_31 : decode cX8_readHindrances 31 = .ok (.ireturn, 1) := by decide +kernel
theorem dX8_readHindrances_32 : decode cX8_readHindrances 32 = .ok (.aload_n 0, 1) := by decide +kernel
theorem dX8_readHindrances_33 : decode cX8_readHindrances 33 = .ok (.invokevirtual 62, 3) := by decide +kernel
theorem dX8_readHindrances_36 : decode cX8_readHindrances 36 = .ok (.ifCond .ne 5, 3) := by decide +kernel
theorem dX8_readHindrances_39 : decode cX8_readHindrances 39 = .ok (.iconst 1, 1) := by decide +kernel
theorem dX8_readHindrances_40 : decode cX8_readHindrances 40 = .ok (.ireturn, 1) := by decide +kernel
theorem dX8_readHindrances_41 : decode cX8_readHindrances 41 = .ok (.iinc 1 1, 3) := by decide +kernel
theorem dX8_readHindrances_44 : decode cX8_readHindrances 44 = .ok (.goto (-42), 3) := by decide +kernel
theorem dX8_readHindrances_47 : decode cX8_readHindrances 47 = .ok (.aload_n 0, 1) := by decide +kernel
theorem dX8_readHindrances_48 : decode cX8_readHindrances 48 = .ok (.aload_n 0, 1) := by decide +kernel
theorem dX8_readHindrances_49 : decode cX8_readHindrances 49 = .ok (.getfield 35, 3) := by decide +kernel
theorem dX8_readHindrances_52 : decode cX8_readHindrances 52 = .ok (.invokevirtual 76, 3) := by decide +kernel
theorem dX8_readHindrances_55 : decode cX8_readHindrances 55 = .ok (.ireturn, 1) := by decide +kernel
theorem dX8_readHindrance_0 : decode cX8_readHindrance 0 = .ok (.aload_n 0, 1) := by decide +kernel
theorem dX8_readHindrance_1 : decode cX8_readHindrance 1 = .ok (.iconst 1, 1) := by decide +kernel
theorem dX8_readHindrance_2 : decode cX8_readHindrance 2 = .ok (.invokevirtual 80, 3) := by decide +kernel
theorem dX8_readHindrance_5 : decode cX8_readHindrance 5 = .ok (.istore_n 1, 1) := by decide +kernel
theorem dX8_readHindrance_6 : decode cX8_readHindrance 6 = .ok (.iload_n 1, 1) := by decide +kernel
theorem dX8_readHindrance_7 : decode cX8_readHindrance 7 = .ok (.ifCond .lt 12, 3) := by decide +kernel
theorem dX8_readHindrance_10 : decode cX8_readHindrance 10 = .ok (.aload_n 0, 1) := by decide +kernel
theorem dX8_readHindrance_11 : decode cX8_readHindrance 11 = .ok (.getfield 41, 3) := by decide +kernel
theorem dX8_readHindrance_14 : decode cX8_readHindrance 14 = .ok (.bipush 6, 2) := by decide +kernel
theorem dX8_readHindrance_16 : decode cX8_readHindrance 16 = .ok (.if_icmp .lt 5, 3) := by decide +kernel
theorem dX8_readHindrance_19 : decode cX8_readHindrance 19 = .ok (.iconst 0, 1) := by decide +kernel
theorem dX8_readHindrance_20 : decode cX8_readHindrance 20 = .ok (.ireturn, 1) := by decide +kernel
theorem dX8_readHindrance_21 : decode cX8_readHindrance 21 = .ok (.aload_n 0, 1) := by decide +kernel
theorem dX8_readHindrance_22 : decode cX8_readHindrance 22 = .ok (.invokevirtual 62, 3) := by decide +kernel
theorem dX8_readHindrance_25 : decode cX8_readHindrance 25 = .ok (.bipush 97, 2) := by decide +kernel
theorem dX8_readHindrance_27 : decode cX8_readHindrance 27 = .ok (.isub, 1) := by decide +kernel
theorem dX8_readHindrance_28 : decode cX8_readHindrance 28 = .ok (.istore_n 2, 1) := by decide +kernel
theorem dX8_readHindrance_29 : decode cX8_readHindrance 29 = .ok (.iload_n 2, 1) := by decide +kernel
theorem dX8_readHindrance_30 : decode cX8_readHindrance 30 = .ok (.iconst 0, 1) := by decide +kernel
theorem dX8_readHindrance_31 : decode cX8_readHindrance 31 = .ok (.iconst 3, 1) := by decide +kernel
theorem dX8_readHindrance_32 : decode cX8_readHindrance 32 = .ok (.invokestatic 86, 3) := by decide +kernel
theorem dX8_readHindrance_35 : decode cX8_readHindrance 35 = .ok (.istore_n 3, 1) := by decide +kernel
theorem dX8_readHindrance_36 : decode cX8_readHindrance 36 = .ok (.iload_n 3, 1) := by decide +kernel
theorem dX8_readHindrance_37 : decode cX8_readHindrance 37 = .ok (.ifCond .eq 13, 3) := by decide +kernel
theorem dX8_readHindrance_40 : decode cX8_readHindrance 40 = .ok (.aload_n 0, 1) := by decide +kernel
theorem dX8_readHindrance_41 : decode cX8_readHindrance 41 = .ok (.dup, 1) := by decide +kernel
theorem dX8_readHindrance_42 : decode cX8_readHindrance 42 = .ok (.getfield 35, 3) := by decide +kernel
theorem dX8_readHindrance_45 : decode cX8_readHindrance 45 = .ok (.iconst 1, 1) := by decide +kernel
theorem dX8_readHindrance_46 : decode cX8_readHindrance 46 = .ok (.iadd, 1) := by decide +kernel
theorem dX8_readHindrance_47 : decode cX8_readHindrance 47 = .ok (.putfield 35, 3) := by decide +kernel
theorem dX8_readHindrance_50 : decode cX8_readHindrance 50 = .ok (.aload_n 0, 1) := by decide +kernel
theorem dX8_readHindrance_51 : decode cX8_readHindrance 51 = .ok (.getfield 25, 3) := by decide +kernel
theorem dX8_readHindrance_54 : decode cX8_readHindrance 54 = .ok (.aload_n 0, 1) := by decide +kernel
theorem dX8_readHindrance_55 : decode cX8_readHindrance 55 = .ok (.getfield 41, 3) := by decide +kernel
theorem dX8_readHindrance_58 : decode cX8_readHindrance 58 = .ok (.iload_n 1, 1) := by decide +kernel
theorem dX8_readHindrance_59 : decode cX8_readHindrance 59 = .ok (.iastore, 1) := by decide +kernel
theorem dX8_readHindrance_60 : decode cX8_readHindrance 60 = .ok (.aload_n 0, 1) := by decide +kernel
theorem dX8_readHindrance_61 : decode cX8_readHindrance 61 = .ok (.getfield 28, 3) := by decide +kernel
theorem dX8_readHindrance_64 : decode cX8_readHindrance 64 = .ok (.aload_n 0, 1) := by decide +kernel
theorem dX8_readHindrance_65 : decode cX8_readHindrance 65 = .ok (.getfield 41, 3) := by decide +kernel
theorem dX8_readHindrance_68 : decode cX8_readHindrance 68 = .ok (.iload_n 3, 1) := by decide +kernel
theorem dX8_readHindrance_69 : decode cX8_readHindrance 69 = .ok (.ifCond .eq 7, 3) := by decide +kernel
theorem dX8_readHindrance_72 : decode cX8_readHindrance 72 = .ok (.iload_n 2, 1) := by decide +kernel
theorem dX8_readHindrance_73 : decode cX8_readHindrance 73 = .ok (.goto 5, 3) := by decide +kernel
theorem dX8_readHindrance_76 : decode cX8_readHindrance 76 = .ok (.bipush (-4), 2) := by decide +kernel
theorem dX8_readHindrance_78 : decode cX8_readHindrance 78 = .ok (.iastore, 1) := by decide +kernel
theorem dX8_readHindrance_79 : decode cX8_readHindrance 79 = .ok (.aload_n 0, 1) := by decide +kernel
theorem dX8_readHindrance_80 : decode cX8_readHindrance 80 = .ok (.dup, 1) := by decide +kernel
theorem dX8_readHindrance_81 : decode cX8_readHindrance 81 = .ok (.getfield 41, 3) := by decide +kernel
theorem dX8_readHindrance_84 : decode cX8_readHindrance 84 = .ok (.iconst 1, 1) := by decide +kernel
theorem dX8_readHindrance_85 : decode cX8_readHindrance 85 = .ok (.iadd, 1) := by decide +kernel
theorem dX8_readHindrance_86 : decode cX8_readHindrance 86 = .ok (.putfield 41, 3) := by decide +kernel
theorem dX8_readHindrance_89 : decode cX8_readHindrance 89 = .ok (.iconst 1, 1) := by decide +kernel
theorem dX8_readHindrance_90 : decode cX8_readHindrance 90 = .ok (.ireturn, 1) := by decide +kernel
theorem dX8_readNumber_0 : decode cX8_readNumber 0 = .ok (.aload_n 0, 1) := by decide +kernel
theorem dX8_readNumber_1 : decode cX8_readNumber 1 = .ok (.invokevirtual 62, 3) := by decide +kernel
theorem dX8_readNumber_4 : decode cX8_readNumber 4 = .ok (.pop, 1) := by decide +kernel
theorem dX8_readNumber_5 : decode cX8_readNumber 5 = .ok (.aload_n 0, 1) := by decide +kernel
theorem dX8_readNumber_6 : decode cX8_readNumber 6 = .ok (.getfield 35, 3) := by decide +kernel
theorem dX8_readNumber_9 : decode cX8_readNumber 9 = .ok (.istore_n 2, 1) := by decide +kernel
theorem dX8_readNumber_10 : decode cX8_readNumber 10 = .ok (.iconst 0, 1) := by decide +kernel
theorem dX8_readNumber_11 : decode cX8_readNumber 11 = .ok (.istore_n 3, 1) := by decide +kernel
theorem dX8_readNumber_12 : decode cX8_readNumber 12 = .ok (.aload_n 0, 1) := by decide +kernel
theorem dX8_readNumber_13 : decode cX8_readNumber 13 = .ok (.getfield 35, 3) := by decide +kernel
theorem dX8_readNumber_16 : decode cX8_readNumber 16 = .ok (.aload_n 0, 1) := by decide +kernel
theorem dX8_readNumber_17 : decode cX8_readNumber 17 = .ok (.getfield 31, 3) := by decide +kernel
theorem dX8_readNumber_20 : decode cX8_readNumber 20 = .ok (.if_icmp .ge 59, 3) := by decide +kernel
theorem dX8_readNumber_23 : decode cX8_readNumber 23 = .ok (.aload_n 0, 1) := by decide +kernel
theorem dX8_readNumber_24 : decode cX8_readNumber 24 = .ok (.getfield 35, 3) := by decide +kernel
theorem dX8_readNumber_27 : decode cX8_readNumber 27 = .ok (.iload_n 2, 1) := by decide +kernel
theorem dX8_readNumber_28 : decode cX8_readNumber 28 = .ok (.isub, 1) := by decide +kernel
theorem dX8_readNumber_29 : decode cX8_readNumber 29 = .ok (.iconst 3, 1) := by decide +kernel
theorem dX8_readNumber_30 : decode cX8_readNumber 30 = .ok (.if_icmp .ge 49, 3) := by decide +kernel
theorem dX8_readNumber_33 : decode cX8_readNumber 33 = .ok (.aload_n 0, 1) := by decide +kernel
theorem dX8_readNumber_34 : decode cX8_readNumber 34 = .ok (.getfield 9, 3) := by decide +kernel
theorem dX8_readNumber_37 : decode cX8_readNumber 37 = .ok (.aload_n 0, 1) := by decide +kernel
theorem dX8_readNumber_38 : decode cX8_readNumber 38 = .ok (.getfield 35, 3) := by decide +kernel
theorem dX8_readNumber_41 : decode cX8_readNumber 41 = .ok (.caload, 1) := by decide +kernel
theorem dX8_readNumber_42 : decode cX8_readNumber 42 = .ok (.invokestatic 90, 3) := by decide +kernel
theorem dX8_readNumber_45 : decode cX8_readNumber 45 = .ok (.ifCond .eq 34, 3) := by decide +kernel
theorem dX8_readNumber_48 : decode cX8_readNumber 48 = .ok (.iload_n 3, 1) := by decide +kernel
theorem dX8_readNumber_49 : decode cX8_readNumber 49 = .ok (.bipush 10, 2) := by decide +kernel
theorem dX8_readNumber_51 : decode cX8_readNumber 51 = .ok (.imul, 1) := by decide +kernel
theorem dX8_readNumber_52 : decode cX8_readNumber 52 = .ok (.aload_n 0, 1) := by decide +kernel
theorem dX8_readNumber_53 : decode cX8_readNumber 53 = .ok (.getfield 9, 3) := by decide +kernel
theorem dX8_readNumber_56 : decode cX8_readNumber 56 = .ok (.aload_n 0, 1) := by decide +kernel
theorem dX8_readNumber_57 : decode cX8_readNumber 57 = .ok (.getfield 35, 3) := by decide +kernel
theorem dX8_readNumber_60 : decode cX8_readNumber 60 = .ok (.caload, 1) := by decide +kernel
theorem dX8_readNumber_61 : decode cX8_readNumber 61 = .ok (.bipush 48, 2) := by decide +kernel
theorem dX8_readNumber_63 : decode cX8_readNumber 63 = .ok (.isub, 1) := by decide +kernel
theorem dX8_readNumber_64 : decode cX8_readNumber 64 = .ok (.iadd, 1) := by decide +kernel
theorem dX8_readNumber_65 : decode cX8_readNumber 65 = .ok (.istore_n 3, 1) := by decide +kernel
theorem dX8_readNumber_66 : decode cX8_readNumber 66 = .ok (.aload_n 0, 1) := by decide +kernel
theorem dX8_readNumber_67 : decode cX8_readNumber 67 = .ok (.dup, 1) := by decide +kernel
theorem dX8_readNumber_68 : decode cX8_readNumber 68 = .ok (.getfield 35, 3) := by decide +kernel
theorem dX8_readNumber_71 : decode cX8_readNumber 71 = .ok (.iconst 1, 1) := by decide +kernel
theorem dX8_readNumber_72 : decode cX8_readNumber 72 = .ok (.iadd, 1) := by decide +kernel
theorem dX8_readNumber_73 : decode cX8_readNumber 73 = .ok (.putfield 35, 3) := by decide +kernel
theorem dX8_readNumber_76 : decode cX8_readNumber 76 = .ok (.goto (-64), 3) := by decide +kernel
theorem dX8_readNumber_79 : decode cX8_readNumber 79 = .ok (.iload_n 3, 1) := by decide +kernel
theorem dX8_readNumber_80 : decode cX8_readNumber 80 = .ok (.iconst 1, 1) := by decide +kernel
theorem dX8_readNumber_81 : decode cX8_readNumber 81 = .ok (.iload_n 1, 1) := by decide +kernel
theorem dX8_readNumber_82 : decode cX8_readNumber 82 = .ok (.invokestatic 86, 3) := by decide +kernel
theorem dX8_readNumber_85 : decode cX8_readNumber 85 = .ok (.ifCond .ne 11, 3) := by decide +kernel
theorem dX8_readNumber_88 : decode cX8_readNumber 88 = .ok (.aload_n 0, 1) := by decide +kernel
theorem dX8_readNumber_89 : decode cX8_readNumber 89 = .ok (.iload_n 2, 1) := by decide +kernel
theorem dX8_readNumber_90 : decode cX8_readNumber 90 = .ok (.invokevirtual 76, 3) := by decide +kernel
theorem dX8_readNumber_93 : decode cX8_readNumber 93 = .ok (.pop, 1) := by decide +kernel
theorem dX8_readNumber_94 : decode cX8_readNumber 94 = .ok (.iconst (-1), 1) := by decide +kernel
theorem dX8_readNumber_95 : decode cX8_readNumber 95 = .ok (.ireturn, 1) := by decide +kernel
theorem dX8_readNumber_96 : decode cX8_readNumber 96 = .ok (.iload_n 3, 1) := by decide +kernel
theorem dX8_readNumber_97 : decode cX8_readNumber 97 = .ok (.ireturn, 1) := by decide +kernel
theorem dX8_readDigit_0 : decode cX8_readDigit 0 = .ok (.aload_n 0, 1) := by decide +kernel
theorem dX8_readDigit_1 : decode cX8_readDigit 1 = .ok (.invokevirtual 62, 3) := by decide +kernel
theorem dX8_readDigit_4 : decode cX8_readDigit 4 = .ok (.istore_n 2, 1) := by decide +kernel
theorem dX8_readDigit_5 : decode cX8_readDigit 5 = .ok (.iload_n 2, 1) := by decide +kernel
theorem dX8_readDigit_6 : decode cX8_readDigit 6 = .ok (.invokestatic 90, 3) := by decide +kernel
theorem dX8_readDigit_9 : decode cX8_readDigit 9 = .ok (.ifCond .eq 11, 3) := by decide +kernel
theorem dX8_readDigit_12 : decode cX8_readDigit 12 = .ok (.iload_n 2, 1) := by decide +kernel
theorem dX8_readDigit_13 : decode cX8_readDigit 13 = .ok (.bipush 48, 2) := by decide +kernel
theorem dX8_readDigit_15 : decode cX8_readDigit 15 = .ok (.isub, 1) := by decide +kernel
theorem dX8_readDigit_16 : decode cX8_readDigit 16 = .ok (.iload_n 1, 1) := by decide +kernel
theorem dX8_readDigit_17 : decode cX8_readDigit 17 = .ok (.if_icmp .ge 14, 3) := by decide +kernel
theorem dX8_readDigit_20 : decode cX8_readDigit 20 = .ok (.aload_n 0, 1) := by decide +kernel
theorem dX8_readDigit_21 : decode cX8_readDigit 21 = .ok (.aload_n 0, 1) := by decide +kernel
theorem dX8_readDigit_22 : decode cX8_readDigit 22 = .ok (.getfield 35, 3) := by decide +kernel
theorem dX8_readDigit_25 : decode cX8_readDigit 25 = .ok (.invokevirtual 76, 3) := by decide +kernel
theorem dX8_readDigit_28 : decode cX8_readDigit 28 = .ok (.pop, 1) := by decide +kernel
theorem dX8_readDigit_29 : decode cX8_readDigit 29 = .ok (.iconst (-1), 1) := by decide +kernel
theorem dX8_readDigit_30 : decode cX8_readDigit 30 = .ok (.ireturn, 1) := by decide +kernel
theorem dX8_readDigit_31 : decode cX8_readDigit 31 = .ok (.aload_n 0, 1) := by decide +kernel
theorem dX8_readDigit_32 : decode cX8_readDigit 32 = .ok (.dup, 1) := by decide +kernel
theorem dX8_readDigit_33 : decode cX8_readDigit 33 = .ok (.getfield 35, 3) := by decide +kernel
theorem dX8_readDigit_36 : decode cX8_readDigit 36 = .ok (.iconst 1, 1) := by decide +kernel
theorem dX8_readDigit_37 : decode cX8_readDigit 37 = .ok (.iadd, 1) := by decide +kernel
theorem dX8_readDigit_38 : decode cX8_readDigit 38 = .ok (.putfield 35, 3) := by decide +kernel
theorem dX8_readDigit_41 : decode cX8_readDigit 41 = .ok (.iload_n 2, 1) := by decide +kernel
theorem dX8_readDigit_42 : decode cX8_readDigit 42 = .ok (.bipush 48, 2) := by decide +kernel
theorem dX8_readDigit_44 : decode cX8_readDigit 44 = .ok (.isub, 1) := by decide +kernel
theorem dX8_readDigit_45 : decode cX8_readDigit 45 = .ok (.ireturn, 1) := by decide +kernel
theorem dX8_readSign_0 : decode cX8_readSign 0 = .ok (.aload_n 0, 1) := by decide +kernel
theorem dX8_readSign_1 : decode cX8_readSign 1 = .ok (.invokevirtual 62, 3) := by decide +kernel
theorem dX8_readSign_4 : decode cX8_readSign 4 = .ok (.iload_n 1, 1) := by decide +kernel
theorem dX8_readSign_5 : decode cX8_readSign 5 = .ok (.if_icmp .eq 12, 3) := by decide +kernel
theorem dX8_readSign_8 : decode cX8_readSign 8 = .ok (.aload_n 0, 1) := by decide +kernel
theorem dX8_readSign_9 : decode cX8_readSign 9 = .ok (.aload_n 0, 1) := by decide +kernel
theorem dX8_readSign_10 : decode cX8_readSign 10 = .ok (.getfield 35, 3) := by decide +kernel
theorem dX8_readSign_13 : decode cX8_readSign 13 = .ok (.invokevirtual 76, 3) := by decide +kernel
theorem dX8_readSign_16 : decode cX8_readSign 16 = .ok (.ireturn, 1) := by decide +kernel
theorem dX8_readSign_17 : decode cX8_readSign 17 = .ok (.aload_n 0, 1) := by decide +kernel
theorem dX8_readSign_18 : decode cX8_readSign 18 = .ok (.dup, 1) := by decide +kernel
theorem dX8_readSign_19 : decode cX8_readSign 19 = .ok (.getfield 35, 3) := by decide +kernel
theorem dX8_readSign_22 : decode cX8_readSign 22 = .ok (.iconst 1, 1) := by decide +kernel
theorem dX8_readSign_23 : decode cX8_readSign 23 = .ok (.iadd, 1) := by decide +kernel
theorem dX8_readSign_24 : decode cX8_readSign 24 = .ok (.putfield 35, 3) := by decide +kernel
theorem dX8_readSign_27 : decode cX8_readSign 27 = .ok (.iconst 1, 1) := by decide +kernel
theorem dX8_readSign_28 : decode cX8_readSign 28 = .ok (.ireturn, 1) := by decide +kernel
theorem dX8_next_0 : decode cX8_next 0 = .ok (.aload_n 0, 1) := by decide +kernel
theorem dX8_next_1 : decode cX8_next 1 = .ok (.getfield 35, 3) := by decide +kernel
theorem dX8_next_4 : decode cX8_next 4 = .ok (.aload_n 0, 1) := by decide +kernel
theorem dX8_next_5 : decode cX8_next 5 = .ok (.getfield 31, 3) := by decide +kernel
theorem dX8_next_8 : decode cX8_next 8 = .ok (.if_icmp .ge 30, 3) := by decide +kernel
theorem dX8_next_11 : decode cX8_next 11 = .ok (.aload_n 0, 1) := by decide +kernel
theorem dX8_next_12 : decode cX8_next 12 = .ok (.getfield 9, 3) := by decide +kernel
theorem dX8_next_15 : decode cX8_next 15 = .ok (.aload_n 0, 1) := by decide +kernel
theorem dX8_next_16 : decode cX8_next 16 = .ok (.getfield 35, 3) := by decide +kernel
theorem dX8_next_19 : decode cX8_next 19 = .ok (.caload, 1) := by decide +kernel
theorem dX8_next_20 : decode cX8_next 20 = .ok (.bipush 32, 2) := by decide +kernel
theorem dX8_next_22 : decode cX8_next 22 = .ok (.if_icmp .ne 16, 3) := by decide +kernel
theorem dX8_next_25 : decode cX8_next 25 = .ok (.aload_n 0, 1) := by decide +kernel
theorem dX8_next_26 : decode cX8_next 26 = .ok (.dup, 1) := by decide +kernel
theorem dX8_next_27 : decode cX8_next 27 = .ok (.getfield 35, 3) := by decide +kernel
theorem dX8_next_30 : decode cX8_next 30 = .ok (.iconst 1, 1) := by decide +kernel
theorem dX8_next_31 : decode cX8_next 31 = .ok (.iadd, 1) := by decide +kernel
theorem dX8_next_32 : decode cX8_next 32 = .ok (.putfield 35, 3) := by decide +kernel
theorem dX8_next_35 : decode cX8_next 35 = .ok (.goto (-35), 3) := by decide +kernel
theorem dX8_next_38 : decode cX8_next 38 = .ok (.aload_n 0, 1) := by decide +kernel
theorem dX8_next_39 : decode cX8_next 39 = .ok (.getfield 35, 3) := by decide +kernel
theorem dX8_next_42 : decode cX8_next 42 = .ok (.aload_n 0, 1) := by decide +kernel
theorem dX8_next_43 : decode cX8_next 43 = .ok (.getfield 31, 3) := by decide +kernel
theorem dX8_next_46 : decode cX8_next 46 = .ok (.if_icmp .ge 15, 3) := by decide +kernel
theorem dX8_next_49 : decode cX8_next 49 = .ok (.aload_n 0, 1) := by decide +kernel
theorem dX8_next_50 : decode cX8_next 50 = .ok (.getfield 9, 3) := by decide +kernel
theorem dX8_next_53 : decode cX8_next 53 = .ok (.aload_n 0, 1) := by decide +kernel
theorem dX8_next_54 : decode cX8_next 54 = .ok (.getfield 35, 3) := by decide +kernel
theorem dX8_next_57 : decode cX8_next 57 = .ok (.caload, 1) := by decide +kernel
theorem dX8_next_58 : decode cX8_next 58 = .ok (.goto 4, 3) := by decide +kernel
theorem dX8_next_61 : decode cX8_next 61 = .ok (.iconst 0, 1) := by decide +kernel
theorem dX8_next_62 : decode cX8_next 62 = .ok (.ireturn, 1) := by decide +kernel
theorem dX8_failAt_0 : decode cX8_failAt 0 = .ok (.aload_n 0, 1) := by decide +kernel
theorem dX8_failAt_1 : decode cX8_failAt 1 = .ok (.iload_n 1, 1) := by decide +kernel
theorem dX8_failAt_2 : decode cX8_failAt 2 = .ok (.putfield 93, 3) := by decide +kernel
theorem dX8_failAt_5 : decode cX8_failAt 5 = .ok (.iconst 0, 1) := by decide +kernel
theorem dX8_failAt_6 : decode cX8_failAt 6 = .ok (.ireturn, 1) := by decide +kernel
theorem dX8_isDigit_0 : decode cX8_isDigit 0 = .ok (.iload_n 0, 1) := by decide +kernel
theorem dX8_isDigit_1 : decode cX8_isDigit 1 = .ok (.bipush 48, 2) := by decide +kernel
theorem dX8_isDigit_3 : decode cX8_isDigit 3 = .ok (.if_icmp .lt 13, 3) := by decide +kernel
theorem dX8_isDigit_6 : decode cX8_isDigit 6 = .ok (.iload_n 0, 1) := by decide +kernel
theorem dX8_isDigit_7 : decode cX8_isDigit 7 = .ok (.bipush 57, 2) := by decide +kernel
theorem dX8_isDigit_9 : decode cX8_isDigit 9 = .ok (.if_icmp .gt 7, 3) := by decide +kernel
theorem dX8_isDigit_12 : decode cX8_isDigit 12 = .ok (.iconst 1, 1) := by decide +kernel
theorem dX8_isDigit_13 : decode cX8_isDigit 13 = .ok (.goto 4, 3) := by decide +kernel
theorem dX8_isDigit_16 : decode cX8_isDigit 16 = .ok (.iconst 0, 1) := by decide +kernel
theorem dX8_isDigit_17 : decode cX8_isDigit 17 = .ok (.ireturn, 1) := by decide +kernel
theorem dX8_kindOf_0 : decode cX8_kindOf 0 = .ok (.iload_n 0, 1) := by decide +kernel
theorem dX8_kindOf_1 : decode cX8_kindOf 1 = .ok (.lookupswitch 61 #[(98, 55), (103, 57), (104, 53), (112, 51), (119, 59)], 51) := by decide +kernel
theorem dX8_kindOf_52 : decode cX8_kindOf 52 = .ok (.iconst 0, 1) := by decide +kernel
theorem dX8_kindOf_53 : decode cX8_kindOf 53 = .ok (.ireturn, 1) := by decide +kernel
theorem dX8_kindOf_54 : decode cX8_kindOf 54 = .ok (.iconst 1, 1) := by decide +kernel
theorem dX8_kindOf_55 : decode cX8_kindOf 55 = .ok (.ireturn, 1) := by decide +kernel
theorem dX8_kindOf_56 : decode cX8_kindOf 56 = .ok (.iconst 2, 1) := by decide +kernel
theorem dX8_kindOf_57 : decode cX8_kindOf 57 = .ok (.ireturn, 1) := by decide +kernel
theorem dX8_kindOf_58 : decode cX8_kindOf 58 = .ok (.iconst 3, 1) := by decide +kernel
theorem dX8_kindOf_59 : decode cX8_kindOf 59 = .ok (.ireturn, 1) := by decide +kernel
theorem dX8_kindOf_60 : decode cX8_kindOf 60 = .ok (.iconst 4, 1) := by decide +kernel
theorem dX8_kindOf_61 : decode cX8_kindOf 61 = .ok (.ireturn, 1) := by decide +kernel
theorem dX8_kindOf_62 : decode cX8_kindOf 62 = .ok (.iconst (-1), 1) := by decide +kernel
theorem dX8_kindOf_63 : decode cX8_kindOf 63 = .ok (.ireturn, 1) := by decide +kernel
theorem dX9_init_0 : decode cX9_init 0 = .ok (.aload_n 0, 1) := by decide +kernel
theorem dX9_init_1 : decode cX9_init 1 = .ok (.invokespecial 1, 3) := by decide +kernel
theorem dX9_init_4 : decode cX9_init 4 = .ok (.aload_n 0, 1) := by decide +kernel
theorem dX9_init_5 : decode cX9_init 5 = .ok (.new 7, 3) := by decide +kernel
theorem dX9_init_8 : decode cX9_init 8 = .ok (.dup, 1) := by decide +kernel
theorem dX9_init_9 : decode cX9_init 9 = .ok (.invokespecial 9, 3) := by decide +kernel
theorem dX9_init_12 : decode cX9_init 12 = .ok (.putfield 10, 3) := by decide +kernel
theorem dX9_init_15 : decode cX9_init 15 = .ok (.aload_n 0, 1) := by decide +kernel
theorem dX9_init_16 : decode cX9_init 16 = .ok (.new 7, 3) := by decide +kernel
theorem dX9_init_19 : decode cX9_init 19 = .ok (.dup, 1) := by decide +kernel
theorem dX9_init_20 : decode cX9_init 20 = .ok (.invokespecial 9, 3) := by decide +kernel
theorem dX9_init_23 : decode cX9_init 23 = .ok (.putfield 16, 3) := by decide +kernel
theorem dX9_init_26 : decode cX9_init 26 = .ok (.aload_n 0, 1) := by decide +kernel
theorem dX9_init_27 : decode cX9_init 27 = .ok (.new 19, 3) := by decide +kernel
theorem dX9_init_30 : decode cX9_init 30 = .ok (.dup, 1) := by decide +kernel
theorem dX9_init_31 : decode cX9_init 31 = .ok (.invokespecial 21, 3) := by decide +kernel
theorem dX9_init_34 : decode cX9_init 34 = .ok (.putfield 22, 3) := by decide +kernel
theorem dX9_init_37 : decode cX9_init 37 = .ok (.aload_n 0, 1) := by decide +kernel
theorem dX9_init_38 : decode cX9_init 38 = .ok (.new 26, 3) := by decide +kernel
theorem dX9_init_41 : decode cX9_init 41 = .ok (.dup, 1) := by decide +kernel
theorem dX9_init_42 : decode cX9_init 42 = .ok (.invokespecial 28, 3) := by decide +kernel
theorem dX9_init_45 : decode cX9_init 45 = .ok (.putfield 29, 3) := by decide +kernel
theorem dX9_init_48 : decode cX9_init 48 = .ok (.aload_n 0, 1) := by decide +kernel
theorem dX9_init_49 : decode cX9_init 49 = .ok (.iconst 4, 1) := by decide +kernel
theorem dX9_init_50 : decode cX9_init 50 = .ok (.anewarray 33, 3) := by decide +kernel
theorem dX9_init_53 : decode cX9_init 53 = .ok (.putfield 35, 3) := by decide +kernel
theorem dX9_init_56 : decode cX9_init 56 = .ok (.iconst 0, 1) := by decide +kernel
theorem dX9_init_57 : decode cX9_init 57 = .ok (.istore_n 1, 1) := by decide +kernel
theorem dX9_init_58 : decode cX9_init 58 = .ok (.iload_n 1, 1) := by decide +kernel
theorem dX9_init_59 : decode cX9_init 59 = .ok (.iconst 4, 1) := by decide +kernel
theorem dX9_init_60 : decode cX9_init 60 = .ok (.if_icmp .ge 22, 3) := by decide +kernel
theorem dX9_init_63 : decode cX9_init 63 = .ok (.aload_n 0, 1) := by decide +kernel
theorem dX9_init_64 : decode cX9_init 64 = .ok (.getfield 35, 3) := by decide +kernel
theorem dX9_init_67 : decode cX9_init 67 = .ok (.iload_n 1, 1) := by decide +kernel
theorem dX9_init_68 : decode cX9_init 68 = .ok (.new 33, 3) := by decide +kernel
theorem dX9_init_71 : decode cX9_init 71 = .ok (.dup, 1) := by decide +kernel
theorem dX9_init_72 : decode cX9_init 72 = .ok (.invokespecial 39, 3) := by decide +kernel
theorem dX9_init_75 : decode cX9_init 75 = .ok (.aastore, 1) := by decide +kernel
theorem dX9_init_76 : decode cX9_init 76 = .ok (.iinc 1 1, 3) := by decide +kernel
theorem dX9_init_79 : decode cX9_init 79 = .ok (.goto (-21), 3) := by decide +kernel
theorem dX9_init_82 : decode cX9_init 82 = .ok (.return_, 1) := by decide +kernel
theorem dX9_builder_0 : decode cX9_builder 0 = .ok (.iload_n 1, 1) := by decide +kernel
theorem dX9_builder_1 : decode cX9_builder 1 = .ok (.iconst 0, 1) := by decide +kernel
theorem dX9_builder_2 : decode cX9_builder 2 = .ok (.iconst 4, 1) := by decide +kernel
theorem dX9_builder_3 : decode cX9_builder 3 = .ok (.invokestatic 40, 3) := by decide +kernel
theorem dX9_builder_6 : decode cX9_builder 6 = .ok (.ifCond .eq 23, 3) := by decide +kernel
theorem dX9_builder_9 : decode cX9_builder 9 = .ok (.iload_n 2, 1) := by decide +kernel
theorem dX9_builder_10 : decode cX9_builder 10 = .ok (.iconst 1, 1) := by decide +kernel
theorem dX9_builder_11 : decode cX9_builder 11 = .ok (.bipush 9, 2) := by decide +kernel
theorem dX9_builder_13 : decode cX9_builder 13 = .ok (.invokestatic 40, 3) := by decide +kernel
theorem dX9_builder_16 : decode cX9_builder 16 = .ok (.ifCond .eq 13, 3) := by decide +kernel
theorem dX9_builder_19 : decode cX9_builder 19 = .ok (.iload_n 3, 1) := by decide +kernel
theorem dX9_builder_20 : decode cX9_builder 20 = .ok (.iconst 0, 1) := by decide +kernel
theorem dX9_builder_21 : decode cX9_builder 21 = .ok (.bipush 9, 2) := by decide +kernel
theorem dX9_builder_23 : decode cX9_builder 23 = .ok (.invokestatic 40, 3) := by decide +kernel
theorem dX9_builder_26 : decode cX9_builder 26 = .ok (.ifCond .ne 5, 3) := by decide +kernel
theorem dX9_builder_29 : decode cX9_builder 29 = .ok (.iconst (-1), 1) := by decide +kernel
theorem dX9_builder_30 : decode cX9_builder 30 = .ok (.ireturn, 1) := by decide +kernel
theorem dX9_builder_31 : decode cX9_builder 31 = .ok (.aload_n 0, 1) := by decide +kernel
theorem dX9_builder_32 : decode cX9_builder 32 = .ok (.getfield 10, 3) := by decide +kernel
theorem dX9_builder_35 : decode cX9_builder 35 = .ok (.getfield 44, 3) := by decide +kernel
theorem dX9_builder_38 : decode cX9_builder 38 = .ok (.iconst 4, 1) := by decide +kernel
theorem dX9_builder_39 : decode cX9_builder 39 = .ok (.if_icmp .lt 6, 3) := by decide +kernel
theorem dX9_builder_42 : decode cX9_builder 42 = .ok (.bipush (-3), 2) := by decide +kernel
theorem dX9_builder_44 : decode cX9_builder 44 = .ok (.ireturn, 1) := by decide +kernel
theorem dX9_builder_45 : decode cX9_builder 45 = .ok (.aload_n 0, 1) := by decide +kernel
theorem dX9_builder_46 : decode cX9_builder 46 = .ok (.getfield 10, 3) := by decide +kernel
theorem dX9_builder_49 : decode cX9_builder 49 = .ok (.iload_n 1, 1) := by decide +kernel
theorem dX9_builder_50 : decode cX9_builder 50 = .ok (.iload_n 2, 1) := by decide +kernel
theorem dX9_builder_51 : decode cX9_builder 51 = .ok (.iload_n 3, 1) := by decide +kernel
theorem dX9_builder_52 : decode cX9_builder 52 = .ok (.invokevirtual 48, 3) := by decide +kernel
theorem dX9_builder_55 : decode cX9_builder 55 = .ok (.aload_n 0, 1) := by decide +kernel
theorem dX9_builder_56 : decode cX9_builder 56 = .ok (.getfield 10, 3) := by decide +kernel
theorem dX9_builder_59 : decode cX9_builder 59 = .ok (.iconst 0, 1) := by decide +kernel
theorem dX9_builder_60 : decode cX9_builder 60 = .ok (.putfield 52, 3) := by decide +kernel
theorem dX9_builder_63 : decode cX9_builder 63 = .ok (.aload_n 0, 1) := by decide +kernel
theorem dX9_builder_64 : decode cX9_builder 64 = .ok (.getfield 10, 3) := by decide +kernel
theorem dX9_builder_67 : decode cX9_builder 67 = .ok (.getfield 44, 3) := by decide +kernel
theorem dX9_builder_70 : decode cX9_builder 70 = .ok (.iconst 1, 1) := by decide +kernel
theorem dX9_builder_71 : decode cX9_builder 71 = .ok (.isub, 1) := by decide +kernel
theorem dX9_builder_72 : decode cX9_builder 72 = .ok (.ireturn, 1) := by decide +kernel
theorem dX9_of_0 : decode cX9_of 0 = .ok (.iload_n 1, 1) := by decide +kernel
theorem dX9_of_1 : decode cX9_of 1 = .ok (.iconst 0, 1) := by decide +kernel
theorem dX9_of_2 : decode cX9_of 2 = .ok (.aload_n 0, 1) := by decide +kernel
theorem dX9_of_3 : decode cX9_of 3 = .ok (.getfield 10, 3) := by decide +kernel
theorem dX9_of_6 : decode cX9_of 6 = .ok (.getfield 44, 3) := by decide +kernel
theorem dX9_of_9 : decode cX9_of 9 = .ok (.iconst 1, 1) := by decide +kernel
theorem dX9_of_10 : decode cX9_of 10 = .ok (.isub, 1) := by decide +kernel
theorem dX9_of_11 : decode cX9_of 11 = .ok (.invokestatic 40, 3) := by decide +kernel
theorem dX9_of_14 : decode cX9_of 14 = .ok (.ifCond .ne 5, 3) := by decide +kernel
theorem dX9_of_17 : decode cX9_of 17 = .ok (.iconst (-1), 1) := by decide +kernel
theorem dX9_of_18 : decode cX9_of 18 = .ok (.ireturn, 1) := by decide +kernel
theorem dX9_of_19 : decode cX9_of 19 = .ok (.aload_n 0, 1) := by decide +kernel
theorem dX9_of_20 : decode cX9_of 20 = .ok (.getfield 10, 3) := by decide +kernel
theorem dX9_of_23 : decode cX9_of 23 = .ok (.getfield 55, 3) := by decide +kernel
theorem dX9_of_26 : decode cX9_of 26 = .ok (.iload_n 1, 1) := by decide +kernel
theorem dX9_of_27 : decode cX9_of 27 = .ok (.aaload, 1) := by decide +kernel
theorem dX9_of_28 : decode cX9_of 28 = .ok (.astore_n 3, 1) := by decide +kernel
theorem dX9_of_29 : decode cX9_of 29 = .ok (.aload_n 3, 1) := by decide +kernel
theorem dX9_of_30 : decode cX9_of 30 = .ok (.ifnonnull 5, 3) := by decide +kernel
theorem dX9_of_33 : decode cX9_of 33 = .ok (.iconst (-1), 1) := by decide +kernel
theorem dX9_of_34 : decode cX9_of 34 = .ok (.ireturn, 1) := by decide +kernel
theorem dX9_of_35 : decode cX9_of 35 = .ok (.iload_n 2, 1) := by decide +kernel
theorem dX9_of_36 : decode cX9_of 36 = .ok (.tableswitch 114 0 6 #[44, 49, 54, 59, 72, 86, 100], 44) := by decide +kernel
theorem dX9_of_80 : decode cX9_of 80 = .ok (.aload_n 3, 1) := by decide +kernel
theorem dX9_of_81 : decode cX9_of 81 = .ok (.invokevirtual 59, 3) := by decide +kernel
theorem dX9_of_84 : decode cX9_of 84 = .ok (.ireturn, 1) := by decide +kernel
theorem dX9_of_85 : decode cX9_of 85 = .ok (.aload_n 3, 1) := by decide +kernel
theorem dX9_of_86 : decode cX9_of 86 = .ok (.getfield 65, 3) := by decide +kernel
theorem dX9_of_89 : decode cX9_of 89 = .ok (.ireturn, 1) := by decide +kernel
theorem dX9_of_90 : decode cX9_of 90 = .ok (.aload_n 3, 1) := by decide +kernel
theorem dX9_of_91 : decode cX9_of 91 = .ok (.getfield 68, 3) := by decide +kernel
theorem dX9_of_94 : decode cX9_of 94 = .ok (.ireturn, 1) := by decide +kernel
theorem dX9_of_95 : decode cX9_of 95 = .ok (.aload_n 3, 1) := by decide +kernel
theorem dX9_of_96 : decode cX9_of 96 = .ok (.aload_n 0, 1) := by decide +kernel
theorem dX9_of_97 : decode cX9_of 97 = .ok (.getfield 10, 3) := by decide +kernel
theorem dX9_of_100 : decode cX9_of 100 = .ok (.getfield 71, 3) := by decide +kernel
theorem dX9_of_103 : decode cX9_of 103 = .ok (.iconst 0, 1) := by decide +kernel
theorem dX9_of_104 : decode cX9_of 104 = .ok (.invokevirtual 74, 3) := by decide +kernel
theorem dX9_of_107 : decode cX9_of 107 = .ok (.ireturn, 1) := by decide +kernel
theorem dX9_of_108 : decode cX9_of 108 = .ok (.aload_n 3, 1) := by decide +kernel
theorem dX9_of_109 : decode cX9_of 109 = .ok (.iconst 0, 1) := by decide +kernel
theorem dX9_of_110 : decode cX9_of 110 = .ok (.aload_n 0, 1) := by decide +kernel
theorem dX9_of_111 : decode cX9_of 111 = .ok (.getfield 10, 3) := by decide +kernel
theorem dX9_of_114 : decode cX9_of 114 = .ok (.getfield 71, 3) := by decide +kernel
theorem dX9_of_117 : decode cX9_of 117 = .ok (.iconst 0, 1) := by decide +kernel
theorem dX9_of_118 : decode cX9_of 118 = .ok (.invokevirtual 78, 3) := by decide +kernel
theorem dX9_of_121 : decode cX9_of 121 = .ok (.ireturn, 1) := by decide +kernel
theorem dX9_of_122 : decode cX9_of 122 = .ok (.aload_n 3, 1) := by decide +kernel
theorem dX9_of_123 : decode cX9_of 123 = .ok (.iconst 1, 1) := by decide +kernel
theorem dX9_of_124 : decode cX9_of 124 = .ok (.aload_n 0, 1) := by decide +kernel
theorem dX9_of_125 : decode cX9_of 125 = .ok (.getfield 10, 3) := by decide +kernel
theorem dX9_of_128 : decode cX9_of 128 = .ok (.getfield 71, 3) := by decide +kernel
theorem dX9_of_131 : decode cX9_of 131 = .ok (.iconst 0, 1) := by decide +kernel
theorem dX9_of_132 : decode cX9_of 132 = .ok (.invokevirtual 78, 3) := by decide +kernel
theorem dX9_of_135 : decode cX9_of 135 = .ok (.ireturn, 1) := by decide +kernel
theorem dX9_of_136 : decode cX9_of 136 = .ok (.aload_n 3, 1) := by decide +kernel
theorem dX9_of_137 : decode cX9_of 137 = .ok (.iconst 2, 1) := by decide +kernel
theorem dX9_of_138 : decode cX9_of 138 = .ok (.aload_n 0, 1) := by decide +kernel
theorem dX9_of_139 : decode cX9_of 139 = .ok (.getfield 10, 3) := by decide +kernel
theorem dX9_of_142 : decode cX9_of 142 = .ok (.getfield 71, 3) := by decide +kernel
theorem dX9_of_145 : decode cX9_of 145 = .ok (.iconst 0, 1) := by decide +kernel
theorem dX9_of_146 : decode cX9_of 146 = .ok (.invokevirtual 78, 3) := by decide +kernel
theorem dX9_of_149 : decode cX9_of 149 = .ok (.ireturn, 1) := by decide +kernel
theorem dX9_of_150 : decode cX9_of 150 = .ok (.iconst (-1), 1) := by decide +kernel
theorem dX9_of_151 : decode cX9_of 151 = .ok (.ireturn, 1) := by decide +kernel
theorem dX9_wall_0 : decode cX9_wall 0 = .ok (.iload_n 1, 1) := by decide +kernel
theorem dX9_wall_1 : decode cX9_wall 1 = .ok (.tableswitch 55 0 3 #[31, 37, 43, 49], 31) := by decide +kernel
theorem dX9_wall_32 : decode cX9_wall 32 = .ok (.aload_n 0, 1) := by decide +kernel
theorem dX9_wall_33 : decode cX9_wall 33 = .ok (.iload_n 2, 1) := by decide +kernel
theorem dX9_wall_34 : decode cX9_wall 34 = .ok (.invokevirtual 82, 3) := by decide +kernel
theorem dX9_wall_37 : decode cX9_wall 37 = .ok (.ireturn, 1) := by decide +kernel
theorem dX9_wall_38 : decode cX9_wall 38 = .ok (.aload_n 0, 1) := by decide +kernel
theorem dX9_wall_39 : decode cX9_wall 39 = .ok (.iload_n 2, 1) := by decide +kernel
theorem dX9_wall_40 : decode cX9_wall 40 = .ok (.invokevirtual 86, 3) := by decide +kernel
theorem dX9_wall_43 : decode cX9_wall 43 = .ok (.ireturn, 1) := by decide +kernel
theorem dX9_wall_44 : decode cX9_wall 44 = .ok (.aload_n 0, 1) := by decide +kernel
theorem dX9_wall_45 : decode cX9_wall 45 = .ok (.iload_n 2, 1) := by decide +kernel
theorem dX9_wall_46 : decode cX9_wall 46 = .ok (.invokevirtual 89, 3) := by decide +kernel
theorem dX9_wall_49 : decode cX9_wall 49 = .ok (.ireturn, 1) := by decide +kernel
theorem dX9_wall_50 : decode cX9_wall 50 = .ok (.aload_n 0, 1) := by decide +kernel
theorem dX9_wall_51 : decode cX9_wall 51 = .ok (.iload_n 2, 1) := by decide +kernel
theorem dX9_wall_52 : decode cX9_wall 52 = .ok (.invokevirtual 92, 3) := by decide +kernel
theorem dX9_wall_55 : decode cX9_wall 55 = .ok (.ireturn, 1) := by decide +kernel
theorem dX9_wall_56 : decode cX9_wall 56 = .ok (.iconst (-1), 1) := by decide +kernel
theorem dX9_wall_57 : decode cX9_wall 57 = .ok (.ireturn, 1) := by decide +kernel
theorem dX9_changeStones_0 : decode cX9_changeStones 0 = .ok (.iload_n 1, 1) := by decide +kernel
theorem dX9_changeStones_1 : decode cX9_changeStones 1 = .ok (.iconst 1, 1) := by decide +kernel
theorem dX9_changeStones_2 : decode cX9_changeStones 2 = .ok (.sipush 200, 3) := by decide +kernel
theorem dX9_changeStones_5 : decode cX9_changeStones 5 = .ok (.invokestatic 40, 3) := by decide +kernel
theorem dX9_changeStones_8 : decode cX9_changeStones 8 = .ok (.ifCond .ne 5, 3) := by decide +kernel
theorem dX9_changeStones_11 : decode cX9_changeStones 11 = .ok (.iconst (-1), 1) := by decide +kernel
theorem dX9_changeStones_12 : decode cX9_changeStones 12 = .ok (.ireturn, 1) := by decide +kernel
theorem dX9_changeStones_13 : decode cX9_changeStones 13 = .ok (.iload_n 1, 1) := by decide +kernel
theorem dX9_changeStones_14 : decode cX9_changeStones 14 = .ok (.aload_n 0, 1) := by decide +kernel
theorem dX9_changeStones_15 : decode cX9_changeStones 15 = .ok (.getfield 10, 3) := by decide +kernel
theorem dX9_changeStones_18 : decode cX9_changeStones 18 = .ok (.getfield 71, 3) := by decide +kernel
theorem dX9_changeStones_21 : decode cX9_changeStones 21 = .ok (.if_icmp .ge 6, 3) := by decide +kernel
theorem dX9_changeStones_24 : decode cX9_changeStones 24 = .ok (.bipush (-2), 2) := by decide +kernel
theorem dX9_changeStones_26 : decode cX9_changeStones 26 = .ok (.ireturn, 1) := by decide +kernel
theorem dX9_changeStones_27 : decode cX9_changeStones 27 = .ok (.aload_n 0, 1) := by decide +kernel
theorem dX9_changeStones_28 : decode cX9_changeStones 28 = .ok (.getfield 10, 3) := by decide +kernel
theorem dX9_changeStones_31 : decode cX9_changeStones 31 = .ok (.getfield 95, 3) := by decide +kernel
theorem dX9_changeStones_34 : decode cX9_changeStones 34 = .ok (.istore_n 2, 1) := by decide +kernel
theorem dX9_changeStones_35 : decode cX9_changeStones 35 = .ok (.aload_n 0, 1) := by decide +kernel
theorem dX9_changeStones_36 : decode cX9_changeStones 36 = .ok (.getfield 10, 3) := by decide +kernel
theorem dX9_changeStones_39 : decode cX9_changeStones 39 = .ok (.iload_n 1, 1) := by decide +kernel
theorem dX9_changeStones_40 : decode cX9_changeStones 40 = .ok (.putfield 95, 3) := by decide +kernel
theorem dX9_changeStones_43 : decode cX9_changeStones 43 = .ok (.iload_n 2, 1) := by decide +kernel
theorem dX9_changeStones_44 : decode cX9_changeStones 44 = .ok (.ireturn, 1) := by decide +kernel
theorem dX9_changeDays_0 : decode cX9_changeDays 0 = .ok (.iload_n 1, 1) := by decide +kernel
theorem dX9_changeDays_1 : decode cX9_changeDays 1 = .ok (.iconst 1, 1) := by decide +kernel
theorem dX9_changeDays_2 : decode cX9_changeDays 2 = .ok (.bipush 40, 2) := by decide +kernel
theorem dX9_changeDays_4 : decode cX9_changeDays 4 = .ok (.invokestatic 40, 3) := by decide +kernel
theorem dX9_changeDays_7 : decode cX9_changeDays 7 = .ok (.ifCond .ne 5, 3) := by decide +kernel
theorem dX9_changeDays_10 : decode cX9_changeDays 10 = .ok (.iconst (-1), 1) := by decide +kernel
theorem dX9_changeDays_11 : decode cX9_changeDays 11 = .ok (.ireturn, 1) := by decide +kernel
theorem dX9_changeDays_12 : decode cX9_changeDays 12 = .ok (.iload_n 1, 1) := by decide +kernel
theorem dX9_changeDays_13 : decode cX9_changeDays 13 = .ok (.aload_n 0, 1) := by decide +kernel
theorem dX9_changeDays_14 : decode cX9_changeDays 14 = .ok (.getfield 10, 3) := by decide +kernel
theorem dX9_changeDays_17 : decode cX9_changeDays 17 = .ok (.getfield 98, 3) := by decide +kernel
theorem dX9_changeDays_20 : decode cX9_changeDays 20 = .ok (.if_icmp .ge 6, 3) := by decide +kernel
theorem dX9_changeDays_23 : decode cX9_changeDays 23 = .ok (.bipush (-2), 2) := by decide +kernel
theorem dX9_changeDays_25 : decode cX9_changeDays 25 = .ok (.ireturn, 1) := by decide +kernel
theorem dX9_changeDays_26 : decode cX9_changeDays 26 = .ok (.aload_n 0, 1) := by decide +kernel
theorem dX9_changeDays_27 : decode cX9_changeDays 27 = .ok (.getfield 10, 3) := by decide +kernel
theorem dX9_changeDays_30 : decode cX9_changeDays 30 = .ok (.getfield 101, 3) := by decide +kernel
theorem dX9_changeDays_33 : decode cX9_changeDays 33 = .ok (.istore_n 2, 1) := by decide +kernel
theorem dX9_changeDays_34 : decode cX9_changeDays 34 = .ok (.aload_n 0, 1) := by decide +kernel
theorem dX9_changeDays_35 : decode cX9_changeDays 35 = .ok (.getfield 10, 3) := by decide +kernel
theorem dX9_changeDays_38 : decode cX9_changeDays 38 = .ok (.iload_n 1, 1) := by decide +kernel
theorem dX9_changeDays_39 : decode cX9_changeDays 39 = .ok (.putfield 101, 3) := by decide +kernel
theorem dX9_changeDays_42 : decode cX9_changeDays 42 = .ok (.iload_n 2, 1) := by decide +kernel
theorem dX9_changeDays_43 : decode cX9_changeDays 43 = .ok (.ireturn, 1) := by decide +kernel
theorem dX9_changeFrost_0 : decode cX9_changeFrost 0 = .ok (.iload_n 1, 1) := by decide +kernel
theorem dX9_changeFrost_1 : decode cX9_changeFrost 1 = .ok (.iconst 0, 1) := by decide +kernel
theorem dX9_changeFrost_2 : decode cX9_changeFrost 2 = .ok (.bipush 10, 2) := by decide +kernel
theorem dX9_changeFrost_4 : decode cX9_changeFrost 4 = .ok (.invokestatic 40, 3) := by decide +kernel
theorem dX9_changeFrost_7 : decode cX9_changeFrost 7 = .ok (.ifCond .ne 5, 3) := by decide +kernel
theorem dX9_changeFrost_10 : decode cX9_changeFrost 10 = .ok (.iconst (-1), 1) := by decide +kernel
theorem dX9_changeFrost_11 : decode cX9_changeFrost 11 = .ok (.ireturn, 1) := by decide +kernel
theorem dX9_changeFrost_12 : decode cX9_changeFrost 12 = .ok (.iload_n 1, 1) := by decide +kernel
theorem dX9_changeFrost_13 : decode cX9_changeFrost 13 = .ok (.aload_n 0, 1) := by decide +kernel
theorem dX9_changeFrost_14 : decode cX9_changeFrost 14 = .ok (.getfield 10, 3) := by decide +kernel
theorem dX9_changeFrost_17 : decode cX9_changeFrost 17 = .ok (.getfield 104, 3) := by decide +kernel
theorem dX9_changeFrost_20 : decode cX9_changeFrost 20 = .ok (.iadd, 1) := by decide +kernel
theorem dX9_changeFrost_21 : decode cX9_changeFrost 21 = .ok (.bipush 10, 2) := by decide +kernel
theorem dX9_changeFrost_23 : decode cX9_changeFrost 23 = .ok (.if_icmp .le 6, 3) := by decide +kernel
theorem dX9_changeFrost_26 : decode cX9_changeFrost 26 = .ok (.bipush (-2), 2) := by decide +kernel
theorem dX9_changeFrost_28 : decode cX9_changeFrost 28 = .ok (.ireturn, 1) := by decide +kernel
theorem dX9_changeFrost_29 : decode cX9_changeFrost 29 = .ok (.aload_n 0, 1) := by decide +kernel
theorem dX9_changeFrost_30 : decode cX9_changeFrost 30 = .ok (.getfield 10, 3) := by decide +kernel
theorem dX9_changeFrost_33 : decode cX9_changeFrost 33 = .ok (.getfield 107, 3) := by decide +kernel
theorem dX9_changeFrost_36 : decode cX9_changeFrost 36 = .ok (.istore_n 2, 1) := by decide +kernel
theorem dX9_changeFrost_37 : decode cX9_changeFrost 37 = .ok (.aload_n 0, 1) := by decide +kernel
theorem dX9_changeFrost_38 : decode cX9_changeFrost 38 = .ok (.getfield 10, 3) := by decide +kernel
theorem dX9_changeFrost_41 : decode cX9_changeFrost 41 = .ok (.iload_n 1, 1) := by decide +kernel
theorem dX9_changeFrost_42 : decode cX9_changeFrost 42 = .ok (.putfield 107, 3) := by decide +kernel
theorem dX9_changeFrost_45 : decode cX9_changeFrost 45 = .ok (.iload_n 2, 1) := by decide +kernel
theorem dX9_changeFrost_46 : decode cX9_changeFrost 46 = .ok (.ireturn, 1) := by decide +kernel
theorem dX9_changeThaw_0 : decode cX9_changeThaw 0 = .ok (.iload_n 1, 1) := by decide +kernel
theorem dX9_changeThaw_1 : decode cX9_changeThaw 1 = .ok (.iconst 0, 1) := by decide +kernel
theorem dX9_changeThaw_2 : decode cX9_changeThaw 2 = .ok (.bipush 10, 2) := by decide +kernel
theorem dX9_changeThaw_4 : decode cX9_changeThaw 4 = .ok (.invokestatic 40, 3) := by decide +kernel
theorem dX9_changeThaw_7 : decode cX9_changeThaw 7 = .ok (.ifCond .ne 5, 3) := by decide +kernel
theorem dX9_changeThaw_10 : decode cX9_changeThaw 10 = .ok (.iconst (-1), 1) := by decide +kernel
theorem dX9_changeThaw_11 : decode cX9_changeThaw 11 = .ok (.ireturn, 1) := by decide +kernel
theorem dX9_changeThaw_12 : decode cX9_changeThaw 12 = .ok (.aload_n 0, 1) := by decide +kernel
theorem dX9_changeThaw_13 : decode cX9_changeThaw 13 = .ok (.getfield 10, 3) := by decide +kernel
theorem dX9_changeThaw_16 : decode cX9_changeThaw 16 = .ok (.getfield 107, 3) := by decide +kernel
theorem dX9_changeThaw_19 : decode cX9_changeThaw 19 = .ok (.iload_n 1, 1) := by decide +kernel
theorem dX9_changeThaw_20 : decode cX9_changeThaw 20 = .ok (.iadd, 1) := by decide +kernel
theorem dX9_changeThaw_21 : decode cX9_changeThaw 21 = .ok (.bipush 10, 2) := by decide +kernel
theorem dX9_changeThaw_23 : decode cX9_changeThaw 23 = .ok (.if_icmp .le 6, 3) := by decide +kernel
theorem dX9_changeThaw_26 : decode cX9_changeThaw 26 = .ok (.bipush (-2), 2) := by decide +kernel
theorem dX9_changeThaw_28 : decode cX9_changeThaw 28 = .ok (.ireturn, 1) := by decide +kernel
theorem dX9_changeThaw_29 : decode cX9_changeThaw 29 = .ok (.aload_n 0, 1) := by decide +kernel
theorem dX9_changeThaw_30 : decode cX9_changeThaw 30 = .ok (.getfield 10, 3) := by decide +kernel
theorem dX9_changeThaw_33 : decode cX9_changeThaw 33 = .ok (.getfield 104, 3) := by decide +kernel
theorem dX9_changeThaw_36 : decode cX9_changeThaw 36 = .ok (.istore_n 2, 1) := by decide +kernel
theorem dX9_changeThaw_37 : decode cX9_changeThaw 37 = .ok (.aload_n 0, 1) := by decide +kernel
theorem dX9_changeThaw_38 : decode cX9_changeThaw 38 = .ok (.getfield 10, 3) := by decide +kernel
theorem dX9_changeThaw_41 : decode cX9_changeThaw 41 = .ok (.iload_n 1, 1) := by decide +kernel
theorem dX9_changeThaw_42 : decode cX9_changeThaw 42 = .ok (.putfield 104, 3) := by decide +kernel
theorem dX9_changeThaw_45 : decode cX9_changeThaw 45 = .ok (.iload_n 2, 1) := by decide +kernel
theorem dX9_changeThaw_46 : decode cX9_changeThaw 46 = .ok (.ireturn, 1) := by decide +kernel
theorem dX9_hindrance_0 : decode cX9_hindrance 0 = .ok (.iload_n 1, 1) := by decide +kernel
theorem dX9_hindrance_1 : decode cX9_hindrance 1 = .ok (.iconst 1, 1) := by decide +kernel
theorem dX9_hindrance_2 : decode cX9_hindrance 2 = .ok (.bipush 9, 2) := by decide +kernel
theorem dX9_hindrance_4 : decode cX9_hindrance 4 = .ok (.invokestatic 40, 3) := by decide +kernel
theorem dX9_hindrance_7 : decode cX9_hindrance 7 = .ok (.ifCond .eq 18, 3) := by decide +kernel
theorem dX9_hindrance_10 : decode cX9_hindrance 10 = .ok (.iload_n 2, 1) := by decide +kernel
theorem dX9_hindrance_11 : decode cX9_hindrance 11 = .ok (.bipush (-4), 2) := by decide +kernel
theorem dX9_hindrance_13 : decode cX9_hindrance 13 = .ok (.if_icmp .eq 14, 3) := by decide +kernel
theorem dX9_hindrance_16 : decode cX9_hindrance 16 = .ok (.iload_n 2, 1) := by decide +kernel
theorem dX9_hindrance_17 : decode cX9_hindrance 17 = .ok (.iconst 0, 1) := by decide +kernel
theorem dX9_hindrance_18 : decode cX9_hindrance 18 = .ok (.iconst 3, 1) := by decide +kernel
theorem dX9_hindrance_19 : decode cX9_hindrance 19 = .ok (.invokestatic 40, 3) := by decide +kernel
theorem dX9_hindrance_22 : decode cX9_hindrance 22 = .ok (.ifCond .ne 5, 3) := by decide +kernel
theorem dX9_hindrance_25 : decode cX9_hindrance 25 = .ok (.iconst (-1), 1) := by decide +kernel
theorem dX9_hindrance_26 : decode cX9_hindrance 26 = .ok (.ireturn, 1) := by decide +kernel
theorem dX9_hindrance_27 : decode cX9_hindrance 27 = .ok (.aload_n 0, 1) := by decide +kernel
theorem dX9_hindrance_28 : decode cX9_hindrance 28 = .ok (.getfield 10, 3) := by decide +kernel
theorem dX9_hindrance_31 : decode cX9_hindrance 31 = .ok (.getfield 110, 3) := by decide +kernel
theorem dX9_hindrance_34 : decode cX9_hindrance 34 = .ok (.bipush 6, 2) := by decide +kernel
theorem dX9_hindrance_36 : decode cX9_hindrance 36 = .ok (.if_icmp .lt 6, 3) := by decide +kernel
theorem dX9_hindrance_39 : decode cX9_hindrance 39 = .ok (.bipush (-3), 2) := by decide +kernel
theorem dX9_hindrance_41 : decode cX9_hindrance 41 = .ok (.ireturn, 1) := by decide +kernel
theorem dX9_hindrance_42 : decode cX9_hindrance 42 = .ok (.aload_n 0, 1) := by decide +kernel
theorem dX9_hindrance_43 : decode cX9_hindrance 43 = .ok (.getfield 10, 3) := by decide +kernel
theorem dX9_hindrance_46 : decode cX9_hindrance 46 = .ok (.iload_n 1, 1) := by decide +kernel
theorem dX9_hindrance_47 : decode cX9_hindrance 47 = .ok (.iload_n 2, 1) := by decide +kernel
theorem dX9_hindrance_48 : decode cX9_hindrance 48 = .ok (.invokevirtual 113, 3) := by decide +kernel
theorem dX9_hindrance_51 : decode cX9_hindrance 51 = .ok (.aload_n 0, 1) := by decide +kernel
theorem dX9_hindrance_52 : decode cX9_hindrance 52 = .ok (.getfield 10, 3) := by decide +kernel
theorem dX9_hindrance_55 : decode cX9_hindrance 55 = .ok (.iconst 0, 1) := by decide +kernel
theorem dX9_hindrance_56 : decode cX9_hindrance 56 = .ok (.putfield 52, 3) := by decide +kernel
theorem dX9_hindrance_59 : decode cX9_hindrance 59 = .ok (.aload_n 0, 1) := by decide +kernel
theorem dX9_hindrance_60 : decode cX9_hindrance 60 = .ok (.getfield 10, 3) := by decide +kernel
theorem dX9_hindrance_63 : decode cX9_hindrance 63 = .ok (.getfield 110, 3) := by decide +kernel
theorem dX9_hindrance_66 : decode cX9_hindrance 66 = .ok (.iconst 1, 1) := by decide +kernel
theorem dX9_hindrance_67 : decode cX9_hindrance 67 = .ok (.isub, 1) := by decide +kernel
theorem dX9_hindrance_68 : decode cX9_hindrance 68 = .ok (.ireturn, 1) := by decide +kernel
theorem dX9_oath_0 : decode cX9_oath 0 = .ok (.iload_n 1, 1) := by decide +kernel
theorem dX9_oath_1 : decode cX9_oath 1 = .ok (.iconst 0, 1) := by decide +kernel
theorem dX9_oath_2 : decode cX9_oath 2 = .ok (.iconst 3, 1) := by decide +kernel
theorem dX9_oath_3 : decode cX9_oath 3 = .ok (.invokestatic 40, 3) := by decide +kernel
theorem dX9_oath_6 : decode cX9_oath 6 = .ok (.ifCond .eq 12, 3) := by decide +kernel
theorem dX9_oath_9 : decode cX9_oath 9 = .ok (.iload_n 2, 1) := by decide +kernel
theorem dX9_oath_10 : decode cX9_oath 10 = .ok (.iconst 0, 1) := by decide +kernel
theorem dX9_oath_11 : decode cX9_oath 11 = .ok (.iconst 1, 1) := by decide +kernel
theorem dX9_oath_12 : decode cX9_oath 12 = .ok (.invokestatic 40, 3) := by decide +kernel
theorem dX9_oath_15 : decode cX9_oath 15 = .ok (.ifCond .ne 5, 3) := by decide +kernel
theorem dX9_oath_18 : decode cX9_oath 18 = .ok (.iconst (-1), 1) := by decide +kernel
theorem dX9_oath_19 : decode cX9_oath 19 = .ok (.ireturn, 1) := by decide +kernel
theorem dX9_oath_20 : decode cX9_oath 20 = .ok (.aload_n 0, 1) := by decide +kernel
theorem dX9_oath_21 : decode cX9_oath 21 = .ok (.getfield 10, 3) := by decide +kernel
theorem dX9_oath_24 : decode cX9_oath 24 = .ok (.getfield 117, 3) := by decide +kernel
theorem dX9_oath_27 : decode cX9_oath 27 = .ok (.iload_n 1, 1) := by decide +kernel
theorem dX9_oath_28 : decode cX9_oath 28 = .ok (.ishr, 1) := by decide +kernel
theorem dX9_oath_29 : decode cX9_oath 29 = .ok (.iconst 1, 1) := by decide +kernel
theorem dX9_oath_30 : decode cX9_oath 30 = .ok (.iand, 1) := by decide +kernel
theorem dX9_oath_31 : decode cX9_oath 31 = .ok (.istore_n 3, 1) := by decide +kernel
theorem dX9_oath_32 : decode cX9_oath 32 = .ok (.aload_n 0, 1) := by decide +kernel
theorem dX9_oath_33 : decode cX9_oath 33 = .ok (.getfield 10, 3) := by decide +kernel
theorem dX9_oath_36 : decode cX9_oath 36 = .ok (.aload_n 0, 1) := by decide +kernel
theorem dX9_oath_37 : decode cX9_oath 37 = .ok (.getfield 10, 3) := by decide +kernel
theorem dX9_oath_40 : decode cX9_oath 40 = .ok (.getfield 117, 3) := by decide +kernel
theorem dX9_oath_43 : decode cX9_oath 43 = .ok (.iconst 1, 1) := by decide +kernel
theorem dX9_oath_44 : decode cX9_oath 44 = .ok (.iload_n 1, 1) := by decide +kernel
theorem dX9_oath_45 : decode cX9_oath 45 = .ok (.ishl, 1) := by decide +kernel
theorem dX9_oath_46 : decode cX9_oath 46 = .ok (.iconst (-1), 1) := by decide +kernel
theorem dX9_oath_47 : decode cX9_oath 47 = .ok (.ixor, 1) := by decide +kernel
theorem dX9_oath_48 : decode cX9_oath 48 = .ok (.iand, 1) := by decide +kernel
theorem dX9_oath_49 : decode cX9_oath 49 = .ok (.iload_n 2, 1) := by decide +kernel
theorem dX9_oath_50 : decode cX9_oath 50 = .ok (.iload_n 1, 1) := by decide +kernel
theorem dX9_oath_51 : decode cX9_oath 51 = .ok (.ishl, 1) := by decide +kernel
theorem dX9_oath_52 : decode cX9_oath 52 = .ok (.ior, 1) := by decide +kernel
theorem dX9_oath_53 : decode cX9_oath 53 = .ok (.putfield 117, 3) := by decide +kernel
theorem dX9_oath_56 : decode cX9_oath 56 = .ok (.iload_n 3, 1) := by decide +kernel
theorem dX9_oath_57 : decode cX9_oath 57 = .ok (.ireturn, 1) := by decide +kernel
theorem dX9_type_0 : decode cX9_type 0 = .ok (.iload_n 1, 1) := by decide +kernel
theorem dX9_type_1 : decode cX9_type 1 = .ok (.bipush 32, 2) := by decide +kernel
theorem dX9_type_3 : decode cX9_type 3 = .ok (.bipush 126, 2) := by decide +kernel
theorem dX9_type_5 : decode cX9_type 5 = .ok (.invokestatic 40, 3) := by decide +kernel
theorem dX9_type_8 : decode cX9_type 8 = .ok (.ifCond .ne 5, 3) := by decide +kernel
theorem dX9_type_11 : decode cX9_type 11 = .ok (.iconst (-1), 1) := by decide +kernel
theorem dX9_type_12 : decode cX9_type 12 = .ok (.ireturn, 1) := by decide +kernel
theorem dX9_type_13 : decode cX9_type 13 = .ok (.aload_n 0, 1) := by decide +kernel
theorem dX9_type_14 : decode cX9_type 14 = .ok (.getfield 22, 3) := by decide +kernel
theorem dX9_type_17 : decode cX9_type 17 = .ok (.getfield 120, 3) := by decide +kernel
theorem dX9_type_20 : decode cX9_type 20 = .ok (.bipush 60, 2) := by decide +kernel
theorem dX9_type_22 : decode cX9_type 22 = .ok (.if_icmp .lt 6, 3) := by decide +kernel
theorem dX9_type_25 : decode cX9_type 25 = .ok (.bipush (-3), 2) := by decide +kernel
theorem dX9_type_27 : decode cX9_type 27 = .ok (.ireturn, 1) := by decide +kernel
theorem dX9_type_28 : decode cX9_type 28 = .ok (.aload_n 0, 1) := by decide +kernel
theorem dX9_type_29 : decode cX9_type 29 = .ok (.getfield 22, 3) := by decide +kernel
theorem dX9_type_32 : decode cX9_type 32 = .ok (.iload_n 1, 1) := by decide +kernel
theorem dX9_type_33 : decode cX9_type 33 = .ok (.i2c, 1) := by decide +kernel
theorem dX9_type_34 : decode cX9_type 34 = .ok (.invokevirtual 123, 3) := by decide +kernel
theorem dX9_type_37 : decode cX9_type 37 = .ok (.aload_n 0, 1) := by decide +kernel
theorem dX9_type_38 : decode cX9_type 38 = .ok (.getfield 22, 3) := by decide +kernel
theorem dX9_type_41 : decode cX9_type 41 = .ok (.getfield 120, 3) := by decide +kernel
theorem dX9_type_44 : decode cX9_type 44 = .ok (.ireturn, 1) := by decide +kernel
theorem dX9_bargain_0 : decode cX9_bargain 0 = .ok (.aload_n 0, 1) := by decide +kernel
theorem dX9_bargain_1 : decode cX9_bargain 1 = .ok (.getfield 22, 3) := by decide +kernel
theorem dX9_bargain_4 : decode cX9_bargain 4 = .ok (.invokevirtual 127, 3) := by decide +kernel
theorem dX9_bargain_7 : decode cX9_bargain 7 = .ok (.istore_n 1, 1) := by decide +kernel
theorem dX9_bargain_8 : decode cX9_bargain 8 = .ok (.aload_n 0, 1) := by decide +kernel
theorem dX9_bargain_9 : decode cX9_bargain 9 = .ok (.getfield 22, 3) := by decide +kernel
theorem dX9_bargain_12 : decode cX9_bargain 12 = .ok (.iconst 0, 1) := by decide +kernel
theorem dX9_bargain_13 : decode cX9_bargain 13 = .ok (.putfield 120, 3) := by decide +kernel
theorem dX9_bargain_16 : decode cX9_bargain 16 = .ok (.iload_n 1, 1) := by decide +kernel
theorem dX9_bargain_17 : decode cX9_bargain 17 = .ok (.ifCond .ne 14, 3) := by decide +kernel
theorem dX9_bargain_20 : decode cX9_bargain 20 = .ok (.bipush (-20), 2) := by decide +kernel
theorem dX9_bargain_22 : decode cX9_bargain 22 = .ok (.aload_n 0, 1) := by decide +kernel
theorem dX9_bargain_23 : decode cX9_bargain 23 = .ok (.getfield 22, 3) := by decide +kernel
theorem dX9_bargain_26 : decode cX9_bargain 26 = .ok (.getfield 131, 3) := by decide +kernel
theorem dX9_bargain_29 : decode cX9_bargain 29 = .ok (.isub, 1) := by decide +kernel
theorem dX9_bargain_30 : decode cX9_bargain 30 = .ok (.ireturn, 1) := by decide +kernel
theorem dX9_bargain_31 : decode cX9_bargain 31 = .ok (.aload_n 0, 1) := by decide +kernel
theorem dX9_bargain_32 : decode cX9_bargain 32 = .ok (.getfield 10, 3) := by decide +kernel
theorem dX9_bargain_35 : decode cX9_bargain 35 = .ok (.aload_n 0, 1) := by decide +kernel
theorem dX9_bargain_36 : decode cX9_bargain 36 = .ok (.getfield 22, 3) := by decide +kernel
theorem dX9_bargain_39 : decode cX9_bargain 39 = .ok (.invokevirtual 134, 3) := by decide +kernel
theorem dX9_bargain_42 : decode cX9_bargain 42 = .ok (.aload_n 0, 1) := by decide +kernel
theorem dX9_bargain_43 : decode cX9_bargain 43 = .ok (.getfield 10, 3) := by decide +kernel
theorem dX9_bargain_46 : decode cX9_bargain 46 = .ok (.getfield 44, 3) := by decide +kernel
theorem dX9_bargain_49 : decode cX9_bargain 49 = .ok (.ireturn, 1) := by decide +kernel
theorem dX9_count_0 : decode cX9_count 0 = .ok (.iload_n 1, 1) := by decide +kernel
theorem dX9_count_1 : decode cX9_count 1 = .ok (.tableswitch 171 0 12 #[67, 75, 83, 91, 99, 107, 115, 123, 131, 139, 147, 155, 163], 67) := by decide +kernel
theorem dX9_count_68 : decode cX9_count 68 = .ok (.aload_n 0, 1) := by decide +kernel
theorem dX9_count_69 : decode cX9_count 69 = .ok (.getfield 10, 3) := by decide +kernel
theorem dX9_count_72 : decode cX9_count 72 = .ok (.getfield 44, 3) := by decide +kernel
theorem dX9_count_75 : decode cX9_count 75 = .ok (.ireturn, 1) := by decide +kernel
theorem dX9_count_76 : decode cX9_count 76 = .ok (.aload_n 0, 1) := by decide +kernel
theorem dX9_count_77 : decode cX9_count 77 = .ok (.getfield 10, 3) := by decide +kernel
theorem dX9_count_80 : decode cX9_count 80 = .ok (.getfield 110, 3) := by decide +kernel
theorem dX9_count_83 : decode cX9_count 83 = .ok (.ireturn, 1) := by decide +kernel
theorem dX9_count_84 : decode cX9_count 84 = .ok (.aload_n 0, 1) := by decide +kernel
theorem dX9_count_85 : decode cX9_count 85 = .ok (.getfield 10, 3) := by decide +kernel
theorem dX9_count_88 : decode cX9_count 88 = .ok (.getfield 95, 3) := by decide +kernel
theorem dX9_count_91 : decode cX9_count 91 = .ok (.ireturn, 1) := by decide +kernel
theorem dX9_count_92 : decode cX9_count 92 = .ok (.aload_n 0, 1) := by decide +kernel
theorem dX9_count_93 : decode cX9_count 93 = .ok (.getfield 10, 3) := by decide +kernel
theorem dX9_count_96 : decode cX9_count 96 = .ok (.getfield 101, 3) := by decide +kernel
theorem dX9_count_99 : decode cX9_count 99 = .ok (.ireturn, 1) := by decide +kernel
theorem dX9_count_100 : decode cX9_count 100 = .ok (.aload_n 0, 1) := by decide +kernel
theorem dX9_count_101 : decode cX9_count 101 = .ok (.getfield 10, 3) := by decide +kernel
theorem dX9_count_104 : decode cX9_count 104 = .ok (.getfield 107, 3) := by decide +kernel
theorem dX9_count_107 : decode cX9_count 107 = .ok (.ireturn, 1) := by decide +kernel
theorem dX9_count_108 : decode cX9_count 108 = .ok (.aload_n 0, 1) := by decide +kernel
theorem dX9_count_109 : decode cX9_count 109 = .ok (.getfield 10, 3) := by decide +kernel
theorem dX9_count_112 : decode cX9_count 112 = .ok (.getfield 104, 3) := by decide +kernel
theorem dX9_count_115 : decode cX9_count 115 = .ok (.ireturn, 1) := by decide +kernel
theorem dX9_count_116 : decode cX9_count 116 = .ok (.aload_n 0, 1) := by decide +kernel
theorem dX9_count_117 : decode cX9_count 117 = .ok (.getfield 10, 3) := by decide +kernel
theorem dX9_count_120 : decode cX9_count 120 = .ok (.getfield 98, 3) := by decide +kernel
theorem dX9_count_123 : decode cX9_count 123 = .ok (.ireturn, 1) := by decide +kernel
theorem dX9_count_124 : decode cX9_count 124 = .ok (.aload_n 0, 1) := by decide +kernel
theorem dX9_count_125 : decode cX9_count 125 = .ok (.getfield 10, 3) := by decide +kernel
theorem dX9_count_128 : decode cX9_count 128 = .ok (.getfield 71, 3) := by decide +kernel
theorem dX9_count_131 : decode cX9_count 131 = .ok (.ireturn, 1) := by decide +kernel
theorem dX9_count_132 : decode cX9_count 132 = .ok (.aload_n 0, 1) := by decide +kernel
theorem dX9_count_133 : decode cX9_count 133 = .ok (.getfield 10, 3) := by decide +kernel
theorem dX9_count_136 : decode cX9_count 136 = .ok (.getfield 138, 3) := by decide +kernel
theorem dX9_count_139 : decode cX9_count 139 = .ok (.ireturn, 1) := by decide +kernel
theorem dX9_count_140 : decode cX9_count 140 = .ok (.aload_n 0, 1) := by decide +kernel
theorem dX9_count_141 : decode cX9_count 141 = .ok (.getfield 10, 3) := by decide +kernel
theorem dX9_count_144 : decode cX9_count 144 = .ok (.invokevirtual 141, 3) := by decide +kernel
theorem dX9_count_147 : decode cX9_count 147 = .ok (.ireturn, 1) := by decide +kernel
theorem dX9_count_148 : decode cX9_count 148 = .ok (.aload_n 0, 1) := by decide +kernel
theorem dX9_count_149 : decode cX9_count 149 = .ok (.getfield 10, 3) := by decide +kernel
theorem dX9_count_152 : decode cX9_count 152 = .ok (.getfield 144, 3) := by decide +kernel
theorem dX9_count_155 : decode cX9_count 155 = .ok (.ireturn, 1) := by decide +kernel
theorem dX9_count_156 : decode cX9_count 156 = .ok (.aload_n 0, 1) := by decide +kernel
theorem dX9_count_157 : decode cX9_count 157 = .ok (.getfield 10, 3) := by decide +kernel
theorem dX9_count_160 : decode cX9_count 160 = .ok (.getfield 117, 3) := by decide +kernel
theorem dX9_count_163 : decode cX9_count 163 = .ok (.ireturn, 1) := by decide +kernel
theorem dX9_count_164 : decode cX9_count 164 = .ok (.aload_n 0, 1) := by decide +kernel
theorem dX9_count_165 : decode cX9_count 165 = .ok (.getfield 10, 3) := by decide +kernel
theorem dX9_count_168 : decode cX9_count 168 = .ok (.getfield 52, 3) := by decide +kernel
theorem dX9_count_171 : decode cX9_count 171 = .ok (.ireturn, 1) := by decide +kernel
theorem dX9_count_172 : decode cX9_count 172 = .ok (.iconst (-1), 1) := by decide +kernel
theorem dX9_count_173 : decode cX9_count 173 = .ok (.ireturn, 1) := by decide +kernel
theorem dX9_day_0 : decode cX9_day 0 = .ok (.iload_n 1, 1) := by decide +kernel
theorem dX9_day_1 : decode cX9_day 1 = .ok (.iconst 0, 1) := by decide +kernel
theorem dX9_day_2 : decode cX9_day 2 = .ok (.iconst 2, 1) := by decide +kernel
theorem dX9_day_3 : decode cX9_day 3 = .ok (.invokestatic 40, 3) := by decide +kernel
theorem dX9_day_6 : decode cX9_day 6 = .ok (.ifCond .ne 5, 3) := by decide +kernel
theorem dX9_day_9 : decode cX9_day 9 = .ok (.iconst (-1), 1) := by decide +kernel
theorem dX9_day_10 : decode cX9_day 10 = .ok (.ireturn, 1) := by decide +kernel
theorem dX9_day_11 : decode cX9_day 11 = .ok (.aload_n 0, 1) := by decide +kernel
theorem dX9_day_12 : decode cX9_day 12 = .ok (.getfield 10, 3) := by decide +kernel
theorem dX9_day_15 : decode cX9_day 15 = .ok (.invokevirtual 147, 3) := by decide +kernel
theorem dX9_day_18 : decode cX9_day 18 = .ok (.ifCond .eq 6, 3) := by decide +kernel
theorem dX9_day_21 : decode cX9_day 21 = .ok (.bipush (-3), 2) := by decide +kernel
theorem dX9_day_23 : decode cX9_day 23 = .ok (.ireturn, 1) := by decide +kernel
theorem dX9_day_24 : decode cX9_day 24 = .ok (.aload_n 0, 1) := by decide +kernel
theorem dX9_day_25 : decode cX9_day 25 = .ok (.getfield 10, 3) := by decide +kernel
theorem dX9_day_28 : decode cX9_day 28 = .ok (.invokevirtual 150, 3) := by decide +kernel
theorem dX9_day_31 : decode cX9_day 31 = .ok (.aload_n 0, 1) := by decide +kernel
theorem dX9_day_32 : decode cX9_day 32 = .ok (.getfield 10, 3) := by decide +kernel
theorem dX9_day_35 : decode cX9_day 35 = .ok (.iload_n 1, 1) := by decide +kernel
theorem dX9_day_36 : decode cX9_day 36 = .ok (.invokevirtual 153, 3) := by decide +kernel
theorem dX9_day_39 : decode cX9_day 39 = .ok (.ireturn, 1) := by decide +kernel
theorem dX9_use_0 : decode cX9_use 0 = .ok (.iload_n 1, 1) := by decide +kernel
theorem dX9_use_1 : decode cX9_use 1 = .ok (.iconst 0, 1) := by decide +kernel
theorem dX9_use_2 : decode cX9_use 2 = .ok (.aload_n 0, 1) := by decide +kernel
theorem dX9_use_3 : decode cX9_use 3 = .ok (.getfield 10, 3) := by decide +kernel
theorem dX9_use_6 : decode cX9_use 6 = .ok (.getfield 110, 3) := by decide +kernel
theorem dX9_use_9 : decode cX9_use 9 = .ok (.iconst 1, 1) := by decide +kernel
theorem dX9_use_10 : decode cX9_use 10 = .ok (.isub, 1) := by decide +kernel
theorem dX9_use_11 : decode cX9_use 11 = .ok (.invokestatic 40, 3) := by decide +kernel
theorem dX9_use_14 : decode cX9_use 14 = .ok (.ifCond .ne 5, 3) := by decide +kernel
theorem dX9_use_17 : decode cX9_use 17 = .ok (.iconst (-1), 1) := by decide +kernel
theorem dX9_use_18 : decode cX9_use 18 = .ok (.ireturn, 1) := by decide +kernel
theorem dX9_use_19 : decode cX9_use 19 = .ok (.aload_n 0, 1) := by decide +kernel
theorem dX9_use_20 : decode cX9_use 20 = .ok (.getfield 10, 3) := by decide +kernel
theorem dX9_use_23 : decode cX9_use 23 = .ok (.iload_n 1, 1) := by decide +kernel
theorem dX9_use_24 : decode cX9_use 24 = .ok (.invokevirtual 156, 3) := by decide +kernel
theorem dX9_use_27 : decode cX9_use 27 = .ok (.ifCond .eq 6, 3) := by decide +kernel
theorem dX9_use_30 : decode cX9_use 30 = .ok (.bipush (-2), 2) := by decide +kernel
theorem dX9_use_32 : decode cX9_use 32 = .ok (.ireturn, 1) := by decide +kernel
theorem dX9_use_33 : decode cX9_use 33 = .ok (.aload_n 0, 1) := by decide +kernel
theorem dX9_use_34 : decode cX9_use 34 = .ok (.getfield 10, 3) := by decide +kernel
theorem dX9_use_37 : decode cX9_use 37 = .ok (.invokevirtual 147, 3) := by decide +kernel
theorem dX9_use_40 : decode cX9_use 40 = .ok (.ifCond .eq 6, 3) := by decide +kernel
theorem dX9_use_43 : decode cX9_use 43 = .ok (.bipush (-3), 2) := by decide +kernel
theorem dX9_use_45 : decode cX9_use 45 = .ok (.ireturn, 1) := by decide +kernel
theorem dX9_use_46 : decode cX9_use 46 = .ok (.aload_n 0, 1) := by decide +kernel
theorem dX9_use_47 : decode cX9_use 47 = .ok (.getfield 10, 3) := by decide +kernel
theorem dX9_use_50 : decode cX9_use 50 = .ok (.invokevirtual 150, 3) := by decide +kernel
theorem dX9_use_53 : decode cX9_use 53 = .ok (.aload_n 0, 1) := by decide +kernel
theorem dX9_use_54 : decode cX9_use 54 = .ok (.getfield 10, 3) := by decide +kernel
theorem dX9_use_57 : decode cX9_use 57 = .ok (.iload_n 1, 1) := by decide +kernel
theorem dX9_use_58 : decode cX9_use 58 = .ok (.invokevirtual 160, 3) := by decide +kernel
theorem dX9_use_61 : decode cX9_use 61 = .ok (.aload_n 0, 1) := by decide +kernel
theorem dX9_use_62 : decode cX9_use 62 = .ok (.getfield 10, 3) := by decide +kernel
theorem dX9_use_65 : decode cX9_use 65 = .ok (.invokevirtual 141, 3) := by decide +kernel
theorem dX9_use_68 : decode cX9_use 68 = .ok (.ireturn, 1) := by decide +kernel
theorem dX9_drift_0 : decode cX9_drift 0 = .ok (.iload_n 1, 1) := by decide +kernel
theorem dX9_drift_1 : decode cX9_drift 1 = .ok (.iconst 1, 1) := by decide +kernel
theorem dX9_drift_2 : decode cX9_drift 2 = .ok (.bipush 40, 2) := by decide +kernel
theorem dX9_drift_4 : decode cX9_drift 4 = .ok (.invokestatic 40, 3) := by decide +kernel
theorem dX9_drift_7 : decode cX9_drift 7 = .ok (.ifCond .ne 5, 3) := by decide +kernel
theorem dX9_drift_10 : decode cX9_drift 10 = .ok (.iconst (-1), 1) := by decide +kernel
theorem dX9_drift_11 : decode cX9_drift 11 = .ok (.ireturn, 1) := by decide +kernel
theorem dX9_drift_12 : decode cX9_drift 12 = .ok (.aload_n 0, 1) := by decide +kernel
theorem dX9_drift_13 : decode cX9_drift 13 = .ok (.getfield 10, 3) := by decide +kernel
theorem dX9_drift_16 : decode cX9_drift 16 = .ok (.invokevirtual 147, 3) := by decide +kernel
theorem dX9_drift_19 : decode cX9_drift 19 = .ok (.ifCond .eq 6, 3) := by decide +kernel
theorem dX9_drift_22 : decode cX9_drift 22 = .ok (.bipush (-3), 2) := by decide +kernel
theorem dX9_drift_24 : decode cX9_drift 24 = .ok (.ireturn, 1) := by decide +kernel
theorem dX9_drift_25 : decode cX9_drift 25 = .ok (.iconst 0, 1) := by decide +kernel
theorem dX9_drift_26 : decode cX9_drift 26 = .ok (.istore_n 2, 1) := by decide +kernel
theorem dX9_drift_27 : decode cX9_drift 27 = .ok (.iconst 0, 1) := by decide +kernel
theorem dX9_drift_28 : decode cX9_drift 28 = .ok (.istore_n 3, 1) := by decide +kernel
theorem dX9_drift_29 : decode cX9_drift 29 = .ok (.iload_n 3, 1) := by decide +kernel
theorem dX9_drift_30 : decode cX9_drift 30 = .ok (.iload_n 1, 1) := by decide +kernel
theorem dX9_drift_31 : decode cX9_drift 31 = .ok (.if_icmp .ge 43, 3) := by decide +kernel
theorem dX9_drift_34 : decode cX9_drift 34 = .ok (.aload_n 0, 1) := by decide +kernel
theorem dX9_drift_35 : decode cX9_drift 35 = .ok (.getfield 10, 3) := by decide +kernel
theorem dX9_drift_38 : decode cX9_drift 38 = .ok (.invokevirtual 147, 3) := by decide +kernel
theorem dX9_drift_41 : decode cX9_drift 41 = .ok (.ifCond .ne 33, 3) := by decide +kernel
theorem dX9_drift_44 : decode cX9_drift 44 = .ok (.aload_n 0, 1) := by decide +kernel
theorem dX9_drift_45 : decode cX9_drift 45 = .ok (.getfield 10, 3) := by decide +kernel
theorem dX9_drift_48 : decode cX9_drift 48 = .ok (.invokevirtual 150, 3) := by decide +kernel
theorem dX9_drift_51 : decode cX9_drift 51 = .ok (.iload_n 2, 1) := by decide +kernel
theorem dX9_drift_52 : decode cX9_drift 52 = .ok (.aload_n 0, 1) := by decide +kernel
theorem dX9_drift_53 : decode cX9_drift 53 = .ok (.getfield 10, 3) := by decide +kernel
theorem dX9_drift_56 : decode cX9_drift 56 = .ok (.aload_n 0, 1) := by decide +kernel
theorem dX9_drift_57 : decode cX9_drift 57 = .ok (.getfield 10, 3) := by decide +kernel
theorem dX9_drift_60 : decode cX9_drift 60 = .ok (.invokevirtual 164, 3) := by decide +kernel
theorem dX9_drift_63 : decode cX9_drift 63 = .ok (.invokevirtual 153, 3) := by decide +kernel
theorem dX9_drift_66 : decode cX9_drift 66 = .ok (.iadd, 1) := by decide +kernel
theorem dX9_drift_67 : decode cX9_drift 67 = .ok (.istore_n 2, 1) := by decide +kernel
theorem dX9_drift_68 : decode cX9_drift 68 = .ok (.iinc 3 1, 3) := by decide +kernel
theorem dX9_drift_71 : decode cX9_drift 71 = .ok (.goto (-42), 3) := by decide +kernel
theorem dX9_drift_74 : decode cX9_drift 74 = .ok (.iload_n 2, 1) := by decide +kernel
theorem dX9_drift_75 : decode cX9_drift 75 = .ok (.ireturn, 1) := by decide +kernel
theorem dX9_undo_0 : decode cX9_undo 0 = .ok (.aload_n 0, 1) := by decide +kernel
theorem dX9_undo_1 : decode cX9_undo 1 = .ok (.getfield 10, 3) := by decide +kernel
theorem dX9_undo_4 : decode cX9_undo 4 = .ok (.getfield 52, 3) := by decide +kernel
theorem dX9_undo_7 : decode cX9_undo 7 = .ok (.ifCond .gt 6, 3) := by decide +kernel
theorem dX9_undo_10 : decode cX9_undo 10 = .ok (.bipush (-4), 2) := by decide +kernel
theorem dX9_undo_12 : decode cX9_undo 12 = .ok (.ireturn, 1) := by decide +kernel
theorem dX9_undo_13 : decode cX9_undo 13 = .ok (.aload_n 0, 1) := by decide +kernel
theorem dX9_undo_14 : decode cX9_undo 14 = .ok (.getfield 10, 3) := by decide +kernel
theorem dX9_undo_17 : decode cX9_undo 17 = .ok (.invokevirtual 167, 3) := by decide +kernel
theorem dX9_undo_20 : decode cX9_undo 20 = .ok (.aload_n 0, 1) := by decide +kernel
theorem dX9_undo_21 : decode cX9_undo 21 = .ok (.getfield 10, 3) := by decide +kernel
theorem dX9_undo_24 : decode cX9_undo 24 = .ok (.getfield 52, 3) := by decide +kernel
theorem dX9_undo_27 : decode cX9_undo 27 = .ok (.ireturn, 1) := by decide +kernel
theorem dX9_seed_0 : decode cX9_seed 0 = .ok (.iload_n 1, 1) := by decide +kernel
theorem dX9_seed_1 : decode cX9_seed 1 = .ok (.ifCond .ge 5, 3) := by decide +kernel
theorem dX9_seed_4 : decode cX9_seed 4 = .ok (.iconst (-1), 1) := by decide +kernel
theorem dX9_seed_5 : decode cX9_seed 5 = .ok (.ireturn, 1) := by decide +kernel
theorem dX9_seed_6 : decode cX9_seed 6 = .ok (.aload_n 0, 1) := by decide +kernel
theorem dX9_seed_7 : decode cX9_seed 7 = .ok (.getfield 10, 3) := by decide +kernel
theorem dX9_seed_10 : decode cX9_seed 10 = .ok (.getfield 170, 3) := by decide +kernel
theorem dX9_seed_13 : decode cX9_seed 13 = .ok (.istore_n 2, 1) := by decide +kernel
theorem dX9_seed_14 : decode cX9_seed 14 = .ok (.aload_n 0, 1) := by decide +kernel
theorem dX9_seed_15 : decode cX9_seed 15 = .ok (.getfield 10, 3) := by decide +kernel
theorem dX9_seed_18 : decode cX9_seed 18 = .ok (.iload_n 1, 1) := by decide +kernel
theorem dX9_seed_19 : decode cX9_seed 19 = .ok (.putfield 170, 3) := by decide +kernel
theorem dX9_seed_22 : decode cX9_seed 22 = .ok (.iload_n 2, 1) := by decide +kernel
theorem dX9_seed_23 : decode cX9_seed 23 = .ok (.ireturn, 1) := by decide +kernel
theorem dX9_odds_0 : decode cX9_odds 0 = .ok (.aload_n 0, 1) := by decide +kernel
theorem dX9_odds_1 : decode cX9_odds 1 = .ok (.getfield 29, 3) := by decide +kernel
theorem dX9_odds_4 : decode cX9_odds 4 = .ok (.aload_n 0, 1) := by decide +kernel
theorem dX9_odds_5 : decode cX9_odds 5 = .ok (.getfield 10, 3) := by decide +kernel
theorem dX9_odds_8 : decode cX9_odds 8 = .ok (.iconst (-1), 1) := by decide +kernel
theorem dX9_odds_9 : decode cX9_odds 9 = .ok (.iconst 0, 1) := by decide +kernel
theorem dX9_odds_10 : decode cX9_odds 10 = .ok (.invokevirtual 173, 3) := by decide +kernel
theorem dX9_odds_13 : decode cX9_odds 13 = .ok (.ireturn, 1) := by decide +kernel
theorem dX9_oddsAt_0 : decode cX9_oddsAt 0 = .ok (.iload_n 1, 1) := by decide +kernel
theorem dX9_oddsAt_1 : decode cX9_oddsAt 1 = .ok (.iconst 0, 1) := by decide +kernel
theorem dX9_oddsAt_2 : decode cX9_oddsAt 2 = .ok (.aload_n 0, 1) := by decide +kernel
theorem dX9_oddsAt_3 : decode cX9_oddsAt 3 = .ok (.getfield 10, 3) := by decide +kernel
theorem dX9_oddsAt_6 : decode cX9_oddsAt 6 = .ok (.getfield 101, 3) := by decide +kernel
theorem dX9_oddsAt_9 : decode cX9_oddsAt 9 = .ok (.invokestatic 40, 3) := by decide +kernel
theorem dX9_oddsAt_12 : decode cX9_oddsAt 12 = .ok (.ifCond .eq 18, 3) := by decide +kernel
theorem dX9_oddsAt_15 : decode cX9_oddsAt 15 = .ok (.iload_n 2, 1) := by decide +kernel
theorem dX9_oddsAt_16 : decode cX9_oddsAt 16 = .ok (.iconst 0, 1) := by decide +kernel
theorem dX9_oddsAt_17 : decode cX9_oddsAt 17 = .ok (.aload_n 0, 1) := by decide +kernel
theorem dX9_oddsAt_18 : decode cX9_oddsAt 18 = .ok (.getfield 10, 3) := by decide +kernel
theorem dX9_oddsAt_21 : decode cX9_oddsAt 21 = .ok (.getfield 95, 3) := by decide +kernel
theorem dX9_oddsAt_24 : decode cX9_oddsAt 24 = .ok (.invokestatic 40, 3) := by decide +kernel
theorem dX9_oddsAt_27 : decode cX9_oddsAt 27 = .ok (.ifCond .ne 5, 3) := by decide +kernel
theorem dX9_oddsAt_30 : decode cX9_oddsAt 30 = .ok (.iconst (-1), 1) := by decide +kernel
theorem dX9_oddsAt_31 : decode cX9_oddsAt 31 = .ok (.ireturn, 1) := by decide +kernel
theorem dX9_oddsAt_32 : decode cX9_oddsAt 32 = .ok (.aload_n 0, 1) := by decide +kernel
theorem dX9_oddsAt_33 : decode cX9_oddsAt 33 = .ok (.getfield 29, 3) := by decide +kernel
theorem dX9_oddsAt_36 : decode cX9_oddsAt 36 = .ok (.aload_n 0, 1) := by decide +kernel
theorem dX9_oddsAt_37 : decode cX9_oddsAt 37 = .ok (.getfield 10, 3) := by decide +kernel
theorem dX9_oddsAt_40 : decode cX9_oddsAt 40 = .ok (.iload_n 1, 1) := by decide +kernel
theorem dX9_oddsAt_41 : decode cX9_oddsAt 41 = .ok (.iload_n 2, 1) := by decide +kernel
theorem dX9_oddsAt_42 : decode cX9_oddsAt 42 = .ok (.invokevirtual 177, 3) := by decide +kernel
theorem dX9_oddsAt_45 : decode cX9_oddsAt 45 = .ok (.ireturn, 1) := by decide +kernel
theorem dX9_sure_0 : decode cX9_sure 0 = .ok (.iload_n 1, 1) := by decide +kernel
theorem dX9_sure_1 : decode cX9_sure 1 = .ok (.iconst 0, 1) := by decide +kernel
theorem dX9_sure_2 : decode cX9_sure 2 = .ok (.ldc 180, 2) := by decide +kernel
theorem dX9_sure_4 : decode cX9_sure 4 = .ok (.invokestatic 40, 3) := by decide +kernel
theorem dX9_sure_7 : decode cX9_sure 7 = .ok (.ifCond .ne 5, 3) := by decide +kernel
theorem dX9_sure_10 : decode cX9_sure 10 = .ok (.iconst (-1), 1) := by decide +kernel
theorem dX9_sure_11 : decode cX9_sure 11 = .ok (.ireturn, 1) := by decide +kernel
theorem dX9_sure_12 : decode cX9_sure 12 = .ok (.aload_n 0, 1) := by decide +kernel
theorem dX9_sure_13 : decode cX9_sure 13 = .ok (.getfield 29, 3) := by decide +kernel
theorem dX9_sure_16 : decode cX9_sure 16 = .ok (.aload_n 0, 1) := by decide +kernel
theorem dX9_sure_17 : decode cX9_sure 17 = .ok (.getfield 10, 3) := by decide +kernel
theorem dX9_sure_20 : decode cX9_sure 20 = .ok (.iload_n 1, 1) := by decide +kernel
theorem dX9_sure_21 : decode cX9_sure 21 = .ok (.invokevirtual 181, 3) := by decide +kernel
theorem dX9_sure_24 : decode cX9_sure 24 = .ok (.ireturn, 1) := by decide +kernel
theorem dX9_pace_0 : decode cX9_pace 0 = .ok (.iload_n 1, 1) := by decide +kernel
theorem dX9_pace_1 : decode cX9_pace 1 = .ok (.iconst 0, 1) := by decide +kernel
theorem dX9_pace_2 : decode cX9_pace 2 = .ok (.aload_n 0, 1) := by decide +kernel
theorem dX9_pace_3 : decode cX9_pace 3 = .ok (.getfield 10, 3) := by decide +kernel
theorem dX9_pace_6 : decode cX9_pace 6 = .ok (.getfield 44, 3) := by decide +kernel
theorem dX9_pace_9 : decode cX9_pace 9 = .ok (.iconst 1, 1) := by decide +kernel
theorem dX9_pace_10 : decode cX9_pace 10 = .ok (.isub, 1) := by decide +kernel
theorem dX9_pace_11 : decode cX9_pace 11 = .ok (.invokestatic 40, 3) := by decide +kernel
theorem dX9_pace_14 : decode cX9_pace 14 = .ok (.ifCond .eq 13, 3) := by decide +kernel
theorem dX9_pace_17 : decode cX9_pace 17 = .ok (.iload_n 2, 1) := by decide +kernel
theorem dX9_pace_18 : decode cX9_pace 18 = .ok (.iconst 0, 1) := by decide +kernel
theorem dX9_pace_19 : decode cX9_pace 19 = .ok (.ldc 180, 2) := by decide +kernel
theorem dX9_pace_21 : decode cX9_pace 21 = .ok (.invokestatic 40, 3) := by decide +kernel
theorem dX9_pace_24 : decode cX9_pace 24 = .ok (.ifCond .ne 5, 3) := by decide +kernel
theorem dX9_pace_27 : decode cX9_pace 27 = .ok (.iconst (-1), 1) := by decide +kernel
theorem dX9_pace_28 : decode cX9_pace 28 = .ok (.ireturn, 1) := by decide +kernel
theorem dX9_pace_29 : decode cX9_pace 29 = .ok (.iconst 0, 1) := by decide +kernel
theorem dX9_pace_30 : decode cX9_pace 30 = .ok (.istore_n 3, 1) := by decide +kernel
theorem dX9_pace_31 : decode cX9_pace 31 = .ok (.bipush 16, 2) := by decide +kernel
theorem dX9_pace_33 : decode cX9_pace 33 = .ok (.istore 4, 2) := by decide +kernel
theorem dX9_pace_35 : decode cX9_pace 35 = .ok (.iload 4, 2) := by decide +kernel
theorem dX9_pace_37 : decode cX9_pace 37 = .ok (.ifCond .le 50, 3) := by decide +kernel
theorem dX9_pace_40 : decode cX9_pace 40 = .ok (.iload_n 3, 1) := by decide +kernel
theorem dX9_pace_41 : decode cX9_pace 41 = .ok (.iload 4, 2) := by decide +kernel
theorem dX9_pace_43 : decode cX9_pace 43 = .ok (.iadd, 1) := by decide +kernel
theorem dX9_pace_44 : decode cX9_pace 44 = .ok (.iconst 1, 1) := by decide +kernel
theorem dX9_pace_45 : decode cX9_pace 45 = .ok (.isub, 1) := by decide +kernel
theorem dX9_pace_46 : decode cX9_pace 46 = .ok (.istore 5, 2) := by decide +kernel
theorem dX9_pace_48 : decode cX9_pace 48 = .ok (.iload 5, 2) := by decide +kernel
theorem dX9_pace_50 : decode cX9_pace 50 = .ok (.bipush 20, 2) := by decide +kernel
theorem dX9_pace_52 : decode cX9_pace 52 = .ok (.if_icmp .gt 26, 3) := by decide +kernel
theorem dX9_pace_55 : decode cX9_pace 55 = .ok (.aload_n 0, 1) := by decide +kernel
theorem dX9_pace_56 : decode cX9_pace 56 = .ok (.getfield 29, 3) := by decide +kernel
theorem dX9_pace_59 : decode cX9_pace 59 = .ok (.aload_n 0, 1) := by decide +kernel
theorem dX9_pace_60 : decode cX9_pace 60 = .ok (.getfield 10, 3) := by decide +kernel
theorem dX9_pace_63 : decode cX9_pace 63 = .ok (.iload_n 1, 1) := by decide +kernel
theorem dX9_pace_64 : decode cX9_pace 64 = .ok (.iload 5, 2) := by decide +kernel
theorem dX9_pace_66 : decode cX9_pace 66 = .ok (.invokevirtual 173, 3) := by decide +kernel
theorem dX9_pace_69 : decode cX9_pace 69 = .ok (.iload_n 2, 1) := by decide +kernel
theorem dX9_pace_70 : decode cX9_pace 70 = .ok (.if_icmp .ge 8, 3) := by decide +kernel
theorem dX9_pace_73 : decode cX9_pace 73 = .ok (.iload_n 3, 1) := by decide +kernel
theorem dX9_pace_74 : decode cX9_pace 74 = .ok (.iload 4, 2) := by decide +kernel
theorem dX9_pace_76 : decode cX9_pace 76 = .ok (.iadd, 1) := by decide +kernel
theorem dX9_pace_77 : decode cX9_pace 77 = .ok (.istore_n 3, 1) := by decide +kernel
theorem dX9_pace_78 : decode cX9_pace 78 = .ok (.iload 4, 2) := by decide +kernel
theorem dX9_pace_80 : decode cX9_pace 80 = .ok (.iconst 2, 1) := by decide +kernel
theorem dX9_pace_81 : decode cX9_pace 81 = .ok (.idiv, 1) := by decide +kernel
theorem dX9_pace_82 : decode cX9_pace 82 = .ok (.istore 4, 2) := by decide +kernel
theorem dX9_pace_84 : decode cX9_pace 84 = .ok (.goto (-49), 3) := by decide +kernel
theorem dX9_pace_87 : decode cX9_pace 87 = .ok (.iload_n 3, 1) := by decide +kernel
theorem dX9_pace_88 : decode cX9_pace 88 = .ok (.bipush 20, 2) := by decide +kernel
theorem dX9_pace_90 : decode cX9_pace 90 = .ok (.if_icmp .gt 7, 3) := by decide +kernel
theorem dX9_pace_93 : decode cX9_pace 93 = .ok (.iload_n 3, 1) := by decide +kernel
theorem dX9_pace_94 : decode cX9_pace 94 = .ok (.goto 5, 3) := by decide +kernel
theorem dX9_pace_97 : decode cX9_pace 97 = .ok (.bipush (-4), 2) := by decide +kernel
theorem dX9_pace_99 : decode cX9_pace 99 = .ok (.ireturn, 1) := by decide +kernel
theorem dX9_plan_0 : decode cX9_plan 0 = .ok (.iload_n 1, 1) := by decide +kernel
theorem dX9_plan_1 : decode cX9_plan 1 = .ok (.iconst 0, 1) := by decide +kernel
theorem dX9_plan_2 : decode cX9_plan 2 = .ok (.ldc 180, 2) := by decide +kernel
theorem dX9_plan_4 : decode cX9_plan 4 = .ok (.invokestatic 40, 3) := by decide +kernel
theorem dX9_plan_7 : decode cX9_plan 7 = .ok (.ifCond .eq 12, 3) := by decide +kernel
theorem dX9_plan_10 : decode cX9_plan 10 = .ok (.iload_n 2, 1) := by decide +kernel
theorem dX9_plan_11 : decode cX9_plan 11 = .ok (.iconst 0, 1) := by decide +kernel
theorem dX9_plan_12 : decode cX9_plan 12 = .ok (.iconst 1, 1) := by decide +kernel
theorem dX9_plan_13 : decode cX9_plan 13 = .ok (.invokestatic 40, 3) := by decide +kernel
theorem dX9_plan_16 : decode cX9_plan 16 = .ok (.ifCond .ne 5, 3) := by decide +kernel
theorem dX9_plan_19 : decode cX9_plan 19 = .ok (.iconst (-1), 1) := by decide +kernel
theorem dX9_plan_20 : decode cX9_plan 20 = .ok (.ireturn, 1) := by decide +kernel
theorem dX9_plan_21 : decode cX9_plan 21 = .ok (.aload_n 0, 1) := by decide +kernel
theorem dX9_plan_22 : decode cX9_plan 22 = .ok (.getfield 29, 3) := by decide +kernel
theorem dX9_plan_25 : decode cX9_plan 25 = .ok (.aload_n 0, 1) := by decide +kernel
theorem dX9_plan_26 : decode cX9_plan 26 = .ok (.getfield 10, 3) := by decide +kernel
theorem dX9_plan_29 : decode cX9_plan 29 = .ok (.iload_n 1, 1) := by decide +kernel
theorem dX9_plan_30 : decode cX9_plan 30 = .ok (.invokevirtual 185, 3) := by decide +kernel
theorem dX9_plan_33 : decode cX9_plan 33 = .ok (.istore_n 3, 1) := by decide +kernel
theorem dX9_plan_34 : decode cX9_plan 34 = .ok (.iload_n 3, 1) := by decide +kernel
theorem dX9_plan_35 : decode cX9_plan 35 = .ok (.ifCond .ge 6, 3) := by decide +kernel
theorem dX9_plan_38 : decode cX9_plan 38 = .ok (.bipush (-4), 2) := by decide +kernel
theorem dX9_plan_40 : decode cX9_plan 40 = .ok (.ireturn, 1) := by decide +kernel
theorem dX9_plan_41 : decode cX9_plan 41 = .ok (.iload_n 2, 1) := by decide +kernel
theorem dX9_plan_42 : decode cX9_plan 42 = .ok (.ifCond .ne 10, 3) := by decide +kernel
theorem dX9_plan_45 : decode cX9_plan 45 = .ok (.iload_n 3, 1) := by decide +kernel
theorem dX9_plan_46 : decode cX9_plan 46 = .ok (.invokestatic 188, 3) := by decide +kernel
theorem dX9_plan_49 : decode cX9_plan 49 = .ok (.goto 4, 3) := by decide +kernel
theorem dX9_plan_52 : decode cX9_plan 52 = .ok (.iload_n 3, 1) := by decide +kernel
theorem dX9_plan_53 : decode cX9_plan 53 = .ok (.ireturn, 1) := by decide +kernel
theorem dX9_best_0 : decode cX9_best 0 = .ok (.iload_n 1, 1) := by decide +kernel
theorem dX9_best_1 : decode cX9_best 1 = .ok (.iconst 0, 1) := by decide +kernel
theorem dX9_best_2 : decode cX9_best 2 = .ok (.aload_n 0, 1) := by decide +kernel
theorem dX9_best_3 : decode cX9_best 3 = .ok (.getfield 10, 3) := by decide +kernel
theorem dX9_best_6 : decode cX9_best 6 = .ok (.getfield 110, 3) := by decide +kernel
theorem dX9_best_9 : decode cX9_best 9 = .ok (.iconst 1, 1) := by decide +kernel
theorem dX9_best_10 : decode cX9_best 10 = .ok (.isub, 1) := by decide +kernel
theorem dX9_best_11 : decode cX9_best 11 = .ok (.invokestatic 40, 3) := by decide +kernel
theorem dX9_best_14 : decode cX9_best 14 = .ok (.ifCond .eq 12, 3) := by decide +kernel
theorem dX9_best_17 : decode cX9_best 17 = .ok (.iload_n 2, 1) := by decide +kernel
theorem dX9_best_18 : decode cX9_best 18 = .ok (.iconst 0, 1) := by decide +kernel
theorem dX9_best_19 : decode cX9_best 19 = .ok (.iconst 1, 1) := by decide +kernel
theorem dX9_best_20 : decode cX9_best 20 = .ok (.invokestatic 40, 3) := by decide +kernel
theorem dX9_best_23 : decode cX9_best 23 = .ok (.ifCond .ne 5, 3) := by decide +kernel
theorem dX9_best_26 : decode cX9_best 26 = .ok (.iconst (-1), 1) := by decide +kernel
theorem dX9_best_27 : decode cX9_best 27 = .ok (.ireturn, 1) := by decide +kernel
theorem dX9_best_28 : decode cX9_best 28 = .ok (.aload_n 0, 1) := by decide +kernel
theorem dX9_best_29 : decode cX9_best 29 = .ok (.getfield 10, 3) := by decide +kernel
theorem dX9_best_32 : decode cX9_best 32 = .ok (.iload_n 1, 1) := by decide +kernel
theorem dX9_best_33 : decode cX9_best 33 = .ok (.invokevirtual 156, 3) := by decide +kernel
theorem dX9_best_36 : decode cX9_best 36 = .ok (.ifCond .eq 6, 3) := by decide +kernel
theorem dX9_best_39 : decode cX9_best 39 = .ok (.bipush (-2), 2) := by decide +kernel
theorem dX9_best_41 : decode cX9_best 41 = .ok (.ireturn, 1) := by decide +kernel
theorem dX9_best_42 : decode cX9_best 42 = .ok (.aload_n 0, 1) := by decide +kernel
theorem dX9_best_43 : decode cX9_best 43 = .ok (.getfield 10, 3) := by decide +kernel
theorem dX9_best_46 : decode cX9_best 46 = .ok (.invokevirtual 147, 3) := by decide +kernel
theorem dX9_best_49 : decode cX9_best 49 = .ok (.ifCond .eq 6, 3) := by decide +kernel
theorem dX9_best_52 : decode cX9_best 52 = .ok (.bipush (-4), 2) := by decide +kernel
theorem dX9_best_54 : decode cX9_best 54 = .ok (.ireturn, 1) := by decide +kernel
theorem dX9_best_55 : decode cX9_best 55 = .ok (.aload_n 0, 1) := by decide +kernel
theorem dX9_best_56 : decode cX9_best 56 = .ok (.getfield 29, 3) := by decide +kernel
theorem dX9_best_59 : decode cX9_best 59 = .ok (.aload_n 0, 1) := by decide +kernel
theorem dX9_best_60 : decode cX9_best 60 = .ok (.getfield 10, 3) := by decide +kernel
theorem dX9_best_63 : decode cX9_best 63 = .ok (.aload_n 0, 1) := by decide +kernel
theorem dX9_best_64 : decode cX9_best 64 = .ok (.getfield 10, 3) := by decide +kernel
theorem dX9_best_67 : decode cX9_best 67 = .ok (.iconst 1, 1) := by decide +kernel
theorem dX9_best_68 : decode cX9_best 68 = .ok (.iload_n 1, 1) := by decide +kernel
theorem dX9_best_69 : decode cX9_best 69 = .ok (.ishl, 1) := by decide +kernel
theorem dX9_best_70 : decode cX9_best 70 = .ok (.invokevirtual 193, 3) := by decide +kernel
theorem dX9_best_73 : decode cX9_best 73 = .ok (.invokevirtual 196, 3) := by decide +kernel
theorem dX9_best_76 : decode cX9_best 76 = .ok (.iload_n 2, 1) := by decide +kernel
theorem dX9_best_77 : decode cX9_best 77 = .ok (.ifCond .ne 13, 3) := by decide +kernel
theorem dX9_best_80 : decode cX9_best 80 = .ok (.aload_n 0, 1) := by decide +kernel
theorem dX9_best_81 : decode cX9_best 81 = .ok (.getfield 29, 3) := by decide +kernel
theorem dX9_best_84 : decode cX9_best 84 = .ok (.getfield 200, 3) := by decide +kernel
theorem dX9_best_87 : decode cX9_best 87 = .ok (.goto 10, 3) := by decide +kernel
theorem dX9_best_90 : decode cX9_best 90 = .ok (.aload_n 0, 1) := by decide +kernel
theorem dX9_best_91 : decode cX9_best 91 = .ok (.getfield 29, 3) := by decide +kernel
theorem dX9_best_94 : decode cX9_best 94 = .ok (.getfield 203, 3) := by decide +kernel
theorem dX9_best_97 : decode cX9_best 97 = .ok (.ireturn, 1) := by decide +kernel
theorem dX9_soonest_0 : decode cX9_soonest 0 = .ok (.iload_n 1, 1) := by decide +kernel
theorem dX9_soonest_1 : decode cX9_soonest 1 = .ok (.iconst 0, 1) := by decide +kernel
theorem dX9_soonest_2 : decode cX9_soonest 2 = .ok (.iconst 2, 1) := by decide +kernel
theorem dX9_soonest_3 : decode cX9_soonest 3 = .ok (.invokestatic 40, 3) := by decide +kernel
theorem dX9_soonest_6 : decode cX9_soonest 6 = .ok (.ifCond .ne 5, 3) := by decide +kernel
theorem dX9_soonest_9 : decode cX9_soonest 9 = .ok (.iconst (-1), 1) := by decide +kernel
theorem dX9_soonest_10 : decode cX9_soonest 10 = .ok (.ireturn, 1) := by decide +kernel
theorem dX9_soonest_11 : decode cX9_soonest 11 = .ok (.aload_n 0, 1) := by decide +kernel
theorem dX9_soonest_12 : decode cX9_soonest 12 = .ok (.getfield 10, 3) := by decide +kernel
theorem dX9_soonest_15 : decode cX9_soonest 15 = .ok (.getfield 71, 3) := by decide +kernel
theorem dX9_soonest_18 : decode cX9_soonest 18 = .ok (.istore_n 2, 1) := by decide +kernel
theorem dX9_soonest_19 : decode cX9_soonest 19 = .ok (.iconst 0, 1) := by decide +kernel
theorem dX9_soonest_20 : decode cX9_soonest 20 = .ok (.istore_n 3, 1) := by decide +kernel
theorem dX9_soonest_21 : decode cX9_soonest 21 = .ok (.iload_n 3, 1) := by decide +kernel
theorem dX9_soonest_22 : decode cX9_soonest 22 = .ok (.bipush 99, 2) := by decide +kernel
theorem dX9_soonest_24 : decode cX9_soonest 24 = .ok (.if_icmp .gt 47, 3) := by decide +kernel
theorem dX9_soonest_27 : decode cX9_soonest 27 = .ok (.iload_n 2, 1) := by decide +kernel
theorem dX9_soonest_28 : decode cX9_soonest 28 = .ok (.aload_n 0, 1) := by decide +kernel
theorem dX9_soonest_29 : decode cX9_soonest 29 = .ok (.getfield 10, 3) := by decide +kernel
theorem dX9_soonest_32 : decode cX9_soonest 32 = .ok (.getfield 95, 3) := by decide +kernel
theorem dX9_soonest_35 : decode cX9_soonest 35 = .ok (.if_icmp .lt 5, 3) := by decide +kernel
theorem dX9_soonest_38 : decode cX9_soonest 38 = .ok (.iload_n 3, 1) := by decide +kernel
theorem dX9_soonest_39 : decode cX9_soonest 39 = .ok (.ireturn, 1) := by decide +kernel
theorem dX9_soonest_40 : decode cX9_soonest 40 = .ok (.aload_n 0, 1) := by decide +kernel
theorem dX9_soonest_41 : decode cX9_soonest 41 = .ok (.getfield 10, 3) := by decide +kernel
theorem dX9_soonest_44 : decode cX9_soonest 44 = .ok (.iload_n 1, 1) := by decide +kernel
theorem dX9_soonest_45 : decode cX9_soonest 45 = .ok (.iload_n 2, 1) := by decide +kernel
theorem dX9_soonest_46 : decode cX9_soonest 46 = .ok (.iload_n 3, 1) := by decide +kernel
theorem dX9_soonest_47 : decode cX9_soonest 47 = .ok (.ifCond .ne 13, 3) := by decide +kernel
theorem dX9_soonest_50 : decode cX9_soonest 50 = .ok (.aload_n 0, 1) := by decide +kernel
theorem dX9_soonest_51 : decode cX9_soonest 51 = .ok (.getfield 10, 3) := by decide +kernel
theorem dX9_soonest_54 : decode cX9_soonest 54 = .ok (.invokevirtual 141, 3) := by decide +kernel
theorem dX9_soonest_57 : decode cX9_soonest 57 = .ok (.goto 4, 3) := by decide +kernel
theorem dX9_soonest_60 : decode cX9_soonest 60 = .ok (.iconst 0, 1) := by decide +kernel
theorem dX9_soonest_61 : decode cX9_soonest 61 = .ok (.invokevirtual 206, 3) := by decide +kernel
theorem dX9_soonest_64 : decode cX9_soonest 64 = .ok (.istore_n 2, 1) := by decide +kernel
theorem dX9_soonest_65 : decode cX9_soonest 65 = .ok (.iinc 3 1, 3) := by decide +kernel
theorem dX9_soonest_68 : decode cX9_soonest 68 = .ok (.goto (-47), 3) := by decide +kernel
theorem dX9_soonest_71 : decode cX9_soonest 71 = .ok (.bipush (-4), 2) := by decide +kernel
theorem dX9_soonest_73 : decode cX9_soonest 73 = .ok (.ireturn, 1) := by decide +kernel
theorem dX9_mean_0 : decode cX9_mean 0 = .ok (.iload_n 1, 1) := by decide +kernel
theorem dX9_mean_1 : decode cX9_mean 1 = .ok (.iconst 0, 1) := by decide +kernel
theorem dX9_mean_2 : decode cX9_mean 2 = .ok (.bipush 6, 2) := by decide +kernel
theorem dX9_mean_4 : decode cX9_mean 4 = .ok (.invokestatic 40, 3) := by decide +kernel
theorem dX9_mean_7 : decode cX9_mean 7 = .ok (.ifCond .eq 31, 3) := by decide +kernel
theorem dX9_mean_10 : decode cX9_mean 10 = .ok (.iload_n 1, 1) := by decide +kernel
theorem dX9_mean_11 : decode cX9_mean 11 = .ok (.aload_n 0, 1) := by decide +kernel
theorem dX9_mean_12 : decode cX9_mean 12 = .ok (.getfield 10, 3) := by decide +kernel
theorem dX9_mean_15 : decode cX9_mean 15 = .ok (.getfield 101, 3) := by decide +kernel
theorem dX9_mean_18 : decode cX9_mean 18 = .ok (.aload_n 0, 1) := by decide +kernel
theorem dX9_mean_19 : decode cX9_mean 19 = .ok (.getfield 10, 3) := by decide +kernel
theorem dX9_mean_22 : decode cX9_mean 22 = .ok (.getfield 98, 3) := by decide +kernel
theorem dX9_mean_25 : decode cX9_mean 25 = .ok (.isub, 1) := by decide +kernel
theorem dX9_mean_26 : decode cX9_mean 26 = .ok (.if_icmp .gt 12, 3) := by decide +kernel
theorem dX9_mean_29 : decode cX9_mean 29 = .ok (.iload_n 2, 1) := by decide +kernel
theorem dX9_mean_30 : decode cX9_mean 30 = .ok (.iconst 0, 1) := by decide +kernel
theorem dX9_mean_31 : decode cX9_mean 31 = .ok (.iconst 1, 1) := by decide +kernel
theorem dX9_mean_32 : decode cX9_mean 32 = .ok (.invokestatic 40, 3) := by decide +kernel
theorem dX9_mean_35 : decode cX9_mean 35 = .ok (.ifCond .ne 5, 3) := by decide +kernel
theorem dX9_mean_38 : decode cX9_mean 38 = .ok (.iconst (-1), 1) := by decide +kernel
theorem dX9_mean_39 : decode cX9_mean 39 = .ok (.ireturn, 1) := by decide +kernel
theorem dX9_mean_40 : decode cX9_mean 40 = .ok (.aload_n 0, 1) := by decide +kernel
theorem dX9_mean_41 : decode cX9_mean 41 = .ok (.getfield 29, 3) := by decide +kernel
theorem dX9_mean_44 : decode cX9_mean 44 = .ok (.aload_n 0, 1) := by decide +kernel
theorem dX9_mean_45 : decode cX9_mean 45 = .ok (.getfield 10, 3) := by decide +kernel
theorem dX9_mean_48 : decode cX9_mean 48 = .ok (.iload_n 1, 1) := by decide +kernel
theorem dX9_mean_49 : decode cX9_mean 49 = .ok (.invokevirtual 209, 3) := by decide +kernel
theorem dX9_mean_52 : decode cX9_mean 52 = .ok (.istore_n 3, 1) := by decide +kernel
theorem dX9_mean_53 : decode cX9_mean 53 = .ok (.iconst 1, 1) := by decide +kernel
theorem dX9_mean_54 : decode cX9_mean 54 = .ok (.istore 4, 2) := by decide +kernel
theorem dX9_mean_56 : decode cX9_mean 56 = .ok (.iconst 0, 1) := by decide +kernel
theorem dX9_mean_57 : decode cX9_mean 57 = .ok (.istore 5, 2) := by decide +kernel
theorem dX9_mean_59 : decode cX9_mean 59 = .ok (.iload 5, 2) := by decide +kernel
theorem dX9_mean_61 : decode cX9_mean 61 = .ok (.iload_n 1, 1) := by decide +kernel
theorem dX9_mean_62 : decode cX9_mean 62 = .ok (.if_icmp .ge 16, 3) := by decide +kernel
theorem dX9_mean_65 : decode cX9_mean 65 = .ok (.iload 4, 2) := by decide +kernel
theorem dX9_mean_67 : decode cX9_mean 67 = .ok (.bipush 10, 2) := by decide +kernel
theorem dX9_mean_69 : decode cX9_mean 69 = .ok (.imul, 1) := by decide +kernel
theorem dX9_mean_70 : decode cX9_mean 70 = .ok (.istore 4, 2) := by decide +kernel
theorem dX9_mean_72 : decode cX9_mean 72 = .ok (.iinc 5 1, 3) := by decide +kernel
theorem dX9_mean_75 : decode cX9_mean 75 = .ok (.goto (-16), 3) := by decide +kernel
theorem dX9_mean_78 : decode cX9_mean 78 = .ok (.iload_n 3, 1) := by decide +kernel
theorem dX9_mean_79 : decode cX9_mean 79 = .ok (.iload 4, 2) := by decide +kernel
theorem dX9_mean_81 : decode cX9_mean 81 = .ok (.invokestatic 212, 3) := by decide +kernel
theorem dX9_mean_84 : decode cX9_mean 84 = .ok (.istore 5, 2) := by decide +kernel
theorem dX9_mean_86 : decode cX9_mean 86 = .ok (.iload 5, 2) := by decide +kernel
theorem dX9_mean_88 : decode cX9_mean 88 = .ok (.ifCond .gt 5, 3) := by decide +kernel
theorem dX9_mean_91 : decode cX9_mean 91 = .ok (.iconst (-1), 1) := by decide +kernel
theorem dX9_mean_92 : decode cX9_mean 92 = .ok (.ireturn, 1) := by decide +kernel
theorem dX9_mean_93 : decode cX9_mean 93 = .ok (.iload_n 2, 1) := by decide +kernel
theorem dX9_mean_94 : decode cX9_mean 94 = .ok (.ifCond .ne 7, 3) := by decide +kernel
theorem dX9_mean_97 : decode cX9_mean 97 = .ok (.iload_n 3, 1) := by decide +kernel
theorem dX9_mean_98 : decode cX9_mean 98 = .ok (.goto 5, 3) := by decide +kernel
theorem dX9_mean_101 : decode cX9_mean 101 = .ok (.iload 4, 2) := by decide +kernel
theorem dX9_mean_103 : decode cX9_mean 103 = .ok (.iload 5, 2) := by decide +kernel
theorem dX9_mean_105 : decode cX9_mean 105 = .ok (.idiv, 1) := by decide +kernel
theorem dX9_mean_106 : decode cX9_mean 106 = .ok (.ireturn, 1) := by decide +kernel
theorem dX9_image_0 : decode cX9_image 0 = .ok (.aload_n 0, 1) := by decide +kernel
theorem dX9_image_1 : decode cX9_image 1 = .ok (.getfield 16, 3) := by decide +kernel
theorem dX9_image_4 : decode cX9_image 4 = .ok (.aload_n 0, 1) := by decide +kernel
theorem dX9_image_5 : decode cX9_image 5 = .ok (.getfield 10, 3) := by decide +kernel
theorem dX9_image_8 : decode cX9_image 8 = .ok (.invokevirtual 215, 3) := by decide +kernel
theorem dX9_image_11 : decode cX9_image 11 = .ok (.aload_n 0, 1) := by decide +kernel
theorem dX9_image_12 : decode cX9_image 12 = .ok (.iconst 1, 1) := by decide +kernel
theorem dX9_image_13 : decode cX9_image 13 = .ok (.putfield 219, 3) := by decide +kernel
theorem dX9_image_16 : decode cX9_image 16 = .ok (.iconst 1, 1) := by decide +kernel
theorem dX9_image_17 : decode cX9_image 17 = .ok (.ireturn, 1) := by decide +kernel
theorem dX9_restore_0 : decode cX9_restore 0 = .ok (.aload_n 0, 1) := by decide +kernel
theorem dX9_restore_1 : decode cX9_restore 1 = .ok (.getfield 219, 3) := by decide +kernel
theorem dX9_restore_4 : decode cX9_restore 4 = .ok (.ifCond .ne 6, 3) := by decide +kernel
theorem dX9_restore_7 : decode cX9_restore 7 = .ok (.bipush (-4), 2) := by decide +kernel
theorem dX9_restore_9 : decode cX9_restore 9 = .ok (.ireturn, 1) := by decide +kernel
theorem dX9_restore_10 : decode cX9_restore 10 = .ok (.aload_n 0, 1) := by decide +kernel
theorem dX9_restore_11 : decode cX9_restore 11 = .ok (.getfield 10, 3) := by decide +kernel
theorem dX9_restore_14 : decode cX9_restore 14 = .ok (.aload_n 0, 1) := by decide +kernel
theorem dX9_restore_15 : decode cX9_restore 15 = .ok (.getfield 16, 3) := by decide +kernel
theorem dX9_restore_18 : decode cX9_restore 18 = .ok (.invokevirtual 215, 3) := by decide +kernel
theorem dX9_restore_21 : decode cX9_restore 21 = .ok (.iconst 1, 1) := by decide +kernel
theorem dX9_restore_22 : decode cX9_restore 22 = .ok (.ireturn, 1) := by decide +kernel
theorem dX9_weather_0 : decode cX9_weather 0 = .ok (.iload_n 1, 1) := by decide +kernel
theorem dX9_weather_1 : decode cX9_weather 1 = .ok (.invokestatic 223, 3) := by decide +kernel
theorem dX9_weather_4 : decode cX9_weather 4 = .ok (.ifCond .eq 34, 3) := by decide +kernel
theorem dX9_weather_7 : decode cX9_weather 7 = .ok (.iload_n 2, 1) := by decide +kernel
theorem dX9_weather_8 : decode cX9_weather 8 = .ok (.invokestatic 226, 3) := by decide +kernel
theorem dX9_weather_11 : decode cX9_weather 11 = .ok (.ifCond .eq 27, 3) := by decide +kernel
theorem dX9_weather_14 : decode cX9_weather 14 = .ok (.iload 4, 2) := by decide +kernel
theorem dX9_weather_16 : decode cX9_weather 16 = .ok (.iconst 1, 1) := by decide +kernel
theorem dX9_weather_17 : decode cX9_weather 17 = .ok (.bipush 8, 2) := by decide +kernel
theorem dX9_weather_19 : decode cX9_weather 19 = .ok (.invokestatic 40, 3) := by decide +kernel
theorem dX9_weather_22 : decode cX9_weather 22 = .ok (.ifCond .eq 16, 3) := by decide +kernel
theorem dX9_weather_25 : decode cX9_weather 25 = .ok (.iload 5, 2) := by decide +kernel
theorem dX9_weather_27 : decode cX9_weather 27 = .ok (.iconst (-1), 1) := by decide +kernel
theorem dX9_weather_28 : decode cX9_weather 28 = .ok (.iload 4, 2) := by decide +kernel
theorem dX9_weather_30 : decode cX9_weather 30 = .ok (.iconst 1, 1) := by decide +kernel
theorem dX9_weather_31 : decode cX9_weather 31 = .ok (.isub, 1) := by decide +kernel
theorem dX9_weather_32 : decode cX9_weather 32 = .ok (.invokestatic 40, 3) := by decide +kernel
theorem dX9_weather_35 : decode cX9_weather 35 = .ok (.ifCond .ne 5, 3) := by decide +kernel
theorem dX9_weather_38 : decode cX9_weather 38 = .ok (.iconst (-1), 1) := by decide +kernel
theorem dX9_weather_39 : decode cX9_weather 39 = .ok (.ireturn, 1) := by decide +kernel
theorem dX9_weather_40 : decode cX9_weather 40 = .ok (.aload_n 0, 1) := by decide +kernel
theorem dX9_weather_41 : decode cX9_weather 41 = .ok (.getfield 35, 3) := by decide +kernel
theorem dX9_weather_44 : decode cX9_weather 44 = .ok (.iload_n 1, 1) := by decide +kernel
theorem dX9_weather_45 : decode cX9_weather 45 = .ok (.aaload, 1) := by decide +kernel
theorem dX9_weather_46 : decode cX9_weather 46 = .ok (.iload_n 2, 1) := by decide +kernel
theorem dX9_weather_47 : decode cX9_weather 47 = .ok (.iload_n 3, 1) := by decide +kernel
theorem dX9_weather_48 : decode cX9_weather 48 = .ok (.iload 4, 2) := by decide +kernel
theorem dX9_weather_50 : decode cX9_weather 50 = .ok (.invokevirtual 229, 3) := by decide +kernel
theorem dX9_weather_53 : decode cX9_weather 53 = .ok (.istore 6, 2) := by decide +kernel
theorem dX9_weather_55 : decode cX9_weather 55 = .ok (.iload 6, 2) := by decide +kernel
theorem dX9_weather_57 : decode cX9_weather 57 = .ok (.ifCond .eq 6, 3) := by decide +kernel
theorem dX9_weather_60 : decode cX9_weather 60 = .ok (.iload 6, 2) := by decide +kernel
theorem dX9_weather_62 : decode cX9_weather 62 = .ok (.ireturn, 1) := by decide +kernel
theorem dX9_weather_63 : decode cX9_weather 63 = .ok (.iload 4, 2) := by decide +kernel
theorem dX9_weather_65 : decode cX9_weather 65 = .ok (.aload_n 0, 1) := by decide +kernel
theorem dX9_weather_66 : decode cX9_weather 66 = .ok (.getfield 10, 3) := by decide +kernel
theorem dX9_weather_69 : decode cX9_weather 69 = .ok (.getfield 101, 3) := by decide +kernel
theorem dX9_weather_72 : decode cX9_weather 72 = .ok (.aload_n 0, 1) := by decide +kernel
theorem dX9_weather_73 : decode cX9_weather 73 = .ok (.getfield 10, 3) := by decide +kernel
theorem dX9_weather_76 : decode cX9_weather 76 = .ok (.getfield 98, 3) := by decide +kernel
theorem dX9_weather_79 : decode cX9_weather 79 = .ok (.isub, 1) := by decide +kernel
theorem dX9_weather_80 : decode cX9_weather 80 = .ok (.if_icmp .le 6, 3) := by decide +kernel
theorem dX9_weather_83 : decode cX9_weather 83 = .ok (.bipush (-2), 2) := by decide +kernel
theorem dX9_weather_85 : decode cX9_weather 85 = .ok (.ireturn, 1) := by decide +kernel
theorem dX9_weather_86 : decode cX9_weather 86 = .ok (.aload_n 0, 1) := by decide +kernel
theorem dX9_weather_87 : decode cX9_weather 87 = .ok (.aload_n 0, 1) := by decide +kernel
theorem dX9_weather_88 : decode cX9_weather 88 = .ok (.getfield 35, 3) := by decide +kernel
theorem dX9_weather_91 : decode cX9_weather 91 = .ok (.iload_n 1, 1) := by decide +kernel
theorem dX9_weather_92 : decode cX9_weather 92 = .ok (.aaload, 1) := by decide +kernel
theorem dX9_weather_93 : decode cX9_weather 93 = .ok (.getfield 232, 3) := by decide +kernel
theorem dX9_weather_96 : decode cX9_weather 96 = .ok (.iload_n 3, 1) := by decide +kernel
theorem dX9_weather_97 : decode cX9_weather 97 = .ok (.iload 4, 2) := by decide +kernel
theorem dX9_weather_99 : decode cX9_weather 99 = .ok (.iload 5, 2) := by decide +kernel
theorem dX9_weather_101 : decode cX9_weather 101 = .ok (.invokevirtual 236, 3) := by decide +kernel
theorem dX9_weather_104 : decode cX9_weather 104 = .ok (.ireturn, 1) := by decide +kernel
theorem dX9_weatherOf_0 : decode cX9_weatherOf 0 = .ok (.aload_n 0, 1) := by decide +kernel
theorem dX9_weatherOf_1 : decode cX9_weatherOf 1 = .ok (.getfield 10, 3) := by decide +kernel
theorem dX9_weatherOf_4 : decode cX9_weatherOf 4 = .ok (.getfield 71, 3) := by decide +kernel
theorem dX9_weatherOf_7 : decode cX9_weatherOf 7 = .ok (.istore 5, 2) := by decide +kernel
theorem dX9_weatherOf_9 : decode cX9_weatherOf 9 = .ok (.iconst 1, 1) := by decide +kernel
theorem dX9_weatherOf_10 : decode cX9_weatherOf 10 = .ok (.istore 6, 2) := by decide +kernel
theorem dX9_weatherOf_12 : decode cX9_weatherOf 12 = .ok (.iconst 0, 1) := by decide +kernel
theorem dX9_weatherOf_13 : decode cX9_weatherOf 13 = .ok (.istore 7, 2) := by decide +kernel
theorem dX9_weatherOf_15 : decode cX9_weatherOf 15 = .ok (.iconst 0, 1) := by decide +kernel
theorem dX9_weatherOf_16 : decode cX9_weatherOf 16 = .ok (.istore 8, 2) := by decide +kernel
theorem dX9_weatherOf_18 : decode cX9_weatherOf 18 = .ok (.iload 8, 2) := by decide +kernel
theorem dX9_weatherOf_20 : decode cX9_weatherOf 20 = .ok (.iload_n 3, 1) := by decide +kernel
theorem dX9_weatherOf_21 : decode cX9_weatherOf 21 = .ok (.if_icmp .ge 76, 3) := by decide +kernel
theorem dX9_weatherOf_24 : decode cX9_weatherOf 24 = .ok (.aload_n 0, 1) := by decide +kernel
theorem dX9_weatherOf_25 : decode cX9_weatherOf 25 = .ok (.iload 5, 2) := by decide +kernel
theorem dX9_weatherOf_27 : decode cX9_weatherOf 27 = .ok (.aload_n 1, 1) := by decide +kernel
theorem dX9_weatherOf_28 : decode cX9_weatherOf 28 = .ok (.iload_n 2, 1) := by decide +kernel
theorem dX9_weatherOf_29 : decode cX9_weatherOf 29 = .ok (.iload 8, 2) := by decide +kernel
theorem dX9_weatherOf_31 : decode cX9_weatherOf 31 = .ok (.iadd, 1) := by decide +kernel
theorem dX9_weatherOf_32 : decode cX9_weatherOf 32 = .ok (.laload, 1) := by decide +kernel
theorem dX9_weatherOf_33 : decode cX9_weatherOf 33 = .ok (.iload 8, 2) := by decide +kernel
theorem dX9_weatherOf_35 : decode cX9_weatherOf 35 = .ok (.ifCond .ne 13, 3) := by decide +kernel
theorem dX9_weatherOf_38 : decode cX9_weatherOf 38 = .ok (.aload_n 0, 1) := by decide +kernel
theorem dX9_weatherOf_39 : decode cX9_weatherOf 39 = .ok (.getfield 10, 3) := by decide +kernel
theorem dX9_weatherOf_42 : decode cX9_weatherOf 42 = .ok (.invokevirtual 141, 3) := by decide +kernel
theorem dX9_weatherOf_45 : decode cX9_weatherOf 45 = .ok (.goto 4, 3) := by decide +kernel
theorem dX9_weatherOf_48 : decode cX9_weatherOf 48 = .ok (.iconst 0, 1) := by decide +kernel
theorem dX9_weatherOf_49 : decode cX9_weatherOf 49 = .ok (.invokevirtual 240, 3) := by decide +kernel
theorem dX9_weatherOf_52 : decode cX9_weatherOf 52 = .ok (.istore 9, 2) := by decide +kernel
theorem dX9_weatherOf_54 : decode cX9_weatherOf 54 = .ok (.iload 9, 2) := by decide +kernel
theorem dX9_weatherOf_56 : decode cX9_weatherOf 56 = .ok (.ifCond .ne 5, 3) := by decide +kernel
theorem dX9_weatherOf_59 : decode cX9_weatherOf 59 = .ok (.iconst 0, 1) := by decide +kernel
theorem dX9_weatherOf_60 : decode cX9_weatherOf 60 = .ok (.ireturn, 1) := by decide +kernel
theorem dX9_weatherOf_61 : decode cX9_weatherOf 61 = .ok (.iload 6, 2) := by decide +kernel
theorem dX9_weatherOf_63 : decode cX9_weatherOf 63 = .ok (.iload 9, 2) := by decide +kernel
theorem dX9_weatherOf_65 : decode cX9_weatherOf 65 = .ok (.invokestatic 188, 3) := by decide +kernel
theorem dX9_weatherOf_68 : decode cX9_weatherOf 68 = .ok (.imul, 1) := by decide +kernel
theorem dX9_weatherOf_69 : decode cX9_weatherOf 69 = .ok (.istore 6, 2) := by decide +kernel
theorem dX9_weatherOf_71 : decode cX9_weatherOf 71 = .ok (.iload 8, 2) := by decide +kernel
theorem dX9_weatherOf_73 : decode cX9_weatherOf 73 = .ok (.iload 4, 2) := by decide +kernel
theorem dX9_weatherOf_75 : decode cX9_weatherOf 75 = .ok (.if_icmp .ne 7, 3) := by decide +kernel
theorem dX9_weatherOf_78 : decode cX9_weatherOf 78 = .ok (.iload 9, 2) := by decide +kernel
theorem dX9_weatherOf_80 : decode cX9_weatherOf 80 = .ok (.istore 7, 2) := by decide +kernel
theorem dX9_weatherOf_82 : decode cX9_weatherOf 82 = .ok (.aload_n 1, 1) := by decide +kernel
theorem dX9_weatherOf_83 : decode cX9_weatherOf 83 = .ok (.iload_n 2, 1) := by decide +kernel
theorem dX9_weatherOf_84 : decode cX9_weatherOf 84 = .ok (.iload 8, 2) := by decide +kernel
theorem dX9_weatherOf_86 : decode cX9_weatherOf 86 = .ok (.iadd, 1) := by decide +kernel
theorem dX9_weatherOf_87 : decode cX9_weatherOf 87 = .ok (.laload, 1) := by decide +kernel
theorem dX9_weatherOf_88 : decode cX9_weatherOf 88 = .ok (.l2i, 1) := by decide +kernel
theorem dX9_weatherOf_89 : decode cX9_weatherOf 89 = .ok (.istore 5, 2) := by decide +kernel
theorem dX9_weatherOf_91 : decode cX9_weatherOf 91 = .ok (.iinc 8 1, 3) := by decide +kernel
theorem dX9_weatherOf_94 : decode cX9_weatherOf 94 = .ok (.goto (-76), 3) := by decide +kernel
theorem dX9_weatherOf_97 : decode cX9_weatherOf 97 = .ok (.iload 4, 2) := by decide +kernel
theorem dX9_weatherOf_99 : decode cX9_weatherOf 99 = .ok (.ifCond .ge 8, 3) := by decide +kernel
theorem dX9_weatherOf_102 : decode cX9_weatherOf 102 = .ok (.iload 6, 2) := by decide +kernel
theorem dX9_weatherOf_104 : decode cX9_weatherOf 104 = .ok (.goto 5, 3) := by decide +kernel
theorem dX9_weatherOf_107 : decode cX9_weatherOf 107 = .ok (.iload 7, 2) := by decide +kernel
theorem dX9_weatherOf_109 : decode cX9_weatherOf 109 = .ok (.ireturn, 1) := by decide +kernel
theorem dX9_fittingWeathers_0 : decode cX9_fittingWeathers 0 = .ok (.iconst 0, 1) := by decide +kernel
theorem dX9_fittingWeathers_1 : decode cX9_fittingWeathers 1 = .ok (.istore 5, 2) := by decide +kernel
theorem dX9_fittingWeathers_3 : decode cX9_fittingWeathers 3 = .ok (.iconst 0, 1) := by decide +kernel
theorem dX9_fittingWeathers_4 : decode cX9_fittingWeathers 4 = .ok (.istore 6, 2) := by decide +kernel
theorem dX9_fittingWeathers_6 : decode cX9_fittingWeathers 6 = .ok (.iload 6, 2) := by decide +kernel
theorem dX9_fittingWeathers_8 : decode cX9_fittingWeathers 8 = .ok (.iconst 3, 1) := by decide +kernel
theorem dX9_fittingWeathers_9 : decode cX9_fittingWeathers 9 = .ok (.if_icmp .ge 36, 3) := by decide +kernel
theorem dX9_fittingWeathers_12 : decode cX9_fittingWeathers 12 = .ok (.aload_n 0, 1) := by decide +kernel
theorem dX9_fittingWeathers_13 : decode cX9_fittingWeathers 13 = .ok (.getfield 10, 3) := by decide +kernel
theorem dX9_fittingWeathers_16 : decode cX9_fittingWeathers 16 = .ok (.iload 6, 2) := by decide +kernel
theorem dX9_fittingWeathers_18 : decode cX9_fittingWeathers 18 = .ok (.iload_n 1, 1) := by decide +kernel
theorem dX9_fittingWeathers_19 : decode cX9_fittingWeathers 19 = .ok (.iload 4, 2) := by decide +kernel
theorem dX9_fittingWeathers_21 : decode cX9_fittingWeathers 21 = .ok (.invokevirtual 206, 3) := by decide +kernel
theorem dX9_fittingWeathers_24 : decode cX9_fittingWeathers 24 = .ok (.i2l, 1) := by decide +kernel
theorem dX9_fittingWeathers_25 : decode cX9_fittingWeathers 25 = .ok (.lload_n 2, 1) := by decide +kernel
theorem dX9_fittingWeathers_26 : decode cX9_fittingWeathers 26 = .ok (.lcmp, 1) := by decide +kernel
theorem dX9_fittingWeathers_27 : decode cX9_fittingWeathers 27 = .ok (.ifCond .ne 12, 3) := by decide +kernel
theorem dX9_fittingWeathers_30 : decode cX9_fittingWeathers 30 = .ok (.iload 5, 2) := by decide +kernel
theorem dX9_fittingWeathers_32 : decode cX9_fittingWeathers 32 = .ok (.iconst 1, 1) := by decide +kernel
theorem dX9_fittingWeathers_33 : decode cX9_fittingWeathers 33 = .ok (.iload 6, 2) := by decide +kernel
theorem dX9_fittingWeathers_35 : decode cX9_fittingWeathers 35 = .ok (.ishl, 1) := by decide +kernel
theorem dX9_fittingWeathers_36 : decode cX9_fittingWeathers 36 = .ok (.ior, 1) := by decide +kernel
theorem dX9_fittingWeathers_37 : decode cX9_fittingWeathers 37 = .ok (.istore 5, 2) := by decide +kernel
theorem dX9_fittingWeathers_39 : decode cX9_fittingWeathers 39 = .ok (.iinc 6 1, 3) := by decide +kernel
theorem dX9_fittingWeathers_42 : decode cX9_fittingWeathers 42 = .ok (.goto (-36), 3) := by decide +kernel
theorem dX9_fittingWeathers_45 : decode cX9_fittingWeathers 45 = .ok (.iload 5, 2) := by decide +kernel
theorem dX9_fittingWeathers_47 : decode cX9_fittingWeathers 47 = .ok (.ireturn, 1) := by decide +kernel
theorem dX9_film_0 : decode cX9_film 0 = .ok (.iload_n 1, 1) := by decide +kernel
theorem dX9_film_1 : decode cX9_film 1 = .ok (.iconst 0, 1) := by decide +kernel
theorem dX9_film_2 : decode cX9_film 2 = .ok (.iconst 2, 1) := by decide +kernel
theorem dX9_film_3 : decode cX9_film 3 = .ok (.invokestatic 40, 3) := by decide +kernel
theorem dX9_film_6 : decode cX9_film 6 = .ok (.ifCond .eq 28, 3) := by decide +kernel
theorem dX9_film_9 : decode cX9_film 9 = .ok (.iload_n 2, 1) := by decide +kernel
theorem dX9_film_10 : decode cX9_film 10 = .ok (.iconst 1, 1) := by decide +kernel
theorem dX9_film_11 : decode cX9_film 11 = .ok (.bipush 24, 2) := by decide +kernel
theorem dX9_film_13 : decode cX9_film 13 = .ok (.invokestatic 40, 3) := by decide +kernel
theorem dX9_film_16 : decode cX9_film 16 = .ok (.ifCond .eq 18, 3) := by decide +kernel
theorem dX9_film_19 : decode cX9_film 19 = .ok (.iload_n 3, 1) := by decide +kernel
theorem dX9_film_20 : decode cX9_film 20 = .ok (.invokestatic 223, 3) := by decide +kernel
theorem dX9_film_23 : decode cX9_film 23 = .ok (.ifCond .eq 11, 3) := by decide +kernel
theorem dX9_film_26 : decode cX9_film 26 = .ok (.iload 4, 2) := by decide +kernel
theorem dX9_film_28 : decode cX9_film 28 = .ok (.invokestatic 226, 3) := by decide +kernel
theorem dX9_film_31 : decode cX9_film 31 = .ok (.ifCond .ne 5, 3) := by decide +kernel
theorem dX9_film_34 : decode cX9_film 34 = .ok (.iconst (-1), 1) := by decide +kernel
theorem dX9_film_35 : decode cX9_film 35 = .ok (.ireturn, 1) := by decide +kernel
theorem dX9_film_36 : decode cX9_film 36 = .ok (.aload_n 0, 1) := by decide +kernel
theorem dX9_film_37 : decode cX9_film 37 = .ok (.getfield 35, 3) := by decide +kernel
theorem dX9_film_40 : decode cX9_film 40 = .ok (.iload_n 3, 1) := by decide +kernel
theorem dX9_film_41 : decode cX9_film 41 = .ok (.aaload, 1) := by decide +kernel
theorem dX9_film_42 : decode cX9_film 42 = .ok (.iload 4, 2) := by decide +kernel
theorem dX9_film_44 : decode cX9_film 44 = .ok (.iload 5, 2) := by decide +kernel
theorem dX9_film_46 : decode cX9_film 46 = .ok (.iload_n 2, 1) := by decide +kernel
theorem dX9_film_47 : decode cX9_film 47 = .ok (.invokevirtual 229, 3) := by decide +kernel
theorem dX9_film_50 : decode cX9_film 50 = .ok (.istore 6, 2) := by decide +kernel
theorem dX9_film_52 : decode cX9_film 52 = .ok (.iload 6, 2) := by decide +kernel
theorem dX9_film_54 : decode cX9_film 54 = .ok (.ifCond .eq 6, 3) := by decide +kernel
theorem dX9_film_57 : decode cX9_film 57 = .ok (.iload 6, 2) := by decide +kernel
theorem dX9_film_59 : decode cX9_film 59 = .ok (.ireturn, 1) := by decide +kernel
theorem dX9_film_60 : decode cX9_film 60 = .ok (.aload_n 0, 1) := by decide +kernel
theorem dX9_film_61 : decode cX9_film 61 = .ok (.getfield 10, 3) := by decide +kernel
theorem dX9_film_64 : decode cX9_film 64 = .ok (.getfield 71, 3) := by decide +kernel
theorem dX9_film_67 : decode cX9_film 67 = .ok (.istore 7, 2) := by decide +kernel
theorem dX9_film_69 : decode cX9_film 69 = .ok (.iconst 0, 1) := by decide +kernel
theorem dX9_film_70 : decode cX9_film 70 = .ok (.istore 8, 2) := by decide +kernel
theorem dX9_film_72 : decode cX9_film 72 = .ok (.iload 8, 2) := by decide +kernel
theorem dX9_film_74 : decode cX9_film 74 = .ok (.iload_n 2, 1) := by decide +kernel
theorem dX9_film_75 : decode cX9_film 75 = .ok (.if_icmp .ge 54, 3) := by decide +kernel
theorem dX9_film_78 : decode cX9_film 78 = .ok (.aload_n 0, 1) := by decide +kernel
theorem dX9_film_79 : decode cX9_film 79 = .ok (.getfield 10, 3) := by decide +kernel
theorem dX9_film_82 : decode cX9_film 82 = .ok (.iload_n 1, 1) := by decide +kernel
theorem dX9_film_83 : decode cX9_film 83 = .ok (.iload 7, 2) := by decide +kernel
theorem dX9_film_85 : decode cX9_film 85 = .ok (.iload 8, 2) := by decide +kernel
theorem dX9_film_87 : decode cX9_film 87 = .ok (.ifCond .ne 13, 3) := by decide +kernel
theorem dX9_film_90 : decode cX9_film 90 = .ok (.aload_n 0, 1) := by decide +kernel
theorem dX9_film_91 : decode cX9_film 91 = .ok (.getfield 10, 3) := by decide +kernel
theorem dX9_film_94 : decode cX9_film 94 = .ok (.invokevirtual 141, 3) := by decide +kernel
theorem dX9_film_97 : decode cX9_film 97 = .ok (.goto 4, 3) := by decide +kernel
theorem dX9_film_100 : decode cX9_film 100 = .ok (.iconst 0, 1) := by decide +kernel
theorem dX9_film_101 : decode cX9_film 101 = .ok (.invokevirtual 206, 3) := by decide +kernel
theorem dX9_film_104 : decode cX9_film 104 = .ok (.istore 7, 2) := by decide +kernel
theorem dX9_film_106 : decode cX9_film 106 = .ok (.aload_n 0, 1) := by decide +kernel
theorem dX9_film_107 : decode cX9_film 107 = .ok (.getfield 35, 3) := by decide +kernel
theorem dX9_film_110 : decode cX9_film 110 = .ok (.iload_n 3, 1) := by decide +kernel
theorem dX9_film_111 : decode cX9_film 111 = .ok (.aaload, 1) := by decide +kernel
theorem dX9_film_112 : decode cX9_film 112 = .ok (.iload 5, 2) := by decide +kernel
theorem dX9_film_114 : decode cX9_film 114 = .ok (.iload 8, 2) := by decide +kernel
theorem dX9_film_116 : decode cX9_film 116 = .ok (.iadd, 1) := by decide +kernel
theorem dX9_film_117 : decode cX9_film 117 = .ok (.iload 7, 2) := by decide +kernel
theorem dX9_film_119 : decode cX9_film 119 = .ok (.i2l, 1) := by decide +kernel
theorem dX9_film_120 : decode cX9_film 120 = .ok (.invokevirtual 244, 3) := by decide +kernel
theorem dX9_film_123 : decode cX9_film 123 = .ok (.iinc 8 1, 3) := by decide +kernel
theorem dX9_film_126 : decode cX9_film 126 = .ok (.goto (-54), 3) := by decide +kernel
theorem dX9_film_129 : decode cX9_film 129 = .ok (.iload_n 2, 1) := by decide +kernel
theorem dX9_film_130 : decode cX9_film 130 = .ok (.ireturn, 1) := by decide +kernel
theorem dX9_sheet_0 : decode cX9_sheet 0 = .ok (.iload_n 1, 1) := by decide +kernel
theorem dX9_sheet_1 : decode cX9_sheet 1 = .ok (.invokestatic 223, 3) := by decide +kernel
theorem dX9_sheet_4 : decode cX9_sheet 4 = .ok (.ifCond .eq 16, 3) := by decide +kernel
theorem dX9_sheet_7 : decode cX9_sheet 7 = .ok (.iload_n 2, 1) := by decide +kernel
theorem dX9_sheet_8 : decode cX9_sheet 8 = .ok (.invokestatic 226, 3) := by decide +kernel
theorem dX9_sheet_11 : decode cX9_sheet 11 = .ok (.ifCond .eq 9, 3) := by decide +kernel
theorem dX9_sheet_14 : decode cX9_sheet 14 = .ok (.iload_n 3, 1) := by decide +kernel
theorem dX9_sheet_15 : decode cX9_sheet 15 = .ok (.bipush 24, 2) := by decide +kernel
theorem dX9_sheet_17 : decode cX9_sheet 17 = .ok (.if_icmp .le 5, 3) := by decide +kernel
theorem dX9_sheet_20 : decode cX9_sheet 20 = .ok (.iconst (-1), 1) := by decide +kernel
theorem dX9_sheet_21 : decode cX9_sheet 21 = .ok (.ireturn, 1) := by decide +kernel
theorem dX9_sheet_22 : decode cX9_sheet 22 = .ok (.iload_n 3, 1) := by decide +kernel
theorem dX9_sheet_23 : decode cX9_sheet 23 = .ok (.ifCond .ge 6, 3) := by decide +kernel
theorem dX9_sheet_26 : decode cX9_sheet 26 = .ok (.bipush (-14), 2) := by decide +kernel
theorem dX9_sheet_28 : decode cX9_sheet 28 = .ok (.ireturn, 1) := by decide +kernel
theorem dX9_sheet_29 : decode cX9_sheet 29 = .ok (.aload_n 0, 1) := by decide +kernel
theorem dX9_sheet_30 : decode cX9_sheet 30 = .ok (.getfield 35, 3) := by decide +kernel
theorem dX9_sheet_33 : decode cX9_sheet 33 = .ok (.iload_n 1, 1) := by decide +kernel
theorem dX9_sheet_34 : decode cX9_sheet 34 = .ok (.aaload, 1) := by decide +kernel
theorem dX9_sheet_35 : decode cX9_sheet 35 = .ok (.iload_n 2, 1) := by decide +kernel
theorem dX9_sheet_36 : decode cX9_sheet 36 = .ok (.iload_n 3, 1) := by decide +kernel
theorem dX9_sheet_37 : decode cX9_sheet 37 = .ok (.invokevirtual 248, 3) := by decide +kernel
theorem dX9_sheet_40 : decode cX9_sheet 40 = .ok (.iload_n 3, 1) := by decide +kernel
theorem dX9_sheet_41 : decode cX9_sheet 41 = .ok (.ireturn, 1) := by decide +kernel
theorem dX9_drop_0 : decode cX9_drop 0 = .ok (.iload_n 1, 1) := by decide +kernel
theorem dX9_drop_1 : decode cX9_drop 1 = .ok (.invokestatic 223, 3) := by decide +kernel
theorem dX9_drop_4 : decode cX9_drop 4 = .ok (.ifCond .ne 5, 3) := by decide +kernel
theorem dX9_drop_7 : decode cX9_drop 7 = .ok (.iconst (-1), 1) := by decide +kernel
theorem dX9_drop_8 : decode cX9_drop 8 = .ok (.ireturn, 1) := by decide +kernel
theorem dX9_drop_9 : decode cX9_drop 9 = .ok (.aload_n 0, 1) := by decide +kernel
theorem dX9_drop_10 : decode cX9_drop 10 = .ok (.getfield 35, 3) := by decide +kernel
theorem dX9_drop_13 : decode cX9_drop 13 = .ok (.iload_n 1, 1) := by decide +kernel
theorem dX9_drop_14 : decode cX9_drop 14 = .ok (.aaload, 1) := by decide +kernel
theorem dX9_drop_15 : decode cX9_drop 15 = .ok (.getfield 251, 3) := by decide +kernel
theorem dX9_drop_18 : decode cX9_drop 18 = .ok (.ifCond .ne 6, 3) := by decide +kernel
theorem dX9_drop_21 : decode cX9_drop 21 = .ok (.bipush (-11), 2) := by decide +kernel
theorem dX9_drop_23 : decode cX9_drop 23 = .ok (.ireturn, 1) := by decide +kernel
theorem dX9_drop_24 : decode cX9_drop 24 = .ok (.aload_n 0, 1) := by decide +kernel
theorem dX9_drop_25 : decode cX9_drop 25 = .ok (.getfield 35, 3) := by decide +kernel
theorem dX9_drop_28 : decode cX9_drop 28 = .ok (.iload_n 1, 1) := by decide +kernel
theorem dX9_drop_29 : decode cX9_drop 29 = .ok (.aaload, 1) := by decide +kernel
theorem dX9_drop_30 : decode cX9_drop 30 = .ok (.iconst 0, 1) := by decide +kernel
theorem dX9_drop_31 : decode cX9_drop 31 = .ok (.putfield 251, 3) := by decide +kernel
theorem dX9_drop_34 : decode cX9_drop 34 = .ok (.aload_n 0, 1) := by decide +kernel
theorem dX9_drop_35 : decode cX9_drop 35 = .ok (.getfield 35, 3) := by decide +kernel
theorem dX9_drop_38 : decode cX9_drop 38 = .ok (.iload_n 1, 1) := by decide +kernel
theorem dX9_drop_39 : decode cX9_drop 39 = .ok (.aaload, 1) := by decide +kernel
theorem dX9_drop_40 : decode cX9_drop 40 = .ok (.getfield 254, 3) := by decide +kernel
theorem dX9_drop_43 : decode cX9_drop 43 = .ok (.ireturn, 1) := by decide +kernel
theorem dX9_item_0 : decode cX9_item 0 = .ok (.iload_n 1, 1) := by decide +kernel
theorem dX9_item_1 : decode cX9_item 1 = .ok (.invokestatic 223, 3) := by decide +kernel
theorem dX9_item_4 : decode cX9_item 4 = .ok (.ifCond .eq 10, 3) := by decide +kernel
theorem dX9_item_7 : decode cX9_item 7 = .ok (.iload_n 2, 1) := by decide +kernel
theorem dX9_item_8 : decode cX9_item 8 = .ok (.invokestatic 226, 3) := by decide +kernel
theorem dX9_item_11 : decode cX9_item 11 = .ok (.ifCond .ne 5, 3) := by decide +kernel
theorem dX9_item_14 : decode cX9_item 14 = .ok (.iconst (-1), 1) := by decide +kernel
theorem dX9_item_15 : decode cX9_item 15 = .ok (.ireturn, 1) := by decide +kernel
theorem dX9_item_16 : decode cX9_item 16 = .ok (.aload_n 0, 1) := by decide +kernel
theorem dX9_item_17 : decode cX9_item 17 = .ok (.getfield 35, 3) := by decide +kernel
theorem dX9_item_20 : decode cX9_item 20 = .ok (.iload_n 1, 1) := by decide +kernel
theorem dX9_item_21 : decode cX9_item 21 = .ok (.aaload, 1) := by decide +kernel
theorem dX9_item_22 : decode cX9_item 22 = .ok (.iload_n 2, 1) := by decide +kernel
theorem dX9_item_23 : decode cX9_item 23 = .ok (.iload_n 3, 1) := by decide +kernel
theorem dX9_item_24 : decode cX9_item 24 = .ok (.iconst 1, 1) := by decide +kernel
theorem dX9_item_25 : decode cX9_item 25 = .ok (.invokevirtual 229, 3) := by decide +kernel
theorem dX9_item_28 : decode cX9_item 28 = .ok (.istore 6, 2) := by decide +kernel
theorem dX9_item_30 : decode cX9_item 30 = .ok (.iload 6, 2) := by decide +kernel
theorem dX9_item_32 : decode cX9_item 32 = .ok (.ifCond .eq 6, 3) := by decide +kernel
theorem dX9_item_35 : decode cX9_item 35 = .ok (.iload 6, 2) := by decide +kernel
theorem dX9_item_37 : decode cX9_item 37 = .ok (.ireturn, 1) := by decide +kernel
theorem dX9_item_38 : decode cX9_item 38 = .ok (.aload_n 0, 1) := by decide +kernel
theorem dX9_item_39 : decode cX9_item 39 = .ok (.getfield 35, 3) := by decide +kernel
theorem dX9_item_42 : decode cX9_item 42 = .ok (.iload_n 1, 1) := by decide +kernel
theorem dX9_item_43 : decode cX9_item 43 = .ok (.aaload, 1) := by decide +kernel
theorem dX9_item_44 : decode cX9_item 44 = .ok (.iload_n 3, 1) := by decide +kernel
theorem dX9_item_45 : decode cX9_item 45 = .ok (.lload 4, 2) := by decide +kernel
theorem dX9_item_47 : decode cX9_item 47 = .ok (.invokevirtual 244, 3) := by decide +kernel
theorem dX9_item_50 : decode cX9_item 50 = .ok (.iconst 1, 1) := by decide +kernel
theorem dX9_item_51 : decode cX9_item 51 = .ok (.ireturn, 1) := by decide +kernel
theorem dX9_copy_0 : decode cX9_copy 0 = .ok (.iload_n 1, 1) := by decide +kernel
theorem dX9_copy_1 : decode cX9_copy 1 = .ok (.invokestatic 223, 3) := by decide +kernel
theorem dX9_copy_4 : decode cX9_copy 4 = .ok (.ifCond .eq 10, 3) := by decide +kernel
theorem dX9_copy_7 : decode cX9_copy 7 = .ok (.iload_n 3, 1) := by decide +kernel
theorem dX9_copy_8 : decode cX9_copy 8 = .ok (.invokestatic 223, 3) := by decide +kernel
theorem dX9_copy_11 : decode cX9_copy 11 = .ok (.ifCond .ne 5, 3) := by decide +kernel
theorem dX9_copy_14 : decode cX9_copy 14 = .ok (.iconst (-1), 1) := by decide +kernel
theorem dX9_copy_15 : decode cX9_copy 15 = .ok (.ireturn, 1) := by decide +kernel
theorem dX9_copy_16 : decode cX9_copy 16 = .ok (.aload_n 0, 1) := by decide +kernel
theorem dX9_copy_17 : decode cX9_copy 17 = .ok (.getfield 35, 3) := by decide +kernel
theorem dX9_copy_20 : decode cX9_copy 20 = .ok (.iload_n 1, 1) := by decide +kernel
theorem dX9_copy_21 : decode cX9_copy 21 = .ok (.aaload, 1) := by decide +kernel
theorem dX9_copy_22 : decode cX9_copy 22 = .ok (.astore 6, 2) := by decide +kernel
theorem dX9_copy_24 : decode cX9_copy 24 = .ok (.aload_n 0, 1) := by decide +kernel
theorem dX9_copy_25 : decode cX9_copy 25 = .ok (.getfield 35, 3) := by decide +kernel
theorem dX9_copy_28 : decode cX9_copy 28 = .ok (.iload_n 3, 1) := by decide +kernel
theorem dX9_copy_29 : decode cX9_copy 29 = .ok (.aaload, 1) := by decide +kernel
theorem dX9_copy_30 : decode cX9_copy 30 = .ok (.astore 7, 2) := by decide +kernel
theorem dX9_copy_32 : decode cX9_copy 32 = .ok (.aload 6, 2) := by decide +kernel
theorem dX9_copy_34 : decode cX9_copy 34 = .ok (.getfield 251, 3) := by decide +kernel
theorem dX9_copy_37 : decode cX9_copy 37 = .ok (.ifCond .eq 11, 3) := by decide +kernel
theorem dX9_copy_40 : decode cX9_copy 40 = .ok (.aload 7, 2) := by decide +kernel
theorem dX9_copy_42 : decode cX9_copy 42 = .ok (.getfield 251, 3) := by decide +kernel
theorem dX9_copy_45 : decode cX9_copy 45 = .ok (.ifCond .ne 6, 3) := by decide +kernel
theorem dX9_copy_48 : decode cX9_copy 48 = .ok (.bipush (-11), 2) := by decide +kernel
theorem dX9_copy_50 : decode cX9_copy 50 = .ok (.ireturn, 1) := by decide +kernel
theorem dX9_copy_51 : decode cX9_copy 51 = .ok (.aload 6, 2) := by decide +kernel
theorem dX9_copy_53 : decode cX9_copy 53 = .ok (.getfield 257, 3) := by decide +kernel
theorem dX9_copy_56 : decode cX9_copy 56 = .ok (.aload 7, 2) := by decide +kernel
theorem dX9_copy_58 : decode cX9_copy 58 = .ok (.getfield 257, 3) := by decide +kernel
theorem dX9_copy_61 : decode cX9_copy 61 = .ok (.if_icmp .eq 6, 3) := by decide +kernel
theorem dX9_copy_64 : decode cX9_copy 64 = .ok (.bipush (-12), 2) := by decide +kernel
theorem dX9_copy_66 : decode cX9_copy 66 = .ok (.ireturn, 1) := by decide +kernel
theorem dX9_copy_67 : decode cX9_copy 67 = .ok (.aload 6, 2) := by decide +kernel
theorem dX9_copy_69 : decode cX9_copy 69 = .ok (.iload_n 2, 1) := by decide +kernel
theorem dX9_copy_70 : decode cX9_copy 70 = .ok (.iload 5, 2) := by decide +kernel
theorem dX9_copy_72 : decode cX9_copy 72 = .ok (.invokevirtual 260, 3) := by decide +kernel
theorem dX9_copy_75 : decode cX9_copy 75 = .ok (.ifCond .eq 15, 3) := by decide +kernel
theorem dX9_copy_78 : decode cX9_copy 78 = .ok (.aload 7, 2) := by decide +kernel
theorem dX9_copy_80 : decode cX9_copy 80 = .ok (.iload 4, 2) := by decide +kernel
theorem dX9_copy_82 : decode cX9_copy 82 = .ok (.iload 5, 2) := by decide +kernel
theorem dX9_copy_84 : decode cX9_copy 84 = .ok (.invokevirtual 260, 3) := by decide +kernel
theorem dX9_copy_87 : decode cX9_copy 87 = .ok (.ifCond .ne 6, 3) := by decide +kernel
theorem dX9_copy_90 : decode cX9_copy 90 = .ok (.bipush (-13), 2) := by decide +kernel
theorem dX9_copy_92 : decode cX9_copy 92 = .ok (.ireturn, 1) := by decide +kernel
theorem dX9_copy_93 : decode cX9_copy 93 = .ok (.aload 6, 2) := by decide +kernel
theorem dX9_copy_95 : decode cX9_copy 95 = .ok (.getfield 232, 3) := by decide +kernel
theorem dX9_copy_98 : decode cX9_copy 98 = .ok (.iload_n 2, 1) := by decide +kernel
theorem dX9_copy_99 : decode cX9_copy 99 = .ok (.aload 7, 2) := by decide +kernel
theorem dX9_copy_101 : decode cX9_copy 101 = .ok (.getfield 232, 3) := by decide +kernel
theorem dX9_copy_104 : decode cX9_copy 104 = .ok (.iload 4, 2) := by decide +kernel
theorem dX9_copy_106 : decode cX9_copy 106 = .ok (.iload 5, 2) := by decide +kernel
theorem dX9_copy_108 : decode cX9_copy 108 = .ok (.invokestatic 264, 3) := by decide +kernel
theorem dX9_copy_111 : decode cX9_copy 111 = .ok (.iload 5, 2) := by decide +kernel
theorem dX9_copy_113 : decode cX9_copy 113 = .ok (.ireturn, 1) := by decide +kernel
theorem dX9_within_0 : decode cX9_within 0 = .ok (.iload_n 0, 1) := by decide +kernel
theorem dX9_within_1 : decode cX9_within 1 = .ok (.iload_n 1, 1) := by decide +kernel
theorem dX9_within_2 : decode cX9_within 2 = .ok (.if_icmp .lt 12, 3) := by decide +kernel
theorem dX9_within_5 : decode cX9_within 5 = .ok (.iload_n 0, 1) := by decide +kernel
theorem dX9_within_6 : decode cX9_within 6 = .ok (.iload_n 2, 1) := by decide +kernel
theorem dX9_within_7 : decode cX9_within 7 = .ok (.if_icmp .gt 7, 3) := by decide +kernel
theorem dX9_within_10 : decode cX9_within 10 = .ok (.iconst 1, 1) := by decide +kernel
theorem dX9_within_11 : decode cX9_within 11 = .ok (.goto 4, 3) := by decide +kernel
theorem dX9_within_14 : decode cX9_within 14 = .ok (.iconst 0, 1) := by decide +kernel
theorem dX9_within_15 : decode cX9_within 15 = .ok (.ireturn, 1) := by decide +kernel
theorem dX9_isSheet_0 : decode cX9_isSheet 0 = .ok (.iload_n 0, 1) := by decide +kernel
theorem dX9_isSheet_1 : decode cX9_isSheet 1 = .ok (.iconst 0, 1) := by decide +kernel
theorem dX9_isSheet_2 : decode cX9_isSheet 2 = .ok (.iconst 3, 1) := by decide +kernel
theorem dX9_isSheet_3 : decode cX9_isSheet 3 = .ok (.invokestatic 40, 3) := by decide +kernel
theorem dX9_isSheet_6 : decode cX9_isSheet 6 = .ok (.ireturn, 1) := by decide +kernel
theorem dX9_isLane_0 : decode cX9_isLane 0 = .ok (.iload_n 0, 1) := by decide +kernel
theorem dX9_isLane_1 : decode cX9_isLane 1 = .ok (.iconst 0, 1) := by decide +kernel
theorem dX9_isLane_2 : decode cX9_isLane 2 = .ok (.iconst 3, 1) := by decide +kernel
theorem dX9_isLane_3 : decode cX9_isLane 3 = .ok (.invokestatic 40, 3) := by decide +kernel
theorem dX9_isLane_6 : decode cX9_isLane 6 = .ok (.ireturn, 1) := by decide +kernel
theorem dX9_commonDivisor_0 : decode cX9_commonDivisor 0 = .ok (.iload_n 0, 1) := by decide +kernel
theorem dX9_commonDivisor_1 : decode cX9_commonDivisor 1 = .ok (.istore_n 2, 1) := by decide +kernel
theorem dX9_commonDivisor_2 : decode cX9_commonDivisor 2 = .ok (.iload_n 1, 1) := by decide +kernel
theorem dX9_commonDivisor_3 : decode cX9_commonDivisor 3 = .ok (.istore_n 3, 1) := by decide +kernel
theorem dX9_commonDivisor_4 : decode cX9_commonDivisor 4 = .ok (.iconst 0, 1) := by decide +kernel
theorem dX9_commonDivisor_5 : decode cX9_commonDivisor 5 = .ok (.istore 4, 2) := by decide +kernel
theorem dX9_commonDivisor_7 : decode cX9_commonDivisor 7 = .ok (.iload 4, 2) := by decide +kernel
theorem dX9_commonDivisor_9 : decode cX9_commonDivisor 9 = .ok (.bipush 100, 2) := by decide +kernel
theorem dX9_commonDivisor_11 : decode cX9_commonDivisor 11 = .ok (.if_icmp .ge 23, 3) := by decide +kernel
theorem dX9_commonDivisor_14 : decode cX9_commonDivisor 14 = .ok (.iload_n 3, 1) := by decide +kernel
theorem dX9_commonDivisor_15 : decode cX9_commonDivisor 15 = .ok (.ifCond .eq 19, 3) := by decide +kernel
theorem dX9_commonDivisor_18 : decode cX9_commonDivisor 18 = .ok (.iload_n 2, 1) := by decide +kernel
theorem dX9_commonDivisor_19 : decode cX9_commonDivisor 19 = .ok (.iload_n 3, 1) := by decide +kernel
theorem dX9_commonDivisor_20 : decode cX9_commonDivisor 20 = .ok (.irem, 1) := by decide +kernel
theorem dX9_commonDivisor_21 : decode cX9_commonDivisor 21 = .ok (.istore 5, 2) := by decide +kernel
theorem dX9_commonDivisor_23 : decode cX9_commonDivisor 23 = .ok (.iload_n 3, 1) := by decide +kernel
theorem dX9_commonDivisor_24 : decode cX9_commonDivisor 24 = .ok (.istore_n 2, 1) := by decide +kernel
theorem dX9_commonDivisor_25 : decode cX9_commonDivisor 25 = .ok (.iload 5, 2) := by decide +kernel
theorem dX9_commonDivisor_27 : decode cX9_commonDivisor 27 = .ok (.istore_n 3, 1) := by decide +kernel
theorem dX9_commonDivisor_28 : decode cX9_commonDivisor 28 = .ok (.iinc 4 1, 3) := by decide +kernel
theorem dX9_commonDivisor_31 : decode cX9_commonDivisor 31 = .ok (.goto (-24), 3) := by decide +kernel
theorem dX9_commonDivisor_34 : decode cX9_commonDivisor 34 = .ok (.iload_n 2, 1) := by decide +kernel
theorem dX9_commonDivisor_35 : decode cX9_commonDivisor 35 = .ok (.ireturn, 1) := by decide +kernel
theorem dJ6_bitCount_0f7a4_0 : decode cJ6_bitCount_0f7a4 0 = .ok (.iload_n 0, 1) := by decide +kernel
theorem dJ6_bitCount_0f7a4_1 : decode cJ6_bitCount_0f7a4 1 = .ok (.iload_n 0, 1) := by decide +kernel
theorem dJ6_bitCount_0f7a4_2 : decode cJ6_bitCount_0f7a4 2 = .ok (.iconst 1, 1) := by decide +kernel
theorem dJ6_bitCount_0f7a4_3 : decode cJ6_bitCount_0f7a4 3 = .ok (.iushr, 1) := by decide +kernel
theorem dJ6_bitCount_0f7a4_4 : decode cJ6_bitCount_0f7a4 4 = .ok (.ldc_w 265, 3) := by decide +kernel
theorem dJ6_bitCount_0f7a4_7 : decode cJ6_bitCount_0f7a4 7 = .ok (.iand, 1) := by decide +kernel
theorem dJ6_bitCount_0f7a4_8 : decode cJ6_bitCount_0f7a4 8 = .ok (.isub, 1) := by decide +kernel
theorem dJ6_bitCount_0f7a4_9 : decode cJ6_bitCount_0f7a4 9 = .ok (.istore_n 0, 1) := by decide +kernel
theorem dJ6_bitCount_0f7a4_10 : decode cJ6_bitCount_0f7a4 10 = .ok (.iload_n 0, 1) := by decide +kernel
theorem dJ6_bitCount_0f7a4_11 : decode cJ6_bitCount_0f7a4 11 = .ok (.ldc_w 266, 3) := by decide +kernel
theorem dJ6_bitCount_0f7a4_14 : decode cJ6_bitCount_0f7a4 14 = .ok (.iand, 1) := by decide +kernel
theorem dJ6_bitCount_0f7a4_15 : decode cJ6_bitCount_0f7a4 15 = .ok (.iload_n 0, 1) := by decide +kernel
theorem dJ6_bitCount_0f7a4_16 : decode cJ6_bitCount_0f7a4 16 = .ok (.iconst 2, 1) := by decide +kernel
theorem dJ6_bitCount_0f7a4_17 : decode cJ6_bitCount_0f7a4 17 = .ok (.iushr, 1) := by decide +kernel
theorem dJ6_bitCount_0f7a4_18 : decode cJ6_bitCount_0f7a4 18 = .ok (.ldc_w 266, 3) := by decide +kernel
theorem dJ6_bitCount_0f7a4_21 : decode cJ6_bitCount_0f7a4 21 = .ok (.iand, 1) := by decide +kernel
theorem dJ6_bitCount_0f7a4_22 : decode cJ6_bitCount_0f7a4 22 = .ok (.iadd, 1) := by decide +kernel
theorem dJ6_bitCount_0f7a4_23 : decode cJ6_bitCount_0f7a4 23 = .ok (.istore_n 0, 1) := by decide +kernel
theorem dJ6_bitCount_0f7a4_24 : decode cJ6_bitCount_0f7a4 24 = .ok (.iload_n 0, 1) := by decide +kernel
theorem dJ6_bitCount_0f7a4_25 : decode cJ6_bitCount_0f7a4 25 = .ok (.iload_n 0, 1) := by decide +kernel
theorem dJ6_bitCount_0f7a4_26 : decode cJ6_bitCount_0f7a4 26 = .ok (.iconst 4, 1) := by decide +kernel
theorem dJ6_bitCount_0f7a4_27 : decode cJ6_bitCount_0f7a4 27 = .ok (.iushr, 1) := by decide +kernel
theorem dJ6_bitCount_0f7a4_28 : decode cJ6_bitCount_0f7a4 28 = .ok (.iadd, 1) := by decide +kernel
theorem dJ6_bitCount_0f7a4_29 : decode cJ6_bitCount_0f7a4 29 = .ok (.ldc_w 267, 3) := by decide +kernel
theorem dJ6_bitCount_0f7a4_32 : decode cJ6_bitCount_0f7a4 32 = .ok (.iand, 1) := by decide +kernel
theorem dJ6_bitCount_0f7a4_33 : decode cJ6_bitCount_0f7a4 33 = .ok (.istore_n 0, 1) := by decide +kernel
theorem dJ6_bitCount_0f7a4_34 : decode cJ6_bitCount_0f7a4 34 = .ok (.iload_n 0, 1) := by decide +kernel
theorem dJ6_bitCount_0f7a4_35 : decode cJ6_bitCount_0f7a4 35 = .ok (.iload_n 0, 1) := by decide +kernel
theorem dJ6_bitCount_0f7a4_36 : decode cJ6_bitCount_0f7a4 36 = .ok (.bipush 8, 2) := by decide +kernel
theorem dJ6_bitCount_0f7a4_38 : decode cJ6_bitCount_0f7a4 38 = .ok (.iushr, 1) := by decide +kernel
theorem dJ6_bitCount_0f7a4_39 : decode cJ6_bitCount_0f7a4 39 = .ok (.iadd, 1) := by decide +kernel
theorem dJ6_bitCount_0f7a4_40 : decode cJ6_bitCount_0f7a4 40 = .ok (.istore_n 0, 1) := by decide +kernel
theorem dJ6_bitCount_0f7a4_41 : decode cJ6_bitCount_0f7a4 41 = .ok (.iload_n 0, 1) := by decide +kernel
theorem dJ6_bitCount_0f7a4_42 : decode cJ6_bitCount_0f7a4 42 = .ok (.iload_n 0, 1) := by decide +kernel
theorem dJ6_bitCount_0f7a4_43 : decode cJ6_bitCount_0f7a4 43 = .ok (.bipush 16, 2) := by decide +kernel
theorem dJ6_bitCount_0f7a4_45 : decode cJ6_bitCount_0f7a4 45 = .ok (.iushr, 1) := by decide +kernel
theorem dJ6_bitCount_0f7a4_46 : decode cJ6_bitCount_0f7a4 46 = .ok (.iadd, 1) := by decide +kernel
theorem dJ6_bitCount_0f7a4_47 : decode cJ6_bitCount_0f7a4 47 = .ok (.istore_n 0, 1) := by decide +kernel
theorem dJ6_bitCount_0f7a4_48 : decode cJ6_bitCount_0f7a4 48 = .ok (.iload_n 0, 1) := by decide +kernel
theorem dJ6_bitCount_0f7a4_49 : decode cJ6_bitCount_0f7a4 49 = .ok (.bipush 63, 2) := by decide +kernel
theorem dJ6_bitCount_0f7a4_51 : decode cJ6_bitCount_0f7a4 51 = .ok (.iand, 1) := by decide +kernel
theorem dJ6_bitCount_0f7a4_52 : decode cJ6_bitCount_0f7a4 52 = .ok (.ireturn, 1) := by decide +kernel
theorem dJ9_min_7cf53_0 : decode cJ9_min_7cf53 0 = .ok (.iload_n 0, 1) := by decide +kernel
theorem dJ9_min_7cf53_1 : decode cJ9_min_7cf53 1 = .ok (.iload_n 1, 1) := by decide +kernel
theorem dJ9_min_7cf53_2 : decode cJ9_min_7cf53 2 = .ok (.if_icmp .gt 7, 3) := by decide +kernel
theorem dJ9_min_7cf53_5 : decode cJ9_min_7cf53 5 = .ok (.iload_n 0, 1) := by decide +kernel
theorem dJ9_min_7cf53_6 : decode cJ9_min_7cf53 6 = .ok (.goto 4, 3) := by decide +kernel
theorem dJ9_min_7cf53_9 : decode cJ9_min_7cf53 9 = .ok (.iload_n 1, 1) := by decide +kernel
theorem dJ9_min_7cf53_10 : decode cJ9_min_7cf53 10 = .ok (.ireturn, 1) := by decide +kernel
theorem dL_law_0 : decode cL_law 0 = .ok (.new 7, 3) := by decide +kernel
theorem dL_law_3 : decode cL_law 3 = .ok (.dup, 1) := by decide +kernel
theorem dL_law_4 : decode cL_law 4 = .ok (.invokespecial 9, 3) := by decide +kernel
theorem dL_law_7 : decode cL_law 7 = .ok (.astore_n 1, 1) := by decide +kernel
theorem dL_law_8 : decode cL_law 8 = .ok (.new 10, 3) := by decide +kernel
theorem dL_law_11 : decode cL_law 11 = .ok (.dup, 1) := by decide +kernel
theorem dL_law_12 : decode cL_law 12 = .ok (.invokespecial 12, 3) := by decide +kernel
theorem dL_law_15 : decode cL_law 15 = .ok (.astore_n 2, 1) := by decide +kernel
theorem dL_law_16 : decode cL_law 16 = .ok (.iconst 0, 1) := by decide +kernel
theorem dL_law_17 : decode cL_law 17 = .ok (.istore_n 3, 1) := by decide +kernel
theorem dL_law_18 : decode cL_law 18 = .ok (.iload_n 3, 1) := by decide +kernel
theorem dL_law_19 : decode cL_law 19 = .ok (.aload_n 0, 1) := by decide +kernel
theorem dL_law_20 : decode cL_law 20 = .ok (.arraylength, 1) := by decide +kernel
theorem dL_law_21 : decode cL_law 21 = .ok (.bipush 6, 2) := by decide +kernel
theorem dL_law_23 : decode cL_law 23 = .ok (.isub, 1) := by decide +kernel
theorem dL_law_24 : decode cL_law 24 = .ok (.if_icmp .gt 1073, 3) := by decide +kernel
theorem dL_law_27 : decode cL_law 27 = .ok (.aload_n 0, 1) := by decide +kernel
theorem dL_law_28 : decode cL_law 28 = .ok (.iload_n 3, 1) := by decide +kernel
theorem dL_law_29 : decode cL_law 29 = .ok (.iaload, 1) := by decide +kernel
theorem dL_law_30 : decode cL_law 30 = .ok (.bipush 31, 2) := by decide +kernel
theorem dL_law_32 : decode cL_law 32 = .ok (.iand, 1) := by decide +kernel
theorem dL_law_33 : decode cL_law 33 = .ok (.tableswitch 1058 0 28 #[131, 174, 207, 240, 273, 306, 329, 342, 365, 388, 411, 434, 447, 470, 483, 516, 539, 572, 605, 638, 661, 694, 707, 720, 783, 846, 889, 912, 995], 131) := by decide +kernel
theorem dL_law_164 : decode cL_law 164 = .ok (.aload_n 1, 1) := by decide +kernel
theorem dL_law_165 : decode cL_law 165 = .ok (.aload_n 0, 1) := by decide +kernel
theorem dL_law_166 : decode cL_law 166 = .ok (.iload_n 3, 1) := by decide +kernel
theorem dL_law_167 : decode cL_law 167 = .ok (.iconst 1, 1) := by decide +kernel
theorem dL_law_168 : decode cL_law 168 = .ok (.iadd, 1) := by decide +kernel
theorem dL_law_169 : decode cL_law 169 = .ok (.iaload, 1) := by decide +kernel
theorem dL_law_170 : decode cL_law 170 = .ok (.aload_n 0, 1) := by decide +kernel
theorem dL_law_171 : decode cL_law 171 = .ok (.iload_n 3, 1) := by decide +kernel
theorem dL_law_172 : decode cL_law 172 = .ok (.iconst 2, 1) := by decide +kernel
theorem dL_law_173 : decode cL_law 173 = .ok (.iadd, 1) := by decide +kernel
theorem dL_law_174 : decode cL_law 174 = .ok (.iaload, 1) := by decide +kernel
theorem dL_law_175 : decode cL_law 175 = .ok (.aload_n 0, 1) := by decide +kernel
theorem dL_law_176 : decode cL_law 176 = .ok (.iload_n 3, 1) := by decide +kernel
theorem dL_law_177 : decode cL_law 177 = .ok (.iconst 3, 1) := by decide +kernel
theorem dL_law_178 : decode cL_law 178 = .ok (.iadd, 1) := by decide +kernel
theorem dL_law_179 : decode cL_law 179 = .ok (.iaload, 1) := by decide +kernel
theorem dL_law_180 : decode cL_law 180 = .ok (.invokevirtual 13, 3) := by decide +kernel
theorem dL_law_183 : decode cL_law 183 = .ok (.aload_n 2, 1) := by decide +kernel
theorem dL_law_184 : decode cL_law 184 = .ok (.aload_n 0, 1) := by decide +kernel
theorem dL_law_185 : decode cL_law 185 = .ok (.iload_n 3, 1) := by decide +kernel
theorem dL_law_186 : decode cL_law 186 = .ok (.iconst 1, 1) := by decide +kernel
theorem dL_law_187 : decode cL_law 187 = .ok (.iadd, 1) := by decide +kernel
theorem dL_law_188 : decode cL_law 188 = .ok (.iaload, 1) := by decide +kernel
theorem dL_law_189 : decode cL_law 189 = .ok (.aload_n 0, 1) := by decide +kernel
theorem dL_law_190 : decode cL_law 190 = .ok (.iload_n 3, 1) := by decide +kernel
theorem dL_law_191 : decode cL_law 191 = .ok (.iconst 2, 1) := by decide +kernel
theorem dL_law_192 : decode cL_law 192 = .ok (.iadd, 1) := by decide +kernel
theorem dL_law_193 : decode cL_law 193 = .ok (.iaload, 1) := by decide +kernel
theorem dL_law_194 : decode cL_law 194 = .ok (.aload_n 0, 1) := by decide +kernel
theorem dL_law_195 : decode cL_law 195 = .ok (.iload_n 3, 1) := by decide +kernel
theorem dL_law_196 : decode cL_law 196 = .ok (.iconst 3, 1) := by decide +kernel
theorem dL_law_197 : decode cL_law 197 = .ok (.iadd, 1) := by decide +kernel
theorem dL_law_198 : decode cL_law 198 = .ok (.iaload, 1) := by decide +kernel
theorem dL_law_199 : decode cL_law 199 = .ok (.invokevirtual 17, 3) := by decide +kernel
theorem dL_law_202 : decode cL_law 202 = .ok (.if_icmp .eq 889, 3) := by decide +kernel
theorem dL_law_205 : decode cL_law 205 = .ok (.iconst 0, 1) := by decide +kernel
theorem dL_law_206 : decode cL_law 206 = .ok (.ireturn, 1) := by decide +kernel
theorem dL_law_207 : decode cL_law 207 = .ok (.aload_n 1, 1) := by decide +kernel
theorem dL_law_208 : decode cL_law 208 = .ok (.aload_n 0, 1) := by decide +kernel
theorem dL_law_209 : decode cL_law 209 = .ok (.iload_n 3, 1) := by decide +kernel
theorem dL_law_210 : decode cL_law 210 = .ok (.iconst 1, 1) := by decide +kernel
theorem dL_law_211 : decode cL_law 211 = .ok (.iadd, 1) := by decide +kernel
theorem dL_law_212 : decode cL_law 212 = .ok (.iaload, 1) := by decide +kernel
theorem dL_law_213 : decode cL_law 213 = .ok (.aload_n 0, 1) := by decide +kernel
theorem dL_law_214 : decode cL_law 214 = .ok (.iload_n 3, 1) := by decide +kernel
theorem dL_law_215 : decode cL_law 215 = .ok (.iconst 2, 1) := by decide +kernel
theorem dL_law_216 : decode cL_law 216 = .ok (.iadd, 1) := by decide +kernel
theorem dL_law_217 : decode cL_law 217 = .ok (.iaload, 1) := by decide +kernel
theorem dL_law_218 : decode cL_law 218 = .ok (.invokevirtual 18, 3) := by decide +kernel
theorem dL_law_221 : decode cL_law 221 = .ok (.aload_n 2, 1) := by decide +kernel
theorem dL_law_222 : decode cL_law 222 = .ok (.aload_n 0, 1) := by decide +kernel
theorem dL_law_223 : decode cL_law 223 = .ok (.iload_n 3, 1) := by decide +kernel
theorem dL_law_224 : decode cL_law 224 = .ok (.iconst 1, 1) := by decide +kernel
theorem dL_law_225 : decode cL_law 225 = .ok (.iadd, 1) := by decide +kernel
theorem dL_law_226 : decode cL_law 226 = .ok (.iaload, 1) := by decide +kernel
theorem dL_law_227 : decode cL_law 227 = .ok (.aload_n 0, 1) := by decide +kernel
theorem dL_law_228 : decode cL_law 228 = .ok (.iload_n 3, 1) := by decide +kernel
theorem dL_law_229 : decode cL_law 229 = .ok (.iconst 2, 1) := by decide +kernel
theorem dL_law_230 : decode cL_law 230 = .ok (.iadd, 1) := by decide +kernel
theorem dL_law_231 : decode cL_law 231 = .ok (.iaload, 1) := by decide +kernel
theorem dL_law_232 : decode cL_law 232 = .ok (.invokevirtual 22, 3) := by decide +kernel
theorem dL_law_235 : decode cL_law 235 = .ok (.if_icmp .eq 856, 3) := by decide +kernel
theorem dL_law_238 : decode cL_law 238 = .ok (.iconst 0, 1) := by decide +kernel
theorem dL_law_239 : decode cL_law 239 = .ok (.ireturn, 1) := by decide +kernel
theorem dL_law_240 : decode cL_law 240 = .ok (.aload_n 1, 1) := by decide +kernel
theorem dL_law_241 : decode cL_law 241 = .ok (.aload_n 0, 1) := by decide +kernel
theorem dL_law_242 : decode cL_law 242 = .ok (.iload_n 3, 1) := by decide +kernel
theorem dL_law_243 : decode cL_law 243 = .ok (.iconst 1, 1) := by decide +kernel
theorem dL_law_244 : decode cL_law 244 = .ok (.iadd, 1) := by decide +kernel
theorem dL_law_245 : decode cL_law 245 = .ok (.iaload, 1) := by decide +kernel
theorem dL_law_246 : decode cL_law 246 = .ok (.aload_n 0, 1) := by decide +kernel
theorem dL_law_247 : decode cL_law 247 = .ok (.iload_n 3, 1) := by decide +kernel
theorem dL_law_248 : decode cL_law 248 = .ok (.iconst 2, 1) := by decide +kernel
theorem dL_law_249 : decode cL_law 249 = .ok (.iadd, 1) := by decide +kernel
theorem dL_law_250 : decode cL_law 250 = .ok (.iaload, 1) := by decide +kernel
theorem dL_law_251 : decode cL_law 251 = .ok (.invokevirtual 23, 3) := by decide +kernel
theorem dL_law_254 : decode cL_law 254 = .ok (.aload_n 2, 1) := by decide +kernel
theorem dL_law_255 : decode cL_law 255 = .ok (.aload_n 0, 1) := by decide +kernel
theorem dL_law_256 : decode cL_law 256 = .ok (.iload_n 3, 1) := by decide +kernel
theorem dL_law_257 : decode cL_law 257 = .ok (.iconst 1, 1) := by decide +kernel
theorem dL_law_258 : decode cL_law 258 = .ok (.iadd, 1) := by decide +kernel
theorem dL_law_259 : decode cL_law 259 = .ok (.iaload, 1) := by decide +kernel
theorem dL_law_260 : decode cL_law 260 = .ok (.aload_n 0, 1) := by decide +kernel
theorem dL_law_261 : decode cL_law 261 = .ok (.iload_n 3, 1) := by decide +kernel
theorem dL_law_262 : decode cL_law 262 = .ok (.iconst 2, 1) := by decide +kernel
theorem dL_law_263 : decode cL_law 263 = .ok (.iadd, 1) := by decide +kernel
theorem dL_law_264 : decode cL_law 264 = .ok (.iaload, 1) := by decide +kernel
theorem dL_law_265 : decode cL_law 265 = .ok (.invokevirtual 26, 3) := by decide +kernel
theorem dL_law_268 : decode cL_law 268 = .ok (.if_icmp .eq 823, 3) := by decide +kernel
theorem dL_law_271 : decode cL_law 271 = .ok (.iconst 0, 1) := by decide +kernel
theorem dL_law_272 : decode cL_law 272 = .ok (.ireturn, 1) := by decide +kernel
theorem dL_law_273 : decode cL_law 273 = .ok (.aload_n 1, 1) := by decide +kernel
theorem dL_law_274 : decode cL_law 274 = .ok (.aload_n 0, 1) := by decide +kernel
theorem dL_law_275 : decode cL_law 275 = .ok (.iload_n 3, 1) := by decide +kernel
theorem dL_law_276 : decode cL_law 276 = .ok (.iconst 1, 1) := by decide +kernel
theorem dL_law_277 : decode cL_law 277 = .ok (.iadd, 1) := by decide +kernel
theorem dL_law_278 : decode cL_law 278 = .ok (.iaload, 1) := by decide +kernel
theorem dL_law_279 : decode cL_law 279 = .ok (.aload_n 0, 1) := by decide +kernel
theorem dL_law_280 : decode cL_law 280 = .ok (.iload_n 3, 1) := by decide +kernel
theorem dL_law_281 : decode cL_law 281 = .ok (.iconst 2, 1) := by decide +kernel
theorem dL_law_282 : decode cL_law 282 = .ok (.iadd, 1) := by decide +kernel
theorem dL_law_283 : decode cL_law 283 = .ok (.iaload, 1) := by decide +kernel
theorem dL_law_284 : decode cL_law 284 = .ok (.invokevirtual 27, 3) := by decide +kernel
theorem dL_law_287 : decode cL_law 287 = .ok (.aload_n 2, 1) := by decide +kernel
theorem dL_law_288 : decode cL_law 288 = .ok (.aload_n 0, 1) := by decide +kernel
theorem dL_law_289 : decode cL_law 289 = .ok (.iload_n 3, 1) := by decide +kernel
theorem dL_law_290 : decode cL_law 290 = .ok (.iconst 1, 1) := by decide +kernel
theorem dL_law_291 : decode cL_law 291 = .ok (.iadd, 1) := by decide +kernel
theorem dL_law_292 : decode cL_law 292 = .ok (.iaload, 1) := by decide +kernel
theorem dL_law_293 : decode cL_law 293 = .ok (.aload_n 0, 1) := by decide +kernel
theorem dL_law_294 : decode cL_law 294 = .ok (.iload_n 3, 1) := by decide +kernel
theorem dL_law_295 : decode cL_law 295 = .ok (.iconst 2, 1) := by decide +kernel
theorem dL_law_296 : decode cL_law 296 = .ok (.iadd, 1) := by decide +kernel
theorem dL_law_297 : decode cL_law 297 = .ok (.iaload, 1) := by decide +kernel
theorem dL_law_298 : decode cL_law 298 = .ok (.invokevirtual 30, 3) := by decide +kernel
theorem dL_law_301 : decode cL_law 301 = .ok (.if_icmp .eq 790, 3) := by decide +kernel
theorem dL_law_304 : decode cL_law 304 = .ok (.iconst 0, 1) := by decide +kernel
theorem dL_law_305 : decode cL_law 305 = .ok (.ireturn, 1) := by decide +kernel
theorem dL_law_306 : decode cL_law 306 = .ok (.aload_n 1, 1) := by decide +kernel
theorem dL_law_307 : decode cL_law 307 = .ok (.aload_n 0, 1) := by decide +kernel
theorem dL_law_308 : decode cL_law 308 = .ok (.iload_n 3, 1) := by decide +kernel
theorem dL_law_309 : decode cL_law 309 = .ok (.iconst 1, 1) := by decide +kernel
theorem dL_law_310 : decode cL_law 310 = .ok (.iadd, 1) := by decide +kernel
theorem dL_law_311 : decode cL_law 311 = .ok (.iaload, 1) := by decide +kernel
theorem dL_law_312 : decode cL_law 312 = .ok (.aload_n 0, 1) := by decide +kernel
theorem dL_law_313 : decode cL_law 313 = .ok (.iload_n 3, 1) := by decide +kernel
theorem dL_law_314 : decode cL_law 314 = .ok (.iconst 2, 1) := by decide +kernel
theorem dL_law_315 : decode cL_law 315 = .ok (.iadd, 1) := by decide +kernel
theorem dL_law_316 : decode cL_law 316 = .ok (.iaload, 1) := by decide +kernel
theorem dL_law_317 : decode cL_law 317 = .ok (.invokevirtual 31, 3) := by decide +kernel
theorem dL_law_320 : decode cL_law 320 = .ok (.aload_n 2, 1) := by decide +kernel
theorem dL_law_321 : decode cL_law 321 = .ok (.aload_n 0, 1) := by decide +kernel
theorem dL_law_322 : decode cL_law 322 = .ok (.iload_n 3, 1) := by decide +kernel
theorem dL_law_323 : decode cL_law 323 = .ok (.iconst 1, 1) := by decide +kernel
theorem dL_law_324 : decode cL_law 324 = .ok (.iadd, 1) := by decide +kernel
theorem dL_law_325 : decode cL_law 325 = .ok (.iaload, 1) := by decide +kernel
theorem dL_law_326 : decode cL_law 326 = .ok (.aload_n 0, 1) := by decide +kernel
theorem dL_law_327 : decode cL_law 327 = .ok (.iload_n 3, 1) := by decide +kernel
theorem dL_law_328 : decode cL_law 328 = .ok (.iconst 2, 1) := by decide +kernel
theorem dL_law_329 : decode cL_law 329 = .ok (.iadd, 1) := by decide +kernel
theorem dL_law_330 : decode cL_law 330 = .ok (.iaload, 1) := by decide +kernel
theorem dL_law_331 : decode cL_law 331 = .ok (.invokevirtual 34, 3) := by decide +kernel
theorem dL_law_334 : decode cL_law 334 = .ok (.if_icmp .eq 757, 3) := by decide +kernel
theorem dL_law_337 : decode cL_law 337 = .ok (.iconst 0, 1) := by decide +kernel
theorem dL_law_338 : decode cL_law 338 = .ok (.ireturn, 1) := by decide +kernel
theorem dL_law_339 : decode cL_law 339 = .ok (.aload_n 1, 1) := by decide +kernel
theorem dL_law_340 : decode cL_law 340 = .ok (.aload_n 0, 1) := by decide +kernel
theorem dL_law_341 : decode cL_law 341 = .ok (.iload_n 3, 1) := by decide +kernel
theorem dL_law_342 : decode cL_law 342 = .ok (.iconst 1, 1) := by decide +kernel
theorem dL_law_343 : decode cL_law 343 = .ok (.iadd, 1) := by decide +kernel
theorem dL_law_344 : decode cL_law 344 = .ok (.iaload, 1) := by decide +kernel
theorem dL_law_345 : decode cL_law 345 = .ok (.invokevirtual 35, 3) := by decide +kernel
theorem dL_law_348 : decode cL_law 348 = .ok (.aload_n 2, 1) := by decide +kernel
theorem dL_law_349 : decode cL_law 349 = .ok (.aload_n 0, 1) := by decide +kernel
theorem dL_law_350 : decode cL_law 350 = .ok (.iload_n 3, 1) := by decide +kernel
theorem dL_law_351 : decode cL_law 351 = .ok (.iconst 1, 1) := by decide +kernel
theorem dL_law_352 : decode cL_law 352 = .ok (.iadd, 1) := by decide +kernel
theorem dL_law_353 : decode cL_law 353 = .ok (.iaload, 1) := by decide +kernel
theorem dL_law_354 : decode cL_law 354 = .ok (.invokevirtual 39, 3) := by decide +kernel
theorem dL_law_357 : decode cL_law 357 = .ok (.if_icmp .eq 734, 3) := by decide +kernel
theorem dL_law_360 : decode cL_law 360 = .ok (.iconst 0, 1) := by decide +kernel
theorem dL_law_361 : decode cL_law 361 = .ok (.ireturn, 1) := by decide +kernel
theorem dL_law_362 : decode cL_law 362 = .ok (.aload_n 1, 1) := by decide +kernel
theorem dL_law_363 : decode cL_law 363 = .ok (.invokevirtual 40, 3) := by decide +kernel
theorem dL_law_366 : decode cL_law 366 = .ok (.aload_n 2, 1) := by decide +kernel
theorem dL_law_367 : decode cL_law 367 = .ok (.invokevirtual 44, 3) := by decide +kernel
theorem dL_law_370 : decode cL_law 370 = .ok (.if_icmp .eq 721, 3) := by decide +kernel
theorem dL_law_373 : decode cL_law 373 = .ok (.iconst 0, 1) := by decide +kernel
theorem dL_law_374 : decode cL_law 374 = .ok (.ireturn, 1) := by decide +kernel
theorem dL_law_375 : decode cL_law 375 = .ok (.aload_n 1, 1) := by decide +kernel
theorem dL_law_376 : decode cL_law 376 = .ok (.aload_n 0, 1) := by decide +kernel
theorem dL_law_377 : decode cL_law 377 = .ok (.iload_n 3, 1) := by decide +kernel
theorem dL_law_378 : decode cL_law 378 = .ok (.iconst 1, 1) := by decide +kernel
theorem dL_law_379 : decode cL_law 379 = .ok (.iadd, 1) := by decide +kernel
theorem dL_law_380 : decode cL_law 380 = .ok (.iaload, 1) := by decide +kernel
theorem dL_law_381 : decode cL_law 381 = .ok (.invokevirtual 45, 3) := by decide +kernel
theorem dL_law_384 : decode cL_law 384 = .ok (.aload_n 2, 1) := by decide +kernel
theorem dL_law_385 : decode cL_law 385 = .ok (.aload_n 0, 1) := by decide +kernel
theorem dL_law_386 : decode cL_law 386 = .ok (.iload_n 3, 1) := by decide +kernel
theorem dL_law_387 : decode cL_law 387 = .ok (.iconst 1, 1) := by decide +kernel
theorem dL_law_388 : decode cL_law 388 = .ok (.iadd, 1) := by decide +kernel
theorem dL_law_389 : decode cL_law 389 = .ok (.iaload, 1) := by decide +kernel
theorem dL_law_390 : decode cL_law 390 = .ok (.invokevirtual 48, 3) := by decide +kernel
theorem dL_law_393 : decode cL_law 393 = .ok (.if_icmp .eq 698, 3) := by decide +kernel
theorem dL_law_396 : decode cL_law 396 = .ok (.iconst 0, 1) := by decide +kernel
theorem dL_law_397 : decode cL_law 397 = .ok (.ireturn, 1) := by decide +kernel
theorem dL_law_398 : decode cL_law 398 = .ok (.aload_n 1, 1) := by decide +kernel
theorem dL_law_399 : decode cL_law 399 = .ok (.aload_n 0, 1) := by decide +kernel
theorem dL_law_400 : decode cL_law 400 = .ok (.iload_n 3, 1) := by decide +kernel
theorem dL_law_401 : decode cL_law 401 = .ok (.iconst 1, 1) := by decide +kernel
theorem dL_law_402 : decode cL_law 402 = .ok (.iadd, 1) := by decide +kernel
theorem dL_law_403 : decode cL_law 403 = .ok (.iaload, 1) := by decide +kernel
theorem dL_law_404 : decode cL_law 404 = .ok (.invokevirtual 49, 3) := by decide +kernel
theorem dL_law_407 : decode cL_law 407 = .ok (.aload_n 2, 1) := by decide +kernel
theorem dL_law_408 : decode cL_law 408 = .ok (.aload_n 0, 1) := by decide +kernel
theorem dL_law_409 : decode cL_law 409 = .ok (.iload_n 3, 1) := by decide +kernel
theorem dL_law_410 : decode cL_law 410 = .ok (.iconst 1, 1) := by decide +kernel
theorem dL_law_411 : decode cL_law 411 = .ok (.iadd, 1) := by decide +kernel
theorem dL_law_412 : decode cL_law 412 = .ok (.iaload, 1) := by decide +kernel
theorem dL_law_413 : decode cL_law 413 = .ok (.invokevirtual 52, 3) := by decide +kernel
theorem dL_law_416 : decode cL_law 416 = .ok (.if_icmp .eq 675, 3) := by decide +kernel
theorem dL_law_419 : decode cL_law 419 = .ok (.iconst 0, 1) := by decide +kernel
theorem dL_law_420 : decode cL_law 420 = .ok (.ireturn, 1) := by decide +kernel
theorem dL_law_421 : decode cL_law 421 = .ok (.aload_n 1, 1) := by decide +kernel
theorem dL_law_422 : decode cL_law 422 = .ok (.aload_n 0, 1) := by decide +kernel
theorem dL_law_423 : decode cL_law 423 = .ok (.iload_n 3, 1) := by decide +kernel
theorem dL_law_424 : decode cL_law 424 = .ok (.iconst 1, 1) := by decide +kernel
theorem dL_law_425 : decode cL_law 425 = .ok (.iadd, 1) := by decide +kernel
theorem dL_law_426 : decode cL_law 426 = .ok (.iaload, 1) := by decide +kernel
theorem dL_law_427 : decode cL_law 427 = .ok (.invokevirtual 53, 3) := by decide +kernel
theorem dL_law_430 : decode cL_law 430 = .ok (.aload_n 2, 1) := by decide +kernel
theorem dL_law_431 : decode cL_law 431 = .ok (.aload_n 0, 1) := by decide +kernel
theorem dL_law_432 : decode cL_law 432 = .ok (.iload_n 3, 1) := by decide +kernel
theorem dL_law_433 : decode cL_law 433 = .ok (.iconst 1, 1) := by decide +kernel
theorem dL_law_434 : decode cL_law 434 = .ok (.iadd, 1) := by decide +kernel
theorem dL_law_435 : decode cL_law 435 = .ok (.iaload, 1) := by decide +kernel
theorem dL_law_436 : decode cL_law 436 = .ok (.invokevirtual 56, 3) := by decide +kernel
theorem dL_law_439 : decode cL_law 439 = .ok (.if_icmp .eq 652, 3) := by decide +kernel
theorem dL_law_442 : decode cL_law 442 = .ok (.iconst 0, 1) := by decide +kernel
theorem dL_law_443 : decode cL_law 443 = .ok (.ireturn, 1) := by decide +kernel
theorem dL_law_444 : decode cL_law 444 = .ok (.aload_n 1, 1) := by decide +kernel
theorem dL_law_445 : decode cL_law 445 = .ok (.aload_n 0, 1) := by decide +kernel
theorem dL_law_446 : decode cL_law 446 = .ok (.iload_n 3, 1) := by decide +kernel
theorem dL_law_447 : decode cL_law 447 = .ok (.iconst 1, 1) := by decide +kernel
theorem dL_law_448 : decode cL_law 448 = .ok (.iadd, 1) := by decide +kernel
theorem dL_law_449 : decode cL_law 449 = .ok (.iaload, 1) := by decide +kernel
theorem dL_law_450 : decode cL_law 450 = .ok (.invokevirtual 57, 3) := by decide +kernel
theorem dL_law_453 : decode cL_law 453 = .ok (.aload_n 2, 1) := by decide +kernel
theorem dL_law_454 : decode cL_law 454 = .ok (.aload_n 0, 1) := by decide +kernel
theorem dL_law_455 : decode cL_law 455 = .ok (.iload_n 3, 1) := by decide +kernel
theorem dL_law_456 : decode cL_law 456 = .ok (.iconst 1, 1) := by decide +kernel
theorem dL_law_457 : decode cL_law 457 = .ok (.iadd, 1) := by decide +kernel
theorem dL_law_458 : decode cL_law 458 = .ok (.iaload, 1) := by decide +kernel
theorem dL_law_459 : decode cL_law 459 = .ok (.invokevirtual 60, 3) := by decide +kernel
theorem dL_law_462 : decode cL_law 462 = .ok (.if_icmp .eq 629, 3) := by decide +kernel
theorem dL_law_465 : decode cL_law 465 = .ok (.iconst 0, 1) := by decide +kernel
theorem dL_law_466 : decode cL_law 466 = .ok (.ireturn, 1) := by decide +kernel
theorem dL_law_467 : decode cL_law 467 = .ok (.aload_n 1, 1) := by decide +kernel
theorem dL_law_468 : decode cL_law 468 = .ok (.invokevirtual 61, 3) := by decide +kernel
theorem dL_law_471 : decode cL_law 471 = .ok (.aload_n 2, 1) := by decide +kernel
theorem dL_law_472 : decode cL_law 472 = .ok (.invokevirtual 64, 3) := by decide +kernel
theorem dL_law_475 : decode cL_law 475 = .ok (.if_icmp .eq 616, 3) := by decide +kernel
theorem dL_law_478 : decode cL_law 478 = .ok (.iconst 0, 1) := by decide +kernel
theorem dL_law_479 : decode cL_law 479 = .ok (.ireturn, 1) := by decide +kernel
theorem dL_law_480 : decode cL_law 480 = .ok (.aload_n 1, 1) := by decide +kernel
theorem dL_law_481 : decode cL_law 481 = .ok (.aload_n 0, 1) := by decide +kernel
theorem dL_law_482 : decode cL_law 482 = .ok (.iload_n 3, 1) := by decide +kernel
theorem dL_law_483 : decode cL_law 483 = .ok (.iconst 1, 1) := by decide +kernel
theorem dL_law_484 : decode cL_law 484 = .ok (.iadd, 1) := by decide +kernel
theorem dL_law_485 : decode cL_law 485 = .ok (.iaload, 1) := by decide +kernel
theorem dL_law_486 : decode cL_law 486 = .ok (.invokevirtual 65, 3) := by decide +kernel
theorem dL_law_489 : decode cL_law 489 = .ok (.aload_n 2, 1) := by decide +kernel
theorem dL_law_490 : decode cL_law 490 = .ok (.aload_n 0, 1) := by decide +kernel
theorem dL_law_491 : decode cL_law 491 = .ok (.iload_n 3, 1) := by decide +kernel
theorem dL_law_492 : decode cL_law 492 = .ok (.iconst 1, 1) := by decide +kernel
theorem dL_law_493 : decode cL_law 493 = .ok (.iadd, 1) := by decide +kernel
theorem dL_law_494 : decode cL_law 494 = .ok (.iaload, 1) := by decide +kernel
theorem dL_law_495 : decode cL_law 495 = .ok (.invokevirtual 68, 3) := by decide +kernel
theorem dL_law_498 : decode cL_law 498 = .ok (.if_icmp .eq 593, 3) := by decide +kernel
theorem dL_law_501 : decode cL_law 501 = .ok (.iconst 0, 1) := by decide +kernel
theorem dL_law_502 : decode cL_law 502 = .ok (.ireturn, 1) := by decide +kernel
theorem dL_law_503 : decode cL_law 503 = .ok (.aload_n 1, 1) := by decide +kernel
theorem dL_law_504 : decode cL_law 504 = .ok (.invokevirtual 69, 3) := by decide +kernel
theorem dL_law_507 : decode cL_law 507 = .ok (.aload_n 2, 1) := by decide +kernel
theorem dL_law_508 : decode cL_law 508 = .ok (.invokevirtual 72, 3) := by decide +kernel
theorem dL_law_511 : decode cL_law 511 = .ok (.if_icmp .eq 580, 3) := by decide +kernel
theorem dL_law_514 : decode cL_law 514 = .ok (.iconst 0, 1) := by decide +kernel
theorem dL_law_515 : decode cL_law 515 = .ok (.ireturn, 1) := by decide +kernel
theorem dL_law_516 : decode cL_law 516 = .ok (.aload_n 1, 1) := by decide +kernel
theorem dL_law_517 : decode cL_law 517 = .ok (.aload_n 0, 1) := by decide +kernel
theorem dL_law_518 : decode cL_law 518 = .ok (.iload_n 3, 1) := by decide +kernel
theorem dL_law_519 : decode cL_law 519 = .ok (.iconst 1, 1) := by decide +kernel
theorem dL_law_520 : decode cL_law 520 = .ok (.iadd, 1) := by decide +kernel
theorem dL_law_521 : decode cL_law 521 = .ok (.iaload, 1) := by decide +kernel
theorem dL_law_522 : decode cL_law 522 = .ok (.aload_n 0, 1) := by decide +kernel
theorem dL_law_523 : decode cL_law 523 = .ok (.iload_n 3, 1) := by decide +kernel
theorem dL_law_524 : decode cL_law 524 = .ok (.iconst 2, 1) := by decide +kernel
theorem dL_law_525 : decode cL_law 525 = .ok (.iadd, 1) := by decide +kernel
theorem dL_law_526 : decode cL_law 526 = .ok (.iaload, 1) := by decide +kernel
theorem dL_law_527 : decode cL_law 527 = .ok (.invokevirtual 73, 3) := by decide +kernel
theorem dL_law_530 : decode cL_law 530 = .ok (.aload_n 2, 1) := by decide +kernel
theorem dL_law_531 : decode cL_law 531 = .ok (.aload_n 0, 1) := by decide +kernel
theorem dL_law_532 : decode cL_law 532 = .ok (.iload_n 3, 1) := by decide +kernel
theorem dL_law_533 : decode cL_law 533 = .ok (.iconst 1, 1) := by decide +kernel
theorem dL_law_534 : decode cL_law 534 = .ok (.iadd, 1) := by decide +kernel
theorem dL_law_535 : decode cL_law 535 = .ok (.iaload, 1) := by decide +kernel
theorem dL_law_536 : decode cL_law 536 = .ok (.aload_n 0, 1) := by decide +kernel
theorem dL_law_537 : decode cL_law 537 = .ok (.iload_n 3, 1) := by decide +kernel
theorem dL_law_538 : decode cL_law 538 = .ok (.iconst 2, 1) := by decide +kernel
theorem dL_law_539 : decode cL_law 539 = .ok (.iadd, 1) := by decide +kernel
theorem dL_law_540 : decode cL_law 540 = .ok (.iaload, 1) := by decide +kernel
theorem dL_law_541 : decode cL_law 541 = .ok (.invokevirtual 76, 3) := by decide +kernel
theorem dL_law_544 : decode cL_law 544 = .ok (.if_icmp .eq 547, 3) := by decide +kernel
theorem dL_law_547 : decode cL_law 547 = .ok (.iconst 0, 1) := by decide +kernel
theorem dL_law_548 : decode cL_law 548 = .ok (.ireturn, 1) := by decide +kernel
theorem dL_law_549 : decode cL_law 549 = .ok (.aload_n 1, 1) := by decide +kernel
theorem dL_law_550 : decode cL_law 550 = .ok (.aload_n 0, 1) := by decide +kernel
theorem dL_law_551 : decode cL_law 551 = .ok (.iload_n 3, 1) := by decide +kernel
theorem dL_law_552 : decode cL_law 552 = .ok (.iconst 1, 1) := by decide +kernel
theorem dL_law_553 : decode cL_law 553 = .ok (.iadd, 1) := by decide +kernel
theorem dL_law_554 : decode cL_law 554 = .ok (.iaload, 1) := by decide +kernel
theorem dL_law_555 : decode cL_law 555 = .ok (.invokevirtual 77, 3) := by decide +kernel
theorem dL_law_558 : decode cL_law 558 = .ok (.aload_n 2, 1) := by decide +kernel
theorem dL_law_559 : decode cL_law 559 = .ok (.aload_n 0, 1) := by decide +kernel
theorem dL_law_560 : decode cL_law 560 = .ok (.iload_n 3, 1) := by decide +kernel
theorem dL_law_561 : decode cL_law 561 = .ok (.iconst 1, 1) := by decide +kernel
theorem dL_law_562 : decode cL_law 562 = .ok (.iadd, 1) := by decide +kernel
theorem dL_law_563 : decode cL_law 563 = .ok (.iaload, 1) := by decide +kernel
theorem dL_law_564 : decode cL_law 564 = .ok (.invokevirtual 80, 3) := by decide +kernel
theorem dL_law_567 : decode cL_law 567 = .ok (.if_icmp .eq 524, 3) := by decide +kernel
theorem dL_law_570 : decode cL_law 570 = .ok (.iconst 0, 1) := by decide +kernel
theorem dL_law_571 : decode cL_law 571 = .ok (.ireturn, 1) := by decide +kernel
theorem dL_law_572 : decode cL_law 572 = .ok (.aload_n 1, 1) := by decide +kernel
theorem dL_law_573 : decode cL_law 573 = .ok (.aload_n 0, 1) := by decide +kernel
theorem dL_law_574 : decode cL_law 574 = .ok (.iload_n 3, 1) := by decide +kernel
theorem dL_law_575 : decode cL_law 575 = .ok (.iconst 1, 1) := by decide +kernel
theorem dL_law_576 : decode cL_law 576 = .ok (.iadd, 1) := by decide +kernel
theorem dL_law_577 : decode cL_law 577 = .ok (.iaload, 1) := by decide +kernel
theorem dL_law_578 : decode cL_law 578 = .ok (.aload_n 0, 1) := by decide +kernel
theorem dL_law_579 : decode cL_law 579 = .ok (.iload_n 3, 1) := by decide +kernel
theorem dL_law_580 : decode cL_law 580 = .ok (.iconst 2, 1) := by decide +kernel
theorem dL_law_581 : decode cL_law 581 = .ok (.iadd, 1) := by decide +kernel
theorem dL_law_582 : decode cL_law 582 = .ok (.iaload, 1) := by decide +kernel
theorem dL_law_583 : decode cL_law 583 = .ok (.invokevirtual 81, 3) := by decide +kernel
theorem dL_law_586 : decode cL_law 586 = .ok (.aload_n 2, 1) := by decide +kernel
theorem dL_law_587 : decode cL_law 587 = .ok (.aload_n 0, 1) := by decide +kernel
theorem dL_law_588 : decode cL_law 588 = .ok (.iload_n 3, 1) := by decide +kernel
theorem dL_law_589 : decode cL_law 589 = .ok (.iconst 1, 1) := by decide +kernel
theorem dL_law_590 : decode cL_law 590 = .ok (.iadd, 1) := by decide +kernel
theorem dL_law_591 : decode cL_law 591 = .ok (.iaload, 1) := by decide +kernel
theorem dL_law_592 : decode cL_law 592 = .ok (.aload_n 0, 1) := by decide +kernel
theorem dL_law_593 : decode cL_law 593 = .ok (.iload_n 3, 1) := by decide +kernel
theorem dL_law_594 : decode cL_law 594 = .ok (.iconst 2, 1) := by decide +kernel
theorem dL_law_595 : decode cL_law 595 = .ok (.iadd, 1) := by decide +kernel
theorem dL_law_596 : decode cL_law 596 = .ok (.iaload, 1) := by decide +kernel
theorem dL_law_597 : decode cL_law 597 = .ok (.invokevirtual 84, 3) := by decide +kernel
theorem dL_law_600 : decode cL_law 600 = .ok (.if_icmp .eq 491, 3) := by decide +kernel
theorem dL_law_603 : decode cL_law 603 = .ok (.iconst 0, 1) := by decide +kernel
theorem dL_law_604 : decode cL_law 604 = .ok (.ireturn, 1) := by decide +kernel
theorem dL_law_605 : decode cL_law 605 = .ok (.aload_n 1, 1) := by decide +kernel
theorem dL_law_606 : decode cL_law 606 = .ok (.aload_n 0, 1) := by decide +kernel
theorem dL_law_607 : decode cL_law 607 = .ok (.iload_n 3, 1) := by decide +kernel
theorem dL_law_608 : decode cL_law 608 = .ok (.iconst 1, 1) := by decide +kernel
theorem dL_law_609 : decode cL_law 609 = .ok (.iadd, 1) := by decide +kernel
theorem dL_law_610 : decode cL_law 610 = .ok (.iaload, 1) := by decide +kernel
theorem dL_law_611 : decode cL_law 611 = .ok (.aload_n 0, 1) := by decide +kernel
theorem dL_law_612 : decode cL_law 612 = .ok (.iload_n 3, 1) := by decide +kernel
theorem dL_law_613 : decode cL_law 613 = .ok (.iconst 2, 1) := by decide +kernel
theorem dL_law_614 : decode cL_law 614 = .ok (.iadd, 1) := by decide +kernel
theorem dL_law_615 : decode cL_law 615 = .ok (.iaload, 1) := by decide +kernel
theorem dL_law_616 : decode cL_law 616 = .ok (.invokevirtual 85, 3) := by decide +kernel
theorem dL_law_619 : decode cL_law 619 = .ok (.aload_n 2, 1) := by decide +kernel
theorem dL_law_620 : decode cL_law 620 = .ok (.aload_n 0, 1) := by decide +kernel
theorem dL_law_621 : decode cL_law 621 = .ok (.iload_n 3, 1) := by decide +kernel
theorem dL_law_622 : decode cL_law 622 = .ok (.iconst 1, 1) := by decide +kernel
theorem dL_law_623 : decode cL_law 623 = .ok (.iadd, 1) := by decide +kernel
theorem dL_law_624 : decode cL_law 624 = .ok (.iaload, 1) := by decide +kernel
theorem dL_law_625 : decode cL_law 625 = .ok (.aload_n 0, 1) := by decide +kernel
theorem dL_law_626 : decode cL_law 626 = .ok (.iload_n 3, 1) := by decide +kernel
theorem dL_law_627 : decode cL_law 627 = .ok (.iconst 2, 1) := by decide +kernel
theorem dL_law_628 : decode cL_law 628 = .ok (.iadd, 1) := by decide +kernel
theorem dL_law_629 : decode cL_law 629 = .ok (.iaload, 1) := by decide +kernel
theorem dL_law_630 : decode cL_law 630 = .ok (.invokevirtual 88, 3) := by decide +kernel
theorem dL_law_633 : decode cL_law 633 = .ok (.if_icmp .eq 458, 3) := by decide +kernel
theorem dL_law_636 : decode cL_law 636 = .ok (.iconst 0, 1) := by decide +kernel
theorem dL_law_637 : decode cL_law 637 = .ok (.ireturn, 1) := by decide +kernel
theorem dL_law_638 : decode cL_law 638 = .ok (.aload_n 1, 1) := by decide +kernel
theorem dL_law_639 : decode cL_law 639 = .ok (.aload_n 0, 1) := by decide +kernel
theorem dL_law_640 : decode cL_law 640 = .ok (.iload_n 3, 1) := by decide +kernel
theorem dL_law_641 : decode cL_law 641 = .ok (.iconst 1, 1) := by decide +kernel
theorem dL_law_642 : decode cL_law 642 = .ok (.iadd, 1) := by decide +kernel
theorem dL_law_643 : decode cL_law 643 = .ok (.iaload, 1) := by decide +kernel
theorem dL_law_644 : decode cL_law 644 = .ok (.aload_n 0, 1) := by decide +kernel
theorem dL_law_645 : decode cL_law 645 = .ok (.iload_n 3, 1) := by decide +kernel
theorem dL_law_646 : decode cL_law 646 = .ok (.iconst 2, 1) := by decide +kernel
theorem dL_law_647 : decode cL_law 647 = .ok (.iadd, 1) := by decide +kernel
theorem dL_law_648 : decode cL_law 648 = .ok (.iaload, 1) := by decide +kernel
theorem dL_law_649 : decode cL_law 649 = .ok (.invokevirtual 89, 3) := by decide +kernel
theorem dL_law_652 : decode cL_law 652 = .ok (.aload_n 2, 1) := by decide +kernel
theorem dL_law_653 : decode cL_law 653 = .ok (.aload_n 0, 1) := by decide +kernel
theorem dL_law_654 : decode cL_law 654 = .ok (.iload_n 3, 1) := by decide +kernel
theorem dL_law_655 : decode cL_law 655 = .ok (.iconst 1, 1) := by decide +kernel
theorem dL_law_656 : decode cL_law 656 = .ok (.iadd, 1) := by decide +kernel
theorem dL_law_657 : decode cL_law 657 = .ok (.iaload, 1) := by decide +kernel
theorem dL_law_658 : decode cL_law 658 = .ok (.aload_n 0, 1) := by decide +kernel
theorem dL_law_659 : decode cL_law 659 = .ok (.iload_n 3, 1) := by decide +kernel
theorem dL_law_660 : decode cL_law 660 = .ok (.iconst 2, 1) := by decide +kernel
theorem dL_law_661 : decode cL_law 661 = .ok (.iadd, 1) := by decide +kernel
theorem dL_law_662 : decode cL_law 662 = .ok (.iaload, 1) := by decide +kernel
theorem dL_law_663 : decode cL_law 663 = .ok (.invokevirtual 92, 3) := by decide +kernel
theorem dL_law_666 : decode cL_law 666 = .ok (.if_icmp .eq 425, 3) := by decide +kernel
theorem dL_law_669 : decode cL_law 669 = .ok (.iconst 0, 1) := by decide +kernel
theorem dL_law_670 : decode cL_law 670 = .ok (.ireturn, 1) := by decide +kernel
theorem dL_law_671 : decode cL_law 671 = .ok (.aload_n 1, 1) := by decide +kernel
theorem dL_law_672 : decode cL_law 672 = .ok (.aload_n 0, 1) := by decide +kernel
theorem dL_law_673 : decode cL_law 673 = .ok (.iload_n 3, 1) := by decide +kernel
theorem dL_law_674 : decode cL_law 674 = .ok (.iconst 1, 1) := by decide +kernel
theorem dL_law_675 : decode cL_law 675 = .ok (.iadd, 1) := by decide +kernel
theorem dL_law_676 : decode cL_law 676 = .ok (.iaload, 1) := by decide +kernel
theorem dL_law_677 : decode cL_law 677 = .ok (.invokevirtual 93, 3) := by decide +kernel
theorem dL_law_680 : decode cL_law 680 = .ok (.aload_n 2, 1) := by decide +kernel
theorem dL_law_681 : decode cL_law 681 = .ok (.aload_n 0, 1) := by decide +kernel
theorem dL_law_682 : decode cL_law 682 = .ok (.iload_n 3, 1) := by decide +kernel
theorem dL_law_683 : decode cL_law 683 = .ok (.iconst 1, 1) := by decide +kernel
theorem dL_law_684 : decode cL_law 684 = .ok (.iadd, 1) := by decide +kernel
theorem dL_law_685 : decode cL_law 685 = .ok (.iaload, 1) := by decide +kernel
theorem dL_law_686 : decode cL_law 686 = .ok (.invokevirtual 96, 3) := by decide +kernel
theorem dL_law_689 : decode cL_law 689 = .ok (.if_icmp .eq 402, 3) := by decide +kernel
theorem dL_law_692 : decode cL_law 692 = .ok (.iconst 0, 1) := by decide +kernel
theorem dL_law_693 : decode cL_law 693 = .ok (.ireturn, 1) := by decide +kernel
theorem dL_law_694 : decode cL_law 694 = .ok (.aload_n 1, 1) := by decide +kernel
theorem dL_law_695 : decode cL_law 695 = .ok (.aload_n 0, 1) := by decide +kernel
theorem dL_law_696 : decode cL_law 696 = .ok (.iload_n 3, 1) := by decide +kernel
theorem dL_law_697 : decode cL_law 697 = .ok (.iconst 1, 1) := by decide +kernel
theorem dL_law_698 : decode cL_law 698 = .ok (.iadd, 1) := by decide +kernel
theorem dL_law_699 : decode cL_law 699 = .ok (.iaload, 1) := by decide +kernel
theorem dL_law_700 : decode cL_law 700 = .ok (.aload_n 0, 1) := by decide +kernel
theorem dL_law_701 : decode cL_law 701 = .ok (.iload_n 3, 1) := by decide +kernel
theorem dL_law_702 : decode cL_law 702 = .ok (.iconst 2, 1) := by decide +kernel
theorem dL_law_703 : decode cL_law 703 = .ok (.iadd, 1) := by decide +kernel
theorem dL_law_704 : decode cL_law 704 = .ok (.iaload, 1) := by decide +kernel
theorem dL_law_705 : decode cL_law 705 = .ok (.invokevirtual 97, 3) := by decide +kernel
theorem dL_law_708 : decode cL_law 708 = .ok (.aload_n 2, 1) := by decide +kernel
theorem dL_law_709 : decode cL_law 709 = .ok (.aload_n 0, 1) := by decide +kernel
theorem dL_law_710 : decode cL_law 710 = .ok (.iload_n 3, 1) := by decide +kernel
theorem dL_law_711 : decode cL_law 711 = .ok (.iconst 1, 1) := by decide +kernel
theorem dL_law_712 : decode cL_law 712 = .ok (.iadd, 1) := by decide +kernel
theorem dL_law_713 : decode cL_law 713 = .ok (.iaload, 1) := by decide +kernel
theorem dL_law_714 : decode cL_law 714 = .ok (.aload_n 0, 1) := by decide +kernel
theorem dL_law_715 : decode cL_law 715 = .ok (.iload_n 3, 1) := by decide +kernel
theorem dL_law_716 : decode cL_law 716 = .ok (.iconst 2, 1) := by decide +kernel
theorem dL_law_717 : decode cL_law 717 = .ok (.iadd, 1) := by decide +kernel
theorem dL_law_718 : decode cL_law 718 = .ok (.iaload, 1) := by decide +kernel
theorem dL_law_719 : decode cL_law 719 = .ok (.invokevirtual 100, 3) := by decide +kernel
theorem dL_law_722 : decode cL_law 722 = .ok (.if_icmp .eq 369, 3) := by decide +kernel
theorem dL_law_725 : decode cL_law 725 = .ok (.iconst 0, 1) := by decide +kernel
theorem dL_law_726 : decode cL_law 726 = .ok (.ireturn, 1) := by decide +kernel
theorem dL_law_727 : decode cL_law 727 = .ok (.aload_n 1, 1) := by decide +kernel
theorem dL_law_728 : decode cL_law 728 = .ok (.invokevirtual 101, 3) := by decide +kernel
theorem dL_law_731 : decode cL_law 731 = .ok (.aload_n 2, 1) := by decide +kernel
theorem dL_law_732 : decode cL_law 732 = .ok (.invokevirtual 104, 3) := by decide +kernel
theorem dL_law_735 : decode cL_law 735 = .ok (.if_icmp .eq 356, 3) := by decide +kernel
theorem dL_law_738 : decode cL_law 738 = .ok (.iconst 0, 1) := by decide +kernel
theorem dL_law_739 : decode cL_law 739 = .ok (.ireturn, 1) := by decide +kernel
theorem dL_law_740 : decode cL_law 740 = .ok (.aload_n 1, 1) := by decide +kernel
theorem dL_law_741 : decode cL_law 741 = .ok (.invokevirtual 105, 3) := by decide +kernel
theorem dL_law_744 : decode cL_law 744 = .ok (.aload_n 2, 1) := by decide +kernel
theorem dL_law_745 : decode cL_law 745 = .ok (.invokevirtual 108, 3) := by decide +kernel
theorem dL_law_748 : decode cL_law 748 = .ok (.if_icmp .eq 343, 3) := by decide +kernel
theorem dL_law_751 : decode cL_law 751 = .ok (.iconst 0, 1) := by decide +kernel
theorem dL_law_752 : decode cL_law 752 = .ok (.ireturn, 1) := by decide +kernel
theorem dL_law_753 : decode cL_law 753 = .ok (.aload_n 1, 1) := by decide +kernel
theorem dL_law_754 : decode cL_law 754 = .ok (.aload_n 0, 1) := by decide +kernel
theorem dL_law_755 : decode cL_law 755 = .ok (.iload_n 3, 1) := by decide +kernel
theorem dL_law_756 : decode cL_law 756 = .ok (.iconst 1, 1) := by decide +kernel
theorem dL_law_757 : decode cL_law 757 = .ok (.iadd, 1) := by decide +kernel
theorem dL_law_758 : decode cL_law 758 = .ok (.iaload, 1) := by decide +kernel
theorem dL_law_759 : decode cL_law 759 = .ok (.aload_n 0, 1) := by decide +kernel
theorem dL_law_760 : decode cL_law 760 = .ok (.iload_n 3, 1) := by decide +kernel
theorem dL_law_761 : decode cL_law 761 = .ok (.iconst 2, 1) := by decide +kernel
theorem dL_law_762 : decode cL_law 762 = .ok (.iadd, 1) := by decide +kernel
theorem dL_law_763 : decode cL_law 763 = .ok (.iaload, 1) := by decide +kernel
theorem dL_law_764 : decode cL_law 764 = .ok (.aload_n 0, 1) := by decide +kernel
theorem dL_law_765 : decode cL_law 765 = .ok (.iload_n 3, 1) := by decide +kernel
theorem dL_law_766 : decode cL_law 766 = .ok (.iconst 3, 1) := by decide +kernel
theorem dL_law_767 : decode cL_law 767 = .ok (.iadd, 1) := by decide +kernel
theorem dL_law_768 : decode cL_law 768 = .ok (.iaload, 1) := by decide +kernel
theorem dL_law_769 : decode cL_law 769 = .ok (.aload_n 0, 1) := by decide +kernel
theorem dL_law_770 : decode cL_law 770 = .ok (.iload_n 3, 1) := by decide +kernel
theorem dL_law_771 : decode cL_law 771 = .ok (.iconst 4, 1) := by decide +kernel
theorem dL_law_772 : decode cL_law 772 = .ok (.iadd, 1) := by decide +kernel
theorem dL_law_773 : decode cL_law 773 = .ok (.iaload, 1) := by decide +kernel
theorem dL_law_774 : decode cL_law 774 = .ok (.aload_n 0, 1) := by decide +kernel
theorem dL_law_775 : decode cL_law 775 = .ok (.iload_n 3, 1) := by decide +kernel
theorem dL_law_776 : decode cL_law 776 = .ok (.iconst 5, 1) := by decide +kernel
theorem dL_law_777 : decode cL_law 777 = .ok (.iadd, 1) := by decide +kernel
theorem dL_law_778 : decode cL_law 778 = .ok (.iaload, 1) := by decide +kernel
theorem dL_law_779 : decode cL_law 779 = .ok (.invokevirtual 109, 3) := by decide +kernel
theorem dL_law_782 : decode cL_law 782 = .ok (.aload_n 2, 1) := by decide +kernel
theorem dL_law_783 : decode cL_law 783 = .ok (.aload_n 0, 1) := by decide +kernel
theorem dL_law_784 : decode cL_law 784 = .ok (.iload_n 3, 1) := by decide +kernel
theorem dL_law_785 : decode cL_law 785 = .ok (.iconst 1, 1) := by decide +kernel
theorem dL_law_786 : decode cL_law 786 = .ok (.iadd, 1) := by decide +kernel
theorem dL_law_787 : decode cL_law 787 = .ok (.iaload, 1) := by decide +kernel
theorem dL_law_788 : decode cL_law 788 = .ok (.aload_n 0, 1) := by decide +kernel
theorem dL_law_789 : decode cL_law 789 = .ok (.iload_n 3, 1) := by decide +kernel
theorem dL_law_790 : decode cL_law 790 = .ok (.iconst 2, 1) := by decide +kernel
theorem dL_law_791 : decode cL_law 791 = .ok (.iadd, 1) := by decide +kernel
theorem dL_law_792 : decode cL_law 792 = .ok (.iaload, 1) := by decide +kernel
theorem dL_law_793 : decode cL_law 793 = .ok (.aload_n 0, 1) := by decide +kernel
theorem dL_law_794 : decode cL_law 794 = .ok (.iload_n 3, 1) := by decide +kernel
theorem dL_law_795 : decode cL_law 795 = .ok (.iconst 3, 1) := by decide +kernel
theorem dL_law_796 : decode cL_law 796 = .ok (.iadd, 1) := by decide +kernel
theorem dL_law_797 : decode cL_law 797 = .ok (.iaload, 1) := by decide +kernel
theorem dL_law_798 : decode cL_law 798 = .ok (.aload_n 0, 1) := by decide +kernel
theorem dL_law_799 : decode cL_law 799 = .ok (.iload_n 3, 1) := by decide +kernel
theorem dL_law_800 : decode cL_law 800 = .ok (.iconst 4, 1) := by decide +kernel
theorem dL_law_801 : decode cL_law 801 = .ok (.iadd, 1) := by decide +kernel
theorem dL_law_802 : decode cL_law 802 = .ok (.iaload, 1) := by decide +kernel
theorem dL_law_803 : decode cL_law 803 = .ok (.aload_n 0, 1) := by decide +kernel
theorem dL_law_804 : decode cL_law 804 = .ok (.iload_n 3, 1) := by decide +kernel
theorem dL_law_805 : decode cL_law 805 = .ok (.iconst 5, 1) := by decide +kernel
theorem dL_law_806 : decode cL_law 806 = .ok (.iadd, 1) := by decide +kernel
theorem dL_law_807 : decode cL_law 807 = .ok (.iaload, 1) := by decide +kernel
theorem dL_law_808 : decode cL_law 808 = .ok (.invokevirtual 113, 3) := by decide +kernel
theorem dL_law_811 : decode cL_law 811 = .ok (.if_icmp .eq 280, 3) := by decide +kernel
theorem dL_law_814 : decode cL_law 814 = .ok (.iconst 0, 1) := by decide +kernel
theorem dL_law_815 : decode cL_law 815 = .ok (.ireturn, 1) := by decide +kernel
theorem dL_law_816 : decode cL_law 816 = .ok (.aload_n 1, 1) := by decide +kernel
theorem dL_law_817 : decode cL_law 817 = .ok (.aload_n 0, 1) := by decide +kernel
theorem dL_law_818 : decode cL_law 818 = .ok (.iload_n 3, 1) := by decide +kernel
theorem dL_law_819 : decode cL_law 819 = .ok (.iconst 1, 1) := by decide +kernel
theorem dL_law_820 : decode cL_law 820 = .ok (.iadd, 1) := by decide +kernel
theorem dL_law_821 : decode cL_law 821 = .ok (.iaload, 1) := by decide +kernel
theorem dL_law_822 : decode cL_law 822 = .ok (.aload_n 0, 1) := by decide +kernel
theorem dL_law_823 : decode cL_law 823 = .ok (.iload_n 3, 1) := by decide +kernel
theorem dL_law_824 : decode cL_law 824 = .ok (.iconst 2, 1) := by decide +kernel
theorem dL_law_825 : decode cL_law 825 = .ok (.iadd, 1) := by decide +kernel
theorem dL_law_826 : decode cL_law 826 = .ok (.iaload, 1) := by decide +kernel
theorem dL_law_827 : decode cL_law 827 = .ok (.aload_n 0, 1) := by decide +kernel
theorem dL_law_828 : decode cL_law 828 = .ok (.iload_n 3, 1) := by decide +kernel
theorem dL_law_829 : decode cL_law 829 = .ok (.iconst 3, 1) := by decide +kernel
theorem dL_law_830 : decode cL_law 830 = .ok (.iadd, 1) := by decide +kernel
theorem dL_law_831 : decode cL_law 831 = .ok (.iaload, 1) := by decide +kernel
theorem dL_law_832 : decode cL_law 832 = .ok (.aload_n 0, 1) := by decide +kernel
theorem dL_law_833 : decode cL_law 833 = .ok (.iload_n 3, 1) := by decide +kernel
theorem dL_law_834 : decode cL_law 834 = .ok (.iconst 4, 1) := by decide +kernel
theorem dL_law_835 : decode cL_law 835 = .ok (.iadd, 1) := by decide +kernel
theorem dL_law_836 : decode cL_law 836 = .ok (.iaload, 1) := by decide +kernel
theorem dL_law_837 : decode cL_law 837 = .ok (.aload_n 0, 1) := by decide +kernel
theorem dL_law_838 : decode cL_law 838 = .ok (.iload_n 3, 1) := by decide +kernel
theorem dL_law_839 : decode cL_law 839 = .ok (.iconst 5, 1) := by decide +kernel
theorem dL_law_840 : decode cL_law 840 = .ok (.iadd, 1) := by decide +kernel
theorem dL_law_841 : decode cL_law 841 = .ok (.iaload, 1) := by decide +kernel
theorem dL_law_842 : decode cL_law 842 = .ok (.invokevirtual 114, 3) := by decide +kernel
theorem dL_law_845 : decode cL_law 845 = .ok (.aload_n 2, 1) := by decide +kernel
theorem dL_law_846 : decode cL_law 846 = .ok (.aload_n 0, 1) := by decide +kernel
theorem dL_law_847 : decode cL_law 847 = .ok (.iload_n 3, 1) := by decide +kernel
theorem dL_law_848 : decode cL_law 848 = .ok (.iconst 1, 1) := by decide +kernel
theorem dL_law_849 : decode cL_law 849 = .ok (.iadd, 1) := by decide +kernel
theorem dL_law_850 : decode cL_law 850 = .ok (.iaload, 1) := by decide +kernel
theorem dL_law_851 : decode cL_law 851 = .ok (.aload_n 0, 1) := by decide +kernel
theorem dL_law_852 : decode cL_law 852 = .ok (.iload_n 3, 1) := by decide +kernel
theorem dL_law_853 : decode cL_law 853 = .ok (.iconst 2, 1) := by decide +kernel
theorem dL_law_854 : decode cL_law 854 = .ok (.iadd, 1) := by decide +kernel
theorem dL_law_855 : decode cL_law 855 = .ok (.iaload, 1) := by decide +kernel
theorem dL_law_856 : decode cL_law 856 = .ok (.aload_n 0, 1) := by decide +kernel
theorem dL_law_857 : decode cL_law 857 = .ok (.iload_n 3, 1) := by decide +kernel
theorem dL_law_858 : decode cL_law 858 = .ok (.iconst 3, 1) := by decide +kernel
theorem dL_law_859 : decode cL_law 859 = .ok (.iadd, 1) := by decide +kernel
theorem dL_law_860 : decode cL_law 860 = .ok (.iaload, 1) := by decide +kernel
theorem dL_law_861 : decode cL_law 861 = .ok (.aload_n 0, 1) := by decide +kernel
theorem dL_law_862 : decode cL_law 862 = .ok (.iload_n 3, 1) := by decide +kernel
theorem dL_law_863 : decode cL_law 863 = .ok (.iconst 4, 1) := by decide +kernel
theorem dL_law_864 : decode cL_law 864 = .ok (.iadd, 1) := by decide +kernel
theorem dL_law_865 : decode cL_law 865 = .ok (.iaload, 1) := by decide +kernel
theorem dL_law_866 : decode cL_law 866 = .ok (.aload_n 0, 1) := by decide +kernel
theorem dL_law_867 : decode cL_law 867 = .ok (.iload_n 3, 1) := by decide +kernel
theorem dL_law_868 : decode cL_law 868 = .ok (.iconst 5, 1) := by decide +kernel
theorem dL_law_869 : decode cL_law 869 = .ok (.iadd, 1) := by decide +kernel
theorem dL_law_870 : decode cL_law 870 = .ok (.iaload, 1) := by decide +kernel
theorem dL_law_871 : decode cL_law 871 = .ok (.invokevirtual 117, 3) := by decide +kernel
theorem dL_law_874 : decode cL_law 874 = .ok (.if_icmp .eq 217, 3) := by decide +kernel
theorem dL_law_877 : decode cL_law 877 = .ok (.iconst 0, 1) := by decide +kernel
theorem dL_law_878 : decode cL_law 878 = .ok (.ireturn, 1) := by decide +kernel
theorem dL_law_879 : decode cL_law 879 = .ok (.aload_n 1, 1) := by decide +kernel
theorem dL_law_880 : decode cL_law 880 = .ok (.aload_n 0, 1) := by decide +kernel
theorem dL_law_881 : decode cL_law 881 = .ok (.iload_n 3, 1) := by decide +kernel
theorem dL_law_882 : decode cL_law 882 = .ok (.iconst 1, 1) := by decide +kernel
theorem dL_law_883 : decode cL_law 883 = .ok (.iadd, 1) := by decide +kernel
theorem dL_law_884 : decode cL_law 884 = .ok (.iaload, 1) := by decide +kernel
theorem dL_law_885 : decode cL_law 885 = .ok (.aload_n 0, 1) := by decide +kernel
theorem dL_law_886 : decode cL_law 886 = .ok (.iload_n 3, 1) := by decide +kernel
theorem dL_law_887 : decode cL_law 887 = .ok (.iconst 2, 1) := by decide +kernel
theorem dL_law_888 : decode cL_law 888 = .ok (.iadd, 1) := by decide +kernel
theorem dL_law_889 : decode cL_law 889 = .ok (.iaload, 1) := by decide +kernel
theorem dL_law_890 : decode cL_law 890 = .ok (.aload_n 0, 1) := by decide +kernel
theorem dL_law_891 : decode cL_law 891 = .ok (.iload_n 3, 1) := by decide +kernel
theorem dL_law_892 : decode cL_law 892 = .ok (.iconst 3, 1) := by decide +kernel
theorem dL_law_893 : decode cL_law 893 = .ok (.iadd, 1) := by decide +kernel
theorem dL_law_894 : decode cL_law 894 = .ok (.iaload, 1) := by decide +kernel
theorem dL_law_895 : decode cL_law 895 = .ok (.invokevirtual 118, 3) := by decide +kernel
theorem dL_law_898 : decode cL_law 898 = .ok (.aload_n 2, 1) := by decide +kernel
theorem dL_law_899 : decode cL_law 899 = .ok (.aload_n 0, 1) := by decide +kernel
theorem dL_law_900 : decode cL_law 900 = .ok (.iload_n 3, 1) := by decide +kernel
theorem dL_law_901 : decode cL_law 901 = .ok (.iconst 1, 1) := by decide +kernel
theorem dL_law_902 : decode cL_law 902 = .ok (.iadd, 1) := by decide +kernel
theorem dL_law_903 : decode cL_law 903 = .ok (.iaload, 1) := by decide +kernel
theorem dL_law_904 : decode cL_law 904 = .ok (.aload_n 0, 1) := by decide +kernel
theorem dL_law_905 : decode cL_law 905 = .ok (.iload_n 3, 1) := by decide +kernel
theorem dL_law_906 : decode cL_law 906 = .ok (.iconst 2, 1) := by decide +kernel
theorem dL_law_907 : decode cL_law 907 = .ok (.iadd, 1) := by decide +kernel
theorem dL_law_908 : decode cL_law 908 = .ok (.iaload, 1) := by decide +kernel
theorem dL_law_909 : decode cL_law 909 = .ok (.aload_n 0, 1) := by decide +kernel
theorem dL_law_910 : decode cL_law 910 = .ok (.iload_n 3, 1) := by decide +kernel
theorem dL_law_911 : decode cL_law 911 = .ok (.iconst 3, 1) := by decide +kernel
theorem dL_law_912 : decode cL_law 912 = .ok (.iadd, 1) := by decide +kernel
theorem dL_law_913 : decode cL_law 913 = .ok (.iaload, 1) := by decide +kernel
theorem dL_law_914 : decode cL_law 914 = .ok (.invokevirtual 121, 3) := by decide +kernel
theorem dL_law_917 : decode cL_law 917 = .ok (.if_icmp .eq 174, 3) := by decide +kernel
theorem dL_law_920 : decode cL_law 920 = .ok (.iconst 0, 1) := by decide +kernel
theorem dL_law_921 : decode cL_law 921 = .ok (.ireturn, 1) := by decide +kernel
theorem dL_law_922 : decode cL_law 922 = .ok (.aload_n 1, 1) := by decide +kernel
theorem dL_law_923 : decode cL_law 923 = .ok (.aload_n 0, 1) := by decide +kernel
theorem dL_law_924 : decode cL_law 924 = .ok (.iload_n 3, 1) := by decide +kernel
theorem dL_law_925 : decode cL_law 925 = .ok (.iconst 1, 1) := by decide +kernel
theorem dL_law_926 : decode cL_law 926 = .ok (.iadd, 1) := by decide +kernel
theorem dL_law_927 : decode cL_law 927 = .ok (.iaload, 1) := by decide +kernel
theorem dL_law_928 : decode cL_law 928 = .ok (.invokevirtual 122, 3) := by decide +kernel
theorem dL_law_931 : decode cL_law 931 = .ok (.aload_n 2, 1) := by decide +kernel
theorem dL_law_932 : decode cL_law 932 = .ok (.aload_n 0, 1) := by decide +kernel
theorem dL_law_933 : decode cL_law 933 = .ok (.iload_n 3, 1) := by decide +kernel
theorem dL_law_934 : decode cL_law 934 = .ok (.iconst 1, 1) := by decide +kernel
theorem dL_law_935 : decode cL_law 935 = .ok (.iadd, 1) := by decide +kernel
theorem dL_law_936 : decode cL_law 936 = .ok (.iaload, 1) := by decide +kernel
theorem dL_law_937 : decode cL_law 937 = .ok (.invokevirtual 125, 3) := by decide +kernel
theorem dL_law_940 : decode cL_law 940 = .ok (.if_icmp .eq 151, 3) := by decide +kernel
theorem dL_law_943 : decode cL_law 943 = .ok (.iconst 0, 1) := by decide +kernel
theorem dL_law_944 : decode cL_law 944 = .ok (.ireturn, 1) := by decide +kernel
theorem dL_law_945 : decode cL_law 945 = .ok (.aload_n 1, 1) := by decide +kernel
theorem dL_law_946 : decode cL_law 946 = .ok (.aload_n 0, 1) := by decide +kernel
theorem dL_law_947 : decode cL_law 947 = .ok (.iload_n 3, 1) := by decide +kernel
theorem dL_law_948 : decode cL_law 948 = .ok (.iconst 1, 1) := by decide +kernel
theorem dL_law_949 : decode cL_law 949 = .ok (.iadd, 1) := by decide +kernel
theorem dL_law_950 : decode cL_law 950 = .ok (.iaload, 1) := by decide +kernel
theorem dL_law_951 : decode cL_law 951 = .ok (.aload_n 0, 1) := by decide +kernel
theorem dL_law_952 : decode cL_law 952 = .ok (.iload_n 3, 1) := by decide +kernel
theorem dL_law_953 : decode cL_law 953 = .ok (.iconst 2, 1) := by decide +kernel
theorem dL_law_954 : decode cL_law 954 = .ok (.iadd, 1) := by decide +kernel
theorem dL_law_955 : decode cL_law 955 = .ok (.iaload, 1) := by decide +kernel
theorem dL_law_956 : decode cL_law 956 = .ok (.aload_n 0, 1) := by decide +kernel
theorem dL_law_957 : decode cL_law 957 = .ok (.iload_n 3, 1) := by decide +kernel
theorem dL_law_958 : decode cL_law 958 = .ok (.iconst 3, 1) := by decide +kernel
theorem dL_law_959 : decode cL_law 959 = .ok (.iadd, 1) := by decide +kernel
theorem dL_law_960 : decode cL_law 960 = .ok (.iaload, 1) := by decide +kernel
theorem dL_law_961 : decode cL_law 961 = .ok (.aload_n 0, 1) := by decide +kernel
theorem dL_law_962 : decode cL_law 962 = .ok (.iload_n 3, 1) := by decide +kernel
theorem dL_law_963 : decode cL_law 963 = .ok (.iconst 4, 1) := by decide +kernel
theorem dL_law_964 : decode cL_law 964 = .ok (.iadd, 1) := by decide +kernel
theorem dL_law_965 : decode cL_law 965 = .ok (.iaload, 1) := by decide +kernel
theorem dL_law_966 : decode cL_law 966 = .ok (.i2l, 1) := by decide +kernel
theorem dL_law_967 : decode cL_law 967 = .ok (.bipush 32, 2) := by decide +kernel
theorem dL_law_969 : decode cL_law 969 = .ok (.lshl, 1) := by decide +kernel
theorem dL_law_970 : decode cL_law 970 = .ok (.aload_n 0, 1) := by decide +kernel
theorem dL_law_971 : decode cL_law 971 = .ok (.iload_n 3, 1) := by decide +kernel
theorem dL_law_972 : decode cL_law 972 = .ok (.iconst 5, 1) := by decide +kernel
theorem dL_law_973 : decode cL_law 973 = .ok (.iadd, 1) := by decide +kernel
theorem dL_law_974 : decode cL_law 974 = .ok (.iaload, 1) := by decide +kernel
theorem dL_law_975 : decode cL_law 975 = .ok (.i2l, 1) := by decide +kernel
theorem dL_law_976 : decode cL_law 976 = .ok (.ldc2_w 126, 3) := by decide +kernel
theorem dL_law_979 : decode cL_law 979 = .ok (.land, 1) := by decide +kernel
theorem dL_law_980 : decode cL_law 980 = .ok (.lor, 1) := by decide +kernel
theorem dL_law_981 : decode cL_law 981 = .ok (.invokevirtual 128, 3) := by decide +kernel
theorem dL_law_984 : decode cL_law 984 = .ok (.aload_n 2, 1) := by decide +kernel
theorem dL_law_985 : decode cL_law 985 = .ok (.aload_n 0, 1) := by decide +kernel
theorem dL_law_986 : decode cL_law 986 = .ok (.iload_n 3, 1) := by decide +kernel
theorem dL_law_987 : decode cL_law 987 = .ok (.iconst 1, 1) := by decide +kernel
theorem dL_law_988 : decode cL_law 988 = .ok (.iadd, 1) := by decide +kernel
theorem dL_law_989 : decode cL_law 989 = .ok (.iaload, 1) := by decide +kernel
theorem dL_law_990 : decode cL_law 990 = .ok (.aload_n 0, 1) := by decide +kernel
theorem dL_law_991 : decode cL_law 991 = .ok (.iload_n 3, 1) := by decide +kernel
theorem dL_law_992 : decode cL_law 992 = .ok (.iconst 2, 1) := by decide +kernel
theorem dL_law_993 : decode cL_law 993 = .ok (.iadd, 1) := by decide +kernel
theorem dL_law_994 : decode cL_law 994 = .ok (.iaload, 1) := by decide +kernel
theorem dL_law_995 : decode cL_law 995 = .ok (.aload_n 0, 1) := by decide +kernel
theorem dL_law_996 : decode cL_law 996 = .ok (.iload_n 3, 1) := by decide +kernel
theorem dL_law_997 : decode cL_law 997 = .ok (.iconst 3, 1) := by decide +kernel
theorem dL_law_998 : decode cL_law 998 = .ok (.iadd, 1) := by decide +kernel
theorem dL_law_999 : decode cL_law 999 = .ok (.iaload, 1) := by decide +kernel
theorem dL_law_1000 : decode cL_law 1000 = .ok (.aload_n 0, 1) := by decide +kernel
theorem dL_law_1001 : decode cL_law 1001 = .ok (.iload_n 3, 1) := by decide +kernel
theorem dL_law_1002 : decode cL_law 1002 = .ok (.iconst 4, 1) := by decide +kernel
theorem dL_law_1003 : decode cL_law 1003 = .ok (.iadd, 1) := by decide +kernel
theorem dL_law_1004 : decode cL_law 1004 = .ok (.iaload, 1) := by decide +kernel
theorem dL_law_1005 : decode cL_law 1005 = .ok (.i2l, 1) := by decide +kernel
theorem dL_law_1006 : decode cL_law 1006 = .ok (.bipush 32, 2) := by decide +kernel
theorem dL_law_1008 : decode cL_law 1008 = .ok (.lshl, 1) := by decide +kernel
theorem dL_law_1009 : decode cL_law 1009 = .ok (.aload_n 0, 1) := by decide +kernel
theorem dL_law_1010 : decode cL_law 1010 = .ok (.iload_n 3, 1) := by decide +kernel
theorem dL_law_1011 : decode cL_law 1011 = .ok (.iconst 5, 1) := by decide +kernel
theorem dL_law_1012 : decode cL_law 1012 = .ok (.iadd, 1) := by decide +kernel
theorem dL_law_1013 : decode cL_law 1013 = .ok (.iaload, 1) := by decide +kernel
theorem dL_law_1014 : decode cL_law 1014 = .ok (.i2l, 1) := by decide +kernel
theorem dL_law_1015 : decode cL_law 1015 = .ok (.ldc2_w 126, 3) := by decide +kernel
theorem dL_law_1018 : decode cL_law 1018 = .ok (.land, 1) := by decide +kernel
theorem dL_law_1019 : decode cL_law 1019 = .ok (.lor, 1) := by decide +kernel
theorem dL_law_1020 : decode cL_law 1020 = .ok (.invokevirtual 132, 3) := by decide +kernel
theorem dL_law_1023 : decode cL_law 1023 = .ok (.if_icmp .eq 68, 3) := by decide +kernel
theorem dL_law_1026 : decode cL_law 1026 = .ok (.iconst 0, 1) := by decide +kernel
theorem dL_law_1027 : decode cL_law 1027 = .ok (.ireturn, 1) := by decide +kernel
theorem dL_law_1028 : decode cL_law 1028 = .ok (.aload_n 1, 1) := by decide +kernel
theorem dL_law_1029 : decode cL_law 1029 = .ok (.aload_n 0, 1) := by decide +kernel
theorem dL_law_1030 : decode cL_law 1030 = .ok (.iload_n 3, 1) := by decide +kernel
theorem dL_law_1031 : decode cL_law 1031 = .ok (.iconst 1, 1) := by decide +kernel
theorem dL_law_1032 : decode cL_law 1032 = .ok (.iadd, 1) := by decide +kernel
theorem dL_law_1033 : decode cL_law 1033 = .ok (.iaload, 1) := by decide +kernel
theorem dL_law_1034 : decode cL_law 1034 = .ok (.aload_n 0, 1) := by decide +kernel
theorem dL_law_1035 : decode cL_law 1035 = .ok (.iload_n 3, 1) := by decide +kernel
theorem dL_law_1036 : decode cL_law 1036 = .ok (.iconst 2, 1) := by decide +kernel
theorem dL_law_1037 : decode cL_law 1037 = .ok (.iadd, 1) := by decide +kernel
theorem dL_law_1038 : decode cL_law 1038 = .ok (.iaload, 1) := by decide +kernel
theorem dL_law_1039 : decode cL_law 1039 = .ok (.aload_n 0, 1) := by decide +kernel
theorem dL_law_1040 : decode cL_law 1040 = .ok (.iload_n 3, 1) := by decide +kernel
theorem dL_law_1041 : decode cL_law 1041 = .ok (.iconst 3, 1) := by decide +kernel
theorem dL_law_1042 : decode cL_law 1042 = .ok (.iadd, 1) := by decide +kernel
theorem dL_law_1043 : decode cL_law 1043 = .ok (.iaload, 1) := by decide +kernel
theorem dL_law_1044 : decode cL_law 1044 = .ok (.aload_n 0, 1) := by decide +kernel
theorem dL_law_1045 : decode cL_law 1045 = .ok (.iload_n 3, 1) := by decide +kernel
theorem dL_law_1046 : decode cL_law 1046 = .ok (.iconst 4, 1) := by decide +kernel
theorem dL_law_1047 : decode cL_law 1047 = .ok (.iadd, 1) := by decide +kernel
theorem dL_law_1048 : decode cL_law 1048 = .ok (.iaload, 1) := by decide +kernel
theorem dL_law_1049 : decode cL_law 1049 = .ok (.aload_n 0, 1) := by decide +kernel
theorem dL_law_1050 : decode cL_law 1050 = .ok (.iload_n 3, 1) := by decide +kernel
theorem dL_law_1051 : decode cL_law 1051 = .ok (.iconst 5, 1) := by decide +kernel
theorem dL_law_1052 : decode cL_law 1052 = .ok (.iadd, 1) := by decide +kernel
theorem dL_law_1053 : decode cL_law 1053 = .ok (.iaload, 1) := by decide +kernel
theorem dL_law_1054 : decode cL_law 1054 = .ok (.invokevirtual 133, 3) := by decide +kernel
theorem dL_law_1057 : decode cL_law 1057 = .ok (.aload_n 2, 1) := by decide +kernel
theorem dL_law_1058 : decode cL_law 1058 = .ok (.aload_n 0, 1) := by decide +kernel
theorem dL_law_1059 : decode cL_law 1059 = .ok (.iload_n 3, 1) := by decide +kernel
theorem dL_law_1060 : decode cL_law 1060 = .ok (.iconst 1, 1) := by decide +kernel
theorem dL_law_1061 : decode cL_law 1061 = .ok (.iadd, 1) := by decide +kernel
theorem dL_law_1062 : decode cL_law 1062 = .ok (.iaload, 1) := by decide +kernel
theorem dL_law_1063 : decode cL_law 1063 = .ok (.aload_n 0, 1) := by decide +kernel
theorem dL_law_1064 : decode cL_law 1064 = .ok (.iload_n 3, 1) := by decide +kernel
theorem dL_law_1065 : decode cL_law 1065 = .ok (.iconst 2, 1) := by decide +kernel
theorem dL_law_1066 : decode cL_law 1066 = .ok (.iadd, 1) := by decide +kernel
theorem dL_law_1067 : decode cL_law 1067 = .ok (.iaload, 1) := by decide +kernel
theorem dL_law_1068 : decode cL_law 1068 = .ok (.aload_n 0, 1) := by decide +kernel
theorem dL_law_1069 : decode cL_law 1069 = .ok (.iload_n 3, 1) := by decide +kernel
theorem dL_law_1070 : decode cL_law 1070 = .ok (.iconst 3, 1) := by decide +kernel
theorem dL_law_1071 : decode cL_law 1071 = .ok (.iadd, 1) := by decide +kernel
theorem dL_law_1072 : decode cL_law 1072 = .ok (.iaload, 1) := by decide +kernel
theorem dL_law_1073 : decode cL_law 1073 = .ok (.aload_n 0, 1) := by decide +kernel
theorem dL_law_1074 : decode cL_law 1074 = .ok (.iload_n 3, 1) := by decide +kernel
theorem dL_law_1075 : decode cL_law 1075 = .ok (.iconst 4, 1) := by decide +kernel
theorem dL_law_1076 : decode cL_law 1076 = .ok (.iadd, 1) := by decide +kernel
theorem dL_law_1077 : decode cL_law 1077 = .ok (.iaload, 1) := by decide +kernel
theorem dL_law_1078 : decode cL_law 1078 = .ok (.aload_n 0, 1) := by decide +kernel
theorem dL_law_1079 : decode cL_law 1079 = .ok (.iload_n 3, 1) := by decide +kernel
theorem dL_law_1080 : decode cL_law 1080 = .ok (.iconst 5, 1) := by decide +kernel
theorem dL_law_1081 : decode cL_law 1081 = .ok (.iadd, 1) := by decide +kernel
theorem dL_law_1082 : decode cL_law 1082 = .ok (.iaload, 1) := by decide +kernel
theorem dL_law_1083 : decode cL_law 1083 = .ok (.invokevirtual 136, 3) := by decide +kernel
theorem dL_law_1086 : decode cL_law 1086 = .ok (.if_icmp .eq 5, 3) := by decide +kernel
theorem dL_law_1089 : decode cL_law 1089 = .ok (.iconst 0, 1) := by decide +kernel
theorem dL_law_1090 : decode cL_law 1090 = .ok (.ireturn, 1) := by decide +kernel
theorem dL_law_1091 : decode cL_law 1091 = .ok (.iinc 3 6, 3) := by decide +kernel
theorem dL_law_1094 : decode cL_law 1094 = .ok (.goto (-1076), 3) := by decide +kernel
theorem dL_law_1097 : decode cL_law 1097 = .ok (.iconst 1, 1) := by decide +kernel
theorem dL_law_1098 : decode cL_law 1098 = .ok (.ireturn, 1) := by decide +kernel
end
section
/-! ===== the engine: one judgement G over a world of cells, a row an instruction ===== -/
/-- the words that stay through calls -/
def gw : List Cond := lw_tbl.filter goodWord
theorem gw_of {w : Cond} (h : w ∈ lw_tbl) (g : goodWord w = true) : w ∈ gw := List.mem_filter.mpr ⟨h, g⟩
theorem gw_good : ∀ w ∈ gw, (w.onTables && w.keeps) = true ∨ ∃ ty, w = .arrayClass ty := fun _ h => good_of_word (List.mem_filter.mp h).2
/-- what no word of gw says: casts and a declared method, which stay too -/
def Ex (U : State) : Prop := va_Nw (.castable RX3 RX5) U ∧ va_Nw (.castable RX0 RX5) U ∧ va_Nw (.castable RX2 RX5) U ∧ va_Nw (.castable RX4 RX5) U ∧ va_Nw (.declares ⟨"SummerWall$Plain", "laysInThaw", "(I)I"⟩) U
theorem Ex.warm {s U : State} (hW : s.WarmedH U.vm) (h : Ex s) : Ex U := ⟨va_Nw.warmC hW h.1, va_Nw.warmC hW h.2.1, va_Nw.warmC hW h.2.2.1, va_Nw.warmC hW h.2.2.2.1, va_Nw.warmD hW h.2.2.2.2⟩
theorem Ex.same {s U : State} (hv : s.vm = U.vm) (h : Ex s) : Ex U := ⟨va_Nw.same rfl hv h.1, va_Nw.same rfl hv h.2.1, va_Nw.same rfl hv h.2.2.1, va_Nw.same rfl hv h.2.2.2.1, va_Nw.same rfl hv h.2.2.2.2⟩
def tyK (ka : Nat → ClassId) : List (ClassId × FieldType) := [(ka 0, .int), (ka 1, .long), (ka 2, .char), (ka 3, .object "SummerWall$Plain"), (ka 4, .object "SummerWall$Sheet")]
abbrev XT : Type := Program × Launch × Env × Room × State × MethodId × Array Value × List Frame × Method × Code × va_G × (Nat → Prop) × (State → Prop)
abbrev xP (X : XT) : Program := X.1
abbrev xL (X : XT) : Launch := X.2.1
abbrev xE (X : XT) : Env := X.2.2.1
abbrev xR (X : XT) : Room := X.2.2.2.1
abbrev xS (X : XT) : State := X.2.2.2.2.1
abbrev xM (X : XT) : MethodId := X.2.2.2.2.2.1
abbrev xA (X : XT) : Array Value := X.2.2.2.2.2.2.1
abbrev xB (X : XT) : List Frame := X.2.2.2.2.2.2.2.1
abbrev xMe (X : XT) : Method := X.2.2.2.2.2.2.2.2.1
abbrev xC (X : XT) : Code := X.2.2.2.2.2.2.2.2.2.1
abbrev xD (X : XT) : va_G := X.2.2.2.2.2.2.2.2.2.2.1
abbrev xF (X : XT) : Nat → Prop := X.2.2.2.2.2.2.2.2.2.2.2.1
abbrev xQ (X : XT) : State → Prop := X.2.2.2.2.2.2.2.2.2.2.2.2
def Cx (X : XT) (cc : ByteArray) (nL : Nat) (own : String) (rt : Option FieldType) (ka : Nat → ClassId) (lvl : Nat) : Prop :=
  (xP X).tables.exec = Jvm.exec ∧ (xC X).code = cc ∧ (xC X).maxLocals = nL ∧ (xS X).vm.findClass own = some (xM X).cls ∧ (∀ w ∈ gw, w.before (xA X) (xS X) = true) ∧
  va_K (xD X) vwCl (tyK ka) (xS X) ∧ (∀ q : Nat, (xS X).heap.size ≤ q → xF X q) ∧ (xMe X).sig.returnType = rt ∧ (xMe X).locks = false ∧ lvl ≤ (xR X).frames ∧ 40 * lvl ≤ (xR X).locals ∧ Ex (xS X)
def G (X : XT) (cells slots : Nat) (ws : va_W) (pc : Nat) (lv : List (Nat × Value)) (st : List Value) : Prop :=
  ∀ (H : Heap) (locs : List Loc) (ls : Array Slot), va_P (xD X) vwCl ws H → va_D (xF X) ws → va_S (xF X) (xS X).heap H locs → lv_has ls (xC X).maxLocals lv →
    W (xP X) (xL X) (xE X) (xR X) (xS X) (xM X) (xA X) (xB X) (xMe X) (xC X) H locs cells slots (xQ X) (F0 (xM X) pc ls st)
section EK
variable {X : XT} {cc : ByteArray} {nL : Nat} {own : String} {rt : Option FieldType} {ka : Nat → ClassId} {lvl cells slots : Nat} {ws : va_W} {pc : Nat} {lv : List (Nat × Value)} {st : List Value}
theorem Cx.ex (C : Cx X cc nL own rt ka lvl) : (xP X).tables.exec = Jvm.exec := C.1
theorem Cx.co (C : Cx X cc nL own rt ka lvl) : (xC X).code = cc := C.2.1
theorem Cx.ml (C : Cx X cc nL own rt ka lvl) : (xC X).maxLocals = nL := C.2.2.1
theorem Cx.ow (C : Cx X cc nL own rt ka lvl) : (xS X).vm.findClass own = some (xM X).cls := C.2.2.2.1
theorem Cx.ts (C : Cx X cc nL own rt ka lvl) : ∀ w ∈ gw, w.before (xA X) (xS X) = true := C.2.2.2.2.1
theorem Cx.ks (C : Cx X cc nL own rt ka lvl) : va_K (xD X) vwCl (tyK ka) (xS X) := C.2.2.2.2.2.1
theorem Cx.fr (C : Cx X cc nL own rt ka lvl) : ∀ q : Nat, (xS X).heap.size ≤ q → xF X q := C.2.2.2.2.2.2.1
theorem Cx.rty (C : Cx X cc nL own rt ka lvl) : (xMe X).sig.returnType = rt := C.2.2.2.2.2.2.2.1
theorem Cx.lk (C : Cx X cc nL own rt ka lvl) : (xMe X).locks = false := C.2.2.2.2.2.2.2.2.1
theorem Cx.rf (C : Cx X cc nL own rt ka lvl) : lvl ≤ (xR X).frames := C.2.2.2.2.2.2.2.2.2.1
theorem Cx.rl (C : Cx X cc nL own rt ka lvl) : 40 * lvl ≤ (xR X).locals := C.2.2.2.2.2.2.2.2.2.2.1
theorem Cx.ext (C : Cx X cc nL own rt ka lvl) : Ex (xS X) := C.2.2.2.2.2.2.2.2.2.2.2
-- constants, locals, stack
theorem g_iconst (C : Cx X cc nL own rt ka lvl) {n : Int} (v : Int32) (d : decode cc pc = .ok (.iconst n, 1)) (hv : Int32.ofInt n = v) (k : G X cells slots ws (pc + 1) lv (.int v :: st)) : G X cells slots ws pc lv st := fun H locs ls a b s h => lv_iconst C.ex C.co d hv (k H locs ls a b s h)
theorem g_bipush (C : Cx X cc nL own rt ka lvl) {n : Int} (v : Int32) (d : decode cc pc = .ok (.bipush n, 2)) (hv : (Int8.ofInt n).toInt32 = v) (k : G X cells slots ws (pc + 2) lv (.int v :: st)) : G X cells slots ws pc lv st := fun H locs ls a b s h => lv_bipush C.ex C.co d hv (k H locs ls a b s h)
theorem g_sipush (C : Cx X cc nL own rt ka lvl) {n : Int} (v : Int32) (d : decode cc pc = .ok (.sipush n, 3)) (hv : (Int16.ofInt n).toInt32 = v) (k : G X cells slots ws (pc + 3) lv (.int v :: st)) : G X cells slots ws pc lv st := fun H locs ls a b s h => lv_sipush C.ex C.co d hv (k H locs ls a b s h)
theorem g_lconst (C : Cx X cc nL own rt ka lvl) {n : Fin 2} (v : Int64) (d : decode cc pc = .ok (.lconst n, 1)) (hv : Int64.ofNat (n : Nat) = v) (k : G X cells slots ws (pc + 1) lv (.long v :: st)) : G X cells slots ws pc lv st := fun H locs ls a b s h => lv_lconst C.ex C.co d hv (k H locs ls a b s h)
theorem g_ldc (C : Cx X cc nL own rt ka lvl) {index : Nat} {v : Int32} (hc : Cond.constant own index v ∈ gw) (d : decode cc pc = .ok (.ldc index, 2)) (k : G X cells slots ws (pc + 2) lv (.int v :: st)) : G X cells slots ws pc lv st := fun H locs ls a b s h => lv_ldc C.ex C.co C.ow (C.ts _ hc) d (k H locs ls a b s h)
theorem g_ldcw (C : Cx X cc nL own rt ka lvl) {index : Nat} {v : Int32} (hc : Cond.constant own index v ∈ gw) (d : decode cc pc = .ok (.ldc_w index, 3)) (k : G X cells slots ws (pc + 3) lv (.int v :: st)) : G X cells slots ws pc lv st := fun H locs ls a b s h => lv_ldcw C.ex C.co C.ow (C.ts _ hc) d (k H locs ls a b s h)
theorem g_ldc2 (C : Cx X cc nL own rt ka lvl) {index : Nat} {v : Int64} (hc : Cond.constantLong own index v ∈ gw) (d : decode cc pc = .ok (.ldc2_w index, 3)) (k : G X cells slots ws (pc + 3) lv (.long v :: st)) : G X cells slots ws pc lv st := fun H locs ls a b s h => lv_ldc2 C.ex C.co C.ow (C.ts _ hc) d (k H locs ls a b s h)
theorem g_iload_n (C : Cx X cc nL own rt ka lvl) {k : Fin 4} (q : Nat) {x : Int32} (d : decode cc pc = .ok (.iload_n k, 1)) (hl : lv[q]? = some ((k : Nat), .int x)) (kk : G X cells slots ws (pc + 1) lv (.int x :: st)) : G X cells slots ws pc lv st := fun H locs ls a b s h => lv_iload_n C.ex C.co d rfl (lv_at h q hl) (kk H locs ls a b s h)
theorem g_iload (C : Cx X cc nL own rt ka lvl) {i : Nat} (q : Nat) {x : Int32} (d : decode cc pc = .ok (.iload i, 2)) (hl : lv[q]? = some (i, .int x)) (kk : G X cells slots ws (pc + 2) lv (.int x :: st)) : G X cells slots ws pc lv st := fun H locs ls a b s h => lv_iload C.ex C.co d (lv_at h q hl) (kk H locs ls a b s h)
theorem g_lload_n (C : Cx X cc nL own rt ka lvl) {k : Fin 4} (q : Nat) {x : Int64} (d : decode cc pc = .ok (.lload_n k, 1)) (hl : lv[q]? = some ((k : Nat), .long x)) (kk : G X cells slots ws (pc + 1) lv (.long x :: st)) : G X cells slots ws pc lv st := fun H locs ls a b s h => lv_lload_n C.ex C.co d rfl (lv_at h q hl) (kk H locs ls a b s h)
theorem g_lload (C : Cx X cc nL own rt ka lvl) {i : Nat} (q : Nat) {x : Int64} (d : decode cc pc = .ok (.lload i, 2)) (hl : lv[q]? = some (i, .long x)) (kk : G X cells slots ws (pc + 2) lv (.long x :: st)) : G X cells slots ws pc lv st := fun H locs ls a b s h => lv_lload C.ex C.co d (lv_at h q hl) (kk H locs ls a b s h)
theorem g_aload_n (C : Cx X cc nL own rt ka lvl) {k : Fin 4} (q : Nat) {x : Nat} (d : decode cc pc = .ok (.aload_n k, 1)) (hl : lv[q]? = some ((k : Nat), .ref x)) (kk : G X cells slots ws (pc + 1) lv (.ref x :: st)) : G X cells slots ws pc lv st := fun H locs ls a b s h => lv_aload_n C.ex C.co d rfl (lv_at h q hl) (kk H locs ls a b s h)
theorem g_aload (C : Cx X cc nL own rt ka lvl) {i : Nat} (q : Nat) {x : Nat} (d : decode cc pc = .ok (.aload i, 2)) (hl : lv[q]? = some (i, .ref x)) (kk : G X cells slots ws (pc + 2) lv (.ref x :: st)) : G X cells slots ws pc lv st := fun H locs ls a b s h => lv_aload C.ex C.co d (lv_at h q hl) (kk H locs ls a b s h)
theorem g_istore_n (C : Cx X cc nL own rt ka lvl) {k : Fin 4} {x : Int32} (lv' : List (Nat × Value)) (d : decode cc pc = .ok (.istore_n k, 1)) (hn : (k : Nat) < nL) (hl : ((k : Nat), Value.int x) :: lv.filter (fun q => !(q.1 == (k : Nat)) && !(q.1 + 1 == (k : Nat) && q.2.category == 2)) = lv') (kk : G X cells slots ws (pc + 1) lv' st) : G X cells slots ws pc lv (.int x :: st) := fun H locs _ a b s h => lv_istore_n C.ex C.co d rfl h (by rw [C.ml]; exact hn) hl (fun ls' h' => kk H locs ls' a b s h')
theorem g_istore (C : Cx X cc nL own rt ka lvl) {i : Nat} {x : Int32} (lv' : List (Nat × Value)) (d : decode cc pc = .ok (.istore i, 2)) (hn : i < nL) (hl : (i, Value.int x) :: lv.filter (fun q => !(q.1 == i) && !(q.1 + 1 == i && q.2.category == 2)) = lv') (kk : G X cells slots ws (pc + 2) lv' st) : G X cells slots ws pc lv (.int x :: st) := fun H locs _ a b s h => lv_istore C.ex C.co d h (by rw [C.ml]; exact hn) hl (fun ls' h' => kk H locs ls' a b s h')
theorem g_lstore (C : Cx X cc nL own rt ka lvl) {i : Nat} {x : Int64} (lv' : List (Nat × Value)) (d : decode cc pc = .ok (.lstore i, 2)) (hn : i + 1 < nL) (hl : (i, Value.long x) :: lv.filter (fun q => !(q.1 == i) && (!(q.1 == i + 1) && !(q.1 + 1 == i && q.2.category == 2))) = lv') (kk : G X cells slots ws (pc + 2) lv' st) : G X cells slots ws pc lv (.long x :: st) := fun H locs _ a b s h => lv_lstore C.ex C.co d h (by rw [C.ml]; exact hn) hl (fun ls' h' => kk H locs ls' a b s h')
theorem g_astore_n (C : Cx X cc nL own rt ka lvl) {k : Fin 4} {x : Nat} (lv' : List (Nat × Value)) (d : decode cc pc = .ok (.astore_n k, 1)) (hn : (k : Nat) < nL) (hl : ((k : Nat), Value.ref x) :: lv.filter (fun q => !(q.1 == (k : Nat)) && !(q.1 + 1 == (k : Nat) && q.2.category == 2)) = lv') (kk : G X cells slots ws (pc + 1) lv' st) : G X cells slots ws pc lv (.ref x :: st) := fun H locs _ a b s h => lv_astore_n C.ex C.co d rfl h (by rw [C.ml]; exact hn) hl (fun ls' h' => kk H locs ls' a b s h')
theorem g_astore (C : Cx X cc nL own rt ka lvl) {i : Nat} {x : Nat} (lv' : List (Nat × Value)) (d : decode cc pc = .ok (.astore i, 2)) (hn : i < nL) (hl : (i, Value.ref x) :: lv.filter (fun q => !(q.1 == i) && !(q.1 + 1 == i && q.2.category == 2)) = lv') (kk : G X cells slots ws (pc + 2) lv' st) : G X cells slots ws pc lv (.ref x :: st) := fun H locs _ a b s h => lv_astore C.ex C.co d h (by rw [C.ml]; exact hn) hl (fun ls' h' => kk H locs ls' a b s h')
theorem g_iinc (C : Cx X cc nL own rt ka lvl) {i : Nat} (q : Nat) {n : Int} {x : Int32} (v : Int32) (lv' : List (Nat × Value)) (d : decode cc pc = .ok (.iinc i n, 3)) (hk : lv[q]? = some (i, .int x)) (hv : x + Int32.ofInt n = v) (hn : i < nL) (hl : (i, Value.int v) :: lv.filter (fun q => !(q.1 == i) && !(q.1 + 1 == i && q.2.category == 2)) = lv') (kk : G X cells slots ws (pc + 3) lv' st) : G X cells slots ws pc lv st := fun H locs _ a b s h => lv_iinc C.ex C.co d h hk hv (by rw [C.ml]; exact hn) hl (fun ls' h' => kk H locs ls' a b s h')
/-- fewer locals, in another order -/
theorem g_lv {lv' : List (Nat × Value)} (ks : List Nat) (hl : lv_pick lv ks = lv') (k : G X cells slots ws pc lv' st) : G X cells slots ws pc lv st := fun H locs ls a b s h => k H locs ls a b s (lv_sub h ks hl)
-- arithmetic
theorem g_iadd (C : Cx X cc nL own rt ka lvl) {x y : Int32} (d : decode cc pc = .ok (.iadd, 1)) (k : G X cells slots ws (pc + 1) lv (.int (x + y) :: st)) : G X cells slots ws pc lv (.int y :: .int x :: st) := fun H locs ls a b s h => lv_iadd C.ex C.co d (k H locs ls a b s h)
theorem g_isub (C : Cx X cc nL own rt ka lvl) {x y : Int32} (d : decode cc pc = .ok (.isub, 1)) (k : G X cells slots ws (pc + 1) lv (.int (x - y) :: st)) : G X cells slots ws pc lv (.int y :: .int x :: st) := fun H locs ls a b s h => lv_isub C.ex C.co d (k H locs ls a b s h)
theorem g_imul (C : Cx X cc nL own rt ka lvl) {x y : Int32} (d : decode cc pc = .ok (.imul, 1)) (k : G X cells slots ws (pc + 1) lv (.int (x * y) :: st)) : G X cells slots ws pc lv (.int y :: .int x :: st) := fun H locs ls a b s h => lv_imul C.ex C.co d (k H locs ls a b s h)
theorem g_iand (C : Cx X cc nL own rt ka lvl) {x y : Int32} (d : decode cc pc = .ok (.iand, 1)) (k : G X cells slots ws (pc + 1) lv (.int (x &&& y) :: st)) : G X cells slots ws pc lv (.int y :: .int x :: st) := fun H locs ls a b s h => lv_iand C.ex C.co d (k H locs ls a b s h)
theorem g_ior (C : Cx X cc nL own rt ka lvl) {x y : Int32} (d : decode cc pc = .ok (.ior, 1)) (k : G X cells slots ws (pc + 1) lv (.int (x ||| y) :: st)) : G X cells slots ws pc lv (.int y :: .int x :: st) := fun H locs ls a b s h => lv_ior C.ex C.co d (k H locs ls a b s h)
theorem g_ixor (C : Cx X cc nL own rt ka lvl) {x y : Int32} (d : decode cc pc = .ok (.ixor, 1)) (k : G X cells slots ws (pc + 1) lv (.int (x ^^^ y) :: st)) : G X cells slots ws pc lv (.int y :: .int x :: st) := fun H locs ls a b s h => lv_ixor C.ex C.co d (k H locs ls a b s h)
theorem g_idiv (C : Cx X cc nL own rt ka lvl) {x y : Int32} (d : decode cc pc = .ok (.idiv, 1)) (hne : ¬ y = 0) (k : G X cells slots ws (pc + 1) lv (.int (x / y) :: st)) : G X cells slots ws pc lv (.int y :: .int x :: st) := fun H locs ls a b s h => lv_idiv C.ex C.co d hne (k H locs ls a b s h)
theorem g_irem (C : Cx X cc nL own rt ka lvl) {x y : Int32} (d : decode cc pc = .ok (.irem, 1)) (hne : ¬ y = 0) (k : G X cells slots ws (pc + 1) lv (.int (x - x / y * y) :: st)) : G X cells slots ws pc lv (.int y :: .int x :: st) := fun H locs ls a b s h => lv_irem C.ex C.co d hne (k H locs ls a b s h)
theorem g_ishl (C : Cx X cc nL own rt ka lvl) {x y : Int32} (d : decode cc pc = .ok (.ishl, 1)) (k : G X cells slots ws (pc + 1) lv (.int (x <<< (y &&& 31)) :: st)) : G X cells slots ws pc lv (.int y :: .int x :: st) := fun H locs ls a b s h => lv_ishl C.ex C.co d (k H locs ls a b s h)
theorem g_ishr (C : Cx X cc nL own rt ka lvl) {x y : Int32} (d : decode cc pc = .ok (.ishr, 1)) (k : G X cells slots ws (pc + 1) lv (.int (x >>> (y &&& 31)) :: st)) : G X cells slots ws pc lv (.int y :: .int x :: st) := fun H locs ls a b s h => lv_ishr C.ex C.co d (k H locs ls a b s h)
theorem g_iushr (C : Cx X cc nL own rt ka lvl) {x y : Int32} (d : decode cc pc = .ok (.iushr, 1)) (k : G X cells slots ws (pc + 1) lv (.int ((x.toUInt32 >>> (y.toUInt32 &&& Int32.toUInt32 31)).toInt32) :: st)) : G X cells slots ws pc lv (.int y :: .int x :: st) := fun H locs ls a b s h => lv_iushr C.ex C.co d rfl (k H locs ls a b s h)
theorem g_ladd (C : Cx X cc nL own rt ka lvl) {x y : Int64} (d : decode cc pc = .ok (.ladd, 1)) (k : G X cells slots ws (pc + 1) lv (.long (x + y) :: st)) : G X cells slots ws pc lv (.long y :: .long x :: st) := fun H locs ls a b s h => lv_ladd C.ex C.co d (k H locs ls a b s h)
theorem g_lmul (C : Cx X cc nL own rt ka lvl) {x y : Int64} (d : decode cc pc = .ok (.lmul, 1)) (k : G X cells slots ws (pc + 1) lv (.long (x * y) :: st)) : G X cells slots ws pc lv (.long y :: .long x :: st) := fun H locs ls a b s h => lv_lmul C.ex C.co d (k H locs ls a b s h)
theorem g_land (C : Cx X cc nL own rt ka lvl) {x y : Int64} (d : decode cc pc = .ok (.land, 1)) (k : G X cells slots ws (pc + 1) lv (.long (x &&& y) :: st)) : G X cells slots ws pc lv (.long y :: .long x :: st) := fun H locs ls a b s h => lv_land C.ex C.co d (k H locs ls a b s h)
theorem g_lcmp (C : Cx X cc nL own rt ka lvl) {x y : Int64} (d : decode cc pc = .ok (.lcmp, 1)) (k : G X cells slots ws (pc + 1) lv (.int (lg_cmp x y) :: st)) : G X cells slots ws pc lv (.long y :: .long x :: st) := fun H locs ls a b s h => W.lcmp C.ex C.co d (k H locs ls a b s h)
theorem g_i2l (C : Cx X cc nL own rt ka lvl) {x : Int32} (d : decode cc pc = .ok (.i2l, 1)) (k : G X cells slots ws (pc + 1) lv (.long x.toInt64 :: st)) : G X cells slots ws pc lv (.int x :: st) := fun H locs ls a b s h => lv_i2l C.ex C.co d rfl (k H locs ls a b s h)
theorem g_l2i (C : Cx X cc nL own rt ka lvl) {x : Int64} (d : decode cc pc = .ok (.l2i, 1)) (k : G X cells slots ws (pc + 1) lv (.int x.toInt32 :: st)) : G X cells slots ws pc lv (.long x :: st) := fun H locs ls a b s h => lv_l2i C.ex C.co d rfl (k H locs ls a b s h)
theorem g_i2b (C : Cx X cc nL own rt ka lvl) {x : Int32} (d : decode cc pc = .ok (.i2b, 1)) (k : G X cells slots ws (pc + 1) lv (.int x.toInt8.toInt32 :: st)) : G X cells slots ws pc lv (.int x :: st) := fun H locs ls a b s h => lv_i2b C.ex C.co d rfl (k H locs ls a b s h)
theorem g_i2s (C : Cx X cc nL own rt ka lvl) {x : Int32} (d : decode cc pc = .ok (.i2s, 1)) (k : G X cells slots ws (pc + 1) lv (.int x.toInt16.toInt32 :: st)) : G X cells slots ws pc lv (.int x :: st) := fun H locs ls a b s h => lv_i2s C.ex C.co d rfl (k H locs ls a b s h)
theorem g_i2c (C : Cx X cc nL own rt ka lvl) {x : Int32} (d : decode cc pc = .ok (.i2c, 1)) (k : G X cells slots ws (pc + 1) lv (.int (x.toUInt32 % 65536).toInt32 :: st)) : G X cells slots ws pc lv (.int x :: st) := fun H locs ls a b s h => lv_i2c C.ex C.co d rfl (k H locs ls a b s h)
theorem g_dup (C : Cx X cc nL own rt ka lvl) {va : Value} (d : decode cc pc = .ok (.dup, 1)) (hva : va.category = 1) (k : G X cells slots ws (pc + 1) lv (va :: va :: st)) : G X cells slots ws pc lv (va :: st) := fun H locs ls a b s h => lv_dup C.ex C.co d hva (k H locs ls a b s h)
theorem g_pop (C : Cx X cc nL own rt ka lvl) {va : Value} (d : decode cc pc = .ok (.pop, 1)) (hva : va.category = 1) (k : G X cells slots ws (pc + 1) lv st) : G X cells slots ws pc lv (va :: st) := fun H locs ls a b s h => lv_pop C.ex C.co d hva (k H locs ls a b s h)
theorem g_dup2 (C : Cx X cc nL own rt ka lvl) {va vb : Value} (d : decode cc pc = .ok (.dup2, 1)) (hva : va.category = 1) (hvb : vb.category = 1) (k : G X cells slots ws (pc + 1) lv (va :: vb :: va :: vb :: st)) : G X cells slots ws pc lv (va :: vb :: st) := fun H locs ls a b s h => lv_dup2_11 C.ex C.co d hva hvb (k H locs ls a b s h)
-- branches: the hypothesis is a pair
theorem g_goto (C : Cx X cc nL own rt ka lvl) {off : Int} (tgt : Nat) (d : decode cc pc = .ok (.goto off, 3)) (ht : (pc : Int) + off = (tgt : Int)) (k : G X cells slots ws tgt lv st) : G X cells slots ws pc lv st := fun H locs ls a b s h => lv_goto C.ex C.co d ht (k H locs ls a b s h)
theorem g_if_eq (C : Cx X cc nL own rt ka lvl) {x : Int32} {off : Int} (tgt : Nat) (d : decode cc pc = .ok (.ifCond .eq off, 3)) (ht : (pc : Int) + off = (tgt : Int)) (kt : x = 0 → G X cells slots ws tgt lv st) (kf : ¬ x = 0 → G X cells slots ws (pc + 3) lv st) : G X cells slots ws pc lv (.int x :: st) := fun H locs ls a b s h => lv_if_eq C.ex C.co d ht (fun q => kt q H locs ls a b s h) (fun q => kf q H locs ls a b s h)
theorem g_if_ne (C : Cx X cc nL own rt ka lvl) {x : Int32} {off : Int} (tgt : Nat) (d : decode cc pc = .ok (.ifCond .ne off, 3)) (ht : (pc : Int) + off = (tgt : Int)) (kt : ¬ x = 0 → G X cells slots ws tgt lv st) (kf : x = 0 → G X cells slots ws (pc + 3) lv st) : G X cells slots ws pc lv (.int x :: st) := fun H locs ls a b s h => lv_if_ne C.ex C.co d ht (fun q => kt q H locs ls a b s h) (fun q => kf q H locs ls a b s h)
theorem g_if_lt (C : Cx X cc nL own rt ka lvl) {x : Int32} {off : Int} (tgt : Nat) (d : decode cc pc = .ok (.ifCond .lt off, 3)) (ht : (pc : Int) + off = (tgt : Int)) (kt : x < 0 → G X cells slots ws tgt lv st) (kf : ¬ x < 0 → G X cells slots ws (pc + 3) lv st) : G X cells slots ws pc lv (.int x :: st) := fun H locs ls a b s h => lv_if_lt C.ex C.co d ht (fun q => kt q H locs ls a b s h) (fun q => kf q H locs ls a b s h)
theorem g_if_ge (C : Cx X cc nL own rt ka lvl) {x : Int32} {off : Int} (tgt : Nat) (d : decode cc pc = .ok (.ifCond .ge off, 3)) (ht : (pc : Int) + off = (tgt : Int)) (kt : 0 ≤ x → G X cells slots ws tgt lv st) (kf : ¬ 0 ≤ x → G X cells slots ws (pc + 3) lv st) : G X cells slots ws pc lv (.int x :: st) := fun H locs ls a b s h => lv_if_ge C.ex C.co d ht (fun q => kt q H locs ls a b s h) (fun q => kf q H locs ls a b s h)
theorem g_if_gt (C : Cx X cc nL own rt ka lvl) {x : Int32} {off : Int} (tgt : Nat) (d : decode cc pc = .ok (.ifCond .gt off, 3)) (ht : (pc : Int) + off = (tgt : Int)) (kt : 0 < x → G X cells slots ws tgt lv st) (kf : ¬ 0 < x → G X cells slots ws (pc + 3) lv st) : G X cells slots ws pc lv (.int x :: st) := fun H locs ls a b s h => lv_if_gt C.ex C.co d ht (fun q => kt q H locs ls a b s h) (fun q => kf q H locs ls a b s h)
theorem g_if_le (C : Cx X cc nL own rt ka lvl) {x : Int32} {off : Int} (tgt : Nat) (d : decode cc pc = .ok (.ifCond .le off, 3)) (ht : (pc : Int) + off = (tgt : Int)) (kt : x ≤ 0 → G X cells slots ws tgt lv st) (kf : ¬ x ≤ 0 → G X cells slots ws (pc + 3) lv st) : G X cells slots ws pc lv (.int x :: st) := fun H locs ls a b s h => lv_if_le C.ex C.co d ht (fun q => kt q H locs ls a b s h) (fun q => kf q H locs ls a b s h)
theorem g_icmp_eq (C : Cx X cc nL own rt ka lvl) {x y : Int32} {off : Int} (tgt : Nat) (d : decode cc pc = .ok (.if_icmp .eq off, 3)) (ht : (pc : Int) + off = (tgt : Int)) (kt : x = y → G X cells slots ws tgt lv st) (kf : ¬ x = y → G X cells slots ws (pc + 3) lv st) : G X cells slots ws pc lv (.int y :: .int x :: st) := fun H locs ls a b s h => lv_icmp_eq C.ex C.co d ht (fun q => kt q H locs ls a b s h) (fun q => kf q H locs ls a b s h)
theorem g_icmp_ne (C : Cx X cc nL own rt ka lvl) {x y : Int32} {off : Int} (tgt : Nat) (d : decode cc pc = .ok (.if_icmp .ne off, 3)) (ht : (pc : Int) + off = (tgt : Int)) (kt : ¬ x = y → G X cells slots ws tgt lv st) (kf : x = y → G X cells slots ws (pc + 3) lv st) : G X cells slots ws pc lv (.int y :: .int x :: st) := fun H locs ls a b s h => lv_icmp_ne C.ex C.co d ht (fun q => kt q H locs ls a b s h) (fun q => kf q H locs ls a b s h)
theorem g_icmp_lt (C : Cx X cc nL own rt ka lvl) {x y : Int32} {off : Int} (tgt : Nat) (d : decode cc pc = .ok (.if_icmp .lt off, 3)) (ht : (pc : Int) + off = (tgt : Int)) (kt : x < y → G X cells slots ws tgt lv st) (kf : ¬ x < y → G X cells slots ws (pc + 3) lv st) : G X cells slots ws pc lv (.int y :: .int x :: st) := fun H locs ls a b s h => lv_icmp_lt C.ex C.co d ht (fun q => kt q H locs ls a b s h) (fun q => kf q H locs ls a b s h)
theorem g_icmp_ge (C : Cx X cc nL own rt ka lvl) {x y : Int32} {off : Int} (tgt : Nat) (d : decode cc pc = .ok (.if_icmp .ge off, 3)) (ht : (pc : Int) + off = (tgt : Int)) (kt : y ≤ x → G X cells slots ws tgt lv st) (kf : ¬ y ≤ x → G X cells slots ws (pc + 3) lv st) : G X cells slots ws pc lv (.int y :: .int x :: st) := fun H locs ls a b s h => lv_icmp_ge C.ex C.co d ht (fun q => kt q H locs ls a b s h) (fun q => kf q H locs ls a b s h)
theorem g_icmp_gt (C : Cx X cc nL own rt ka lvl) {x y : Int32} {off : Int} (tgt : Nat) (d : decode cc pc = .ok (.if_icmp .gt off, 3)) (ht : (pc : Int) + off = (tgt : Int)) (kt : y < x → G X cells slots ws tgt lv st) (kf : ¬ y < x → G X cells slots ws (pc + 3) lv st) : G X cells slots ws pc lv (.int y :: .int x :: st) := fun H locs ls a b s h => lv_icmp_gt C.ex C.co d ht (fun q => kt q H locs ls a b s h) (fun q => kf q H locs ls a b s h)
theorem g_icmp_le (C : Cx X cc nL own rt ka lvl) {x y : Int32} {off : Int} (tgt : Nat) (d : decode cc pc = .ok (.if_icmp .le off, 3)) (ht : (pc : Int) + off = (tgt : Int)) (kt : x ≤ y → G X cells slots ws tgt lv st) (kf : ¬ x ≤ y → G X cells slots ws (pc + 3) lv st) : G X cells slots ws pc lv (.int y :: .int x :: st) := fun H locs ls a b s h => lv_icmp_le C.ex C.co d ht (fun q => kt q H locs ls a b s h) (fun q => kf q H locs ls a b s h)
theorem g_lookup (C : Cx X cc nL own rt ka lvl) {dflt : Int} {ps : Array (Int × Int)} {len : Nat} {x : Int32} (off : Int) (tgt : Nat) (d : decode cc pc = .ok (.lookupswitch dflt ps, len)) (hp : (ps.toList.zip (ps.toList.drop 1)).all (fun (a, next) => a.1 < next.1) = true) (ho : Op.lookupswitch.offset ps.toList dflt x.toInt = off) (ht : (pc : Int) + off = (tgt : Int)) (k : G X cells slots ws tgt lv st) : G X cells slots ws pc lv (.int x :: st) := fun H locs ls a b s h => lv_lookup C.ex C.co d hp ho ht (k H locs ls a b s h)
theorem g_tableOut (C : Cx X cc nL own rt ka lvl) {dflt lo hi : Int} {offs : Array Int} {len : Nat} {x : Int32} (tgt : Nat) (d : decode cc pc = .ok (.tableswitch dflt lo hi offs, len)) (h : x.toInt < lo ∨ hi < x.toInt) (ht : (pc : Int) + dflt = (tgt : Int)) (k : G X cells slots ws tgt lv st) : G X cells slots ws pc lv (.int x :: st) := fun H locs ls a b s hh => lv_tableOut C.ex C.co d h ht (k H locs ls a b s hh)
theorem g_tableIn (C : Cx X cc nL own rt ka lvl) {dflt lo hi : Int} {offs : Array Int} {len : Nat} {x : Int32} (off : Int) (tgt : Nat) (d : decode cc pc = .ok (.tableswitch dflt lo hi offs, len)) (h1 : ¬ x.toInt < lo) (h2 : ¬ hi < x.toInt) (ho : offs[(x.toInt - lo).toNat]? = some off) (ht : (pc : Int) + off = (tgt : Int)) (k : G X cells slots ws tgt lv st) : G X cells slots ws pc lv (.int x :: st) := fun H locs ls a b s hh => lv_tableIn C.ex C.co d h1 h2 ho ht (k H locs ls a b s hh)
-- cells
/-- a field is read -/
theorem g_get (C : Cx X cc nL own rt ka lvl) {ref Cn : String} {T : u_T} {N ci index : Nat} {a : Nat} (q0 : Nat) {fs : List Value} (he : ws[q0]? = some (a, .inr (ci, fs))) (hc : vwCl[ci]? = some (Cn, T, N)) (hin : ∀ w ∈ u_ws Cn T N, w ∈ gw) (k : Nat) (hk : k < N) (hlink : Cond.fieldLink own index ref (T k).2.1 (T k).2.2.1 ∈ gw) (hsame : (T k).1 = ref) {v : Value} (hv : fs[k]? = some v) (d : decode cc pc = .ok (.getfield index, 3)) (kk : G X cells slots ws (pc + 3) lv (v :: st)) : G X cells slots ws pc lv (.ref a :: st) := fun H locs ls a' b s h => va_get C.ex C.co C.ts hin C.ow C.ks a' q0 he hc k hk (C.ts _ hlink) (fun x hx => by rw [← hsame]; exact hx) hv d (kk H locs ls a' b s h)
/-- a field is written -/
theorem g_put (C : Cx X cc nL own rt ka lvl) {ref Cn : String} {T : u_T} {N ci index : Nat} {a : Nat} (q0 : Nat) {fs : List Value} (he : ws[q0]? = some (a, .inr (ci, fs))) (hc : vwCl[ci]? = some (Cn, T, N)) (hin : ∀ w ∈ u_ws Cn T N, w ∈ gw) (ty0 : Nat → FieldType) (hty : ∀ k, k < N → parseFieldDescriptor (T k).2.2.1 = some (ty0 k)) (hnm : ∀ a, a < N → ∀ b, b < N → a ≠ b → (T a).2.1 ≠ (T b).2.1) (k : Nat) (hk : k < N) (hlink : Cond.fieldLink own index ref (T k).2.1 (T k).2.2.1 ∈ gw) (hsame : (T k).1 = ref) (hfin : (T k).2.2.2 = false) {v : Value} (hn : narrow (ty0 k) v = v) (hfit : fits (ty0 k) v = true) (hl : k < fs.length) (ws' : va_W) (hw : ws.set q0 (a, .inr (ci, fs.set k v)) = ws') (d : decode cc pc = .ok (.putfield index, 3)) (kk : G X cells slots ws' (pc + 3) lv st) : G X cells slots ws pc lv (v :: .ref a :: st) := fun H locs ls a' b s h => va_put C.ex C.co C.ts hin ty0 hty hnm C.ow C.ks a' b s q0 he hc k hk (C.ts _ hlink) (fun x hx => by rw [← hsame]; exact hx) hfin (hty k hk) hn hfit hl d (fun H1 locs1 hP hD hS => kk H1 locs1 ls (by rw [← hw]; exact hP) (by rw [← hw]; exact hD) hS h)
theorem g_iald (C : Cx X cc nL own rt ka lvl) {a n : Nat} {f : Nat → Int32} (q0 : Nat) (ha : ws[q0]? = some (a, .inl (ka 0, n, .inl f))) {i : Int32} (hin : vp_in i n) (d : decode cc pc = .ok (.iaload, 1)) (kk : G X cells slots ws (pc + 1) lv (.int (f i.toNatClampNeg) :: st)) : G X cells slots ws pc lv (.int i :: .ref a :: st) := fun H locs ls a' b s h => va_iald C.ex C.co C.ks a' q0 0 ha rfl hin d (kk H locs ls a' b s h)
theorem g_cald (C : Cx X cc nL own rt ka lvl) {a n : Nat} {f : Nat → Int32} (q0 : Nat) (ha : ws[q0]? = some (a, .inl (ka 2, n, .inl f))) {i : Int32} (hin : vp_in i n) (d : decode cc pc = .ok (.caload, 1)) (kk : G X cells slots ws (pc + 1) lv (.int (f i.toNatClampNeg) :: st)) : G X cells slots ws pc lv (.int i :: .ref a :: st) := fun H locs ls a' b s h => va_cald C.ex C.co C.ks a' q0 2 ha rfl hin d (kk H locs ls a' b s h)
theorem g_lald (C : Cx X cc nL own rt ka lvl) {a n : Nat} {f : Nat → Int64} (q0 : Nat) (ha : ws[q0]? = some (a, .inl (ka 1, n, .inr (.inl f)))) {i : Int32} (hin : vp_in i n) (d : decode cc pc = .ok (.laload, 1)) (kk : G X cells slots ws (pc + 1) lv (.long (f i.toNatClampNeg) :: st)) : G X cells slots ws pc lv (.int i :: .ref a :: st) := fun H locs ls a' b s h => va_lald C.ex C.co C.ks a' q0 1 ha rfl hin d (kk H locs ls a' b s h)
theorem g_iast (C : Cx X cc nL own rt ka lvl) {a n : Nat} {f : Nat → Int32} (q0 : Nat) (ha : ws[q0]? = some (a, .inl (ka 0, n, .inl f))) {i x : Int32} (hin : vp_in i n) (ws' : va_W) (hw : ws.set q0 (a, .inl (ka 0, n, .inl (upd f i.toNatClampNeg x))) = ws') (d : decode cc pc = .ok (.iastore, 1)) (kk : G X cells slots ws' (pc + 1) lv st) : G X cells slots ws pc lv (.int x :: .int i :: .ref a :: st) := fun H locs ls a' b s h => va_iast C.ex C.co C.ks a' b s q0 0 ha rfl hin d (fun H1 locs1 hP hD hS => kk H1 locs1 ls (by rw [← hw]; exact hP) (by rw [← hw]; exact hD) hS h)
theorem g_cast (C : Cx X cc nL own rt ka lvl) {a n : Nat} {f : Nat → Int32} (q0 : Nat) (ha : ws[q0]? = some (a, .inl (ka 2, n, .inl f))) {i x : Int32} (hin : vp_in i n) (ws' : va_W) (hw : ws.set q0 (a, .inl (ka 2, n, .inl (upd f i.toNatClampNeg (vp_nar .char x)))) = ws') (d : decode cc pc = .ok (.castore, 1)) (kk : G X cells slots ws' (pc + 1) lv st) : G X cells slots ws pc lv (.int x :: .int i :: .ref a :: st) := fun H locs ls a' b s h => va_cast C.ex C.co C.ks a' b s q0 2 ha rfl hin d (fun H1 locs1 hP hD hS => kk H1 locs1 ls (by rw [← hw]; exact hP) (by rw [← hw]; exact hD) hS h)
theorem g_last (C : Cx X cc nL own rt ka lvl) {a n : Nat} {f : Nat → Int64} (q0 : Nat) (ha : ws[q0]? = some (a, .inl (ka 1, n, .inr (.inl f)))) {i : Int32} {x : Int64} (hin : vp_in i n) (ws' : va_W) (hw : ws.set q0 (a, .inl (ka 1, n, .inr (.inl (vp_updL f i.toNatClampNeg x)))) = ws') (d : decode cc pc = .ok (.lastore, 1)) (kk : G X cells slots ws' (pc + 1) lv st) : G X cells slots ws pc lv (.long x :: .int i :: .ref a :: st) := fun H locs ls a' b s h => va_last C.ex C.co C.ks a' b s q0 1 ha rfl hin d (fun H1 locs1 hP hD hS => kk H1 locs1 ls (by rw [← hw]; exact hP) (by rw [← hw]; exact hD) hS h)
end EK
-- contracts
def wg (y : MethodName) (b : ByteArray) (n : Nat) (r : Option FieldType) : List Cond := Cond.code y b n r :: gw
def rmv (lvl mc ms : Nat) : Room := { frames := lvl, cells := mc, slots := ms, locals := 40 * lvl }
def PreW (D : va_G) (ka : Nat → ClassId) (sz : Nat) (ws : va_W) (U : State) : Prop := U.heap.size = sz ∧ va_P D vwCl ws U.heap ∧ va_K D vwCl (tyK ka) U ∧ va_D (fun _ => True) ws ∧ Ex U
def PosW (D : va_G) (ka : Nat → ClassId) (ws0 : va_W) (sz : Nat) (w : va_W) (t : State) : Prop := va_P D vwCl w t.heap ∧ va_K D vwCl (tyK ka) t ∧ va_D (va_A ws0 sz) w
def MI (l : Launch) (D : va_G) (ka : Nat → ClassId) (y : MethodName) (b : ByteArray) (n : Nat) (rt : Option FieldType) (lvl mc ms : Nat) (as : List Value) (ws : va_W) (post : Int32 → va_W → Prop) : Prop :=
  ∀ sz : Nat, Met l y (wg y b n rt) (rmv lvl mc ms) (va_Pc as (PreW D ka sz ws)) (va_Qi post (PosW D ka ws sz) (va_A ws sz)) mc ms (va_A ws sz)
def ML (l : Launch) (D : va_G) (ka : Nat → ClassId) (y : MethodName) (b : ByteArray) (n : Nat) (rt : Option FieldType) (lvl mc ms : Nat) (as : List Value) (ws : va_W) (post : Int64 → va_W → Prop) : Prop :=
  ∀ sz : Nat, Met l y (wg y b n rt) (rmv lvl mc ms) (va_Pc as (PreW D ka sz ws)) (va_Ql post (PosW D ka ws sz) (va_A ws sz)) mc ms (va_A ws sz)
def MV (l : Launch) (D : va_G) (ka : Nat → ClassId) (y : MethodName) (b : ByteArray) (n : Nat) (rt : Option FieldType) (lvl mc ms : Nat) (as : List Value) (ws : va_W) (post : va_W → Prop) : Prop :=
  ∀ sz : Nat, Met l y (wg y b n rt) (rmv lvl mc ms) (va_Pc as (PreW D ka sz ws)) (va_Qv post (PosW D ka ws sz) (va_A ws sz)) mc ms (va_A ws sz)
/-- a method's own words: an instance method, chosen by its own class -/
def MInf (y : MethodName) (b : ByteArray) (n : Nat) (r : Option FieldType) (k : Nat) : Prop := Cond.instanceMethod y ∈ gw ∧ Cond.selects y.cls y y ∈ gw ∧ Cond.initialized y.cls ∈ gw ∧ Cond.code y b n r ∈ gw ∧ (y.cls ≠ "java/lang/invoke/MethodHandle" ∧ y.cls ≠ "java/lang/invoke/VarHandle" ∧ (parseMethodDescriptor y.desc).map (fun d => d.parameters.length) = some k) ∧ n ≤ 20
def SInf (y : MethodName) (b : ByteArray) (n : Nat) (r : Option FieldType) (k : Nat) : Prop := Cond.static y ∈ gw ∧ Cond.initialized y.cls ∈ gw ∧ Cond.code y b n r ∈ gw ∧ (y.cls ≠ "java/lang/invoke/MethodHandle" ∧ y.cls ≠ "java/lang/invoke/VarHandle" ∧ (parseMethodDescriptor y.desc).map (fun d => d.parameters.length) = some k) ∧ n ≤ 20
theorem wg_good {y : MethodName} {b : ByteArray} {n : Nat} {r : Option FieldType} (h : Cond.code y b n r ∈ gw) : GoodIn gw (wg y b n r) := fun w hw => by
  have hm : w ∈ gw := by
    rcases List.mem_cons.mp hw with rfl | h1
    · exact h
    · exact h1
  exact ⟨hm, gw_good w hm⟩
theorem PreW.blind {D : va_G} {ka : Nat → ClassId} {sz : Nat} {ws : va_W} {as : List Value} : FrameBlind (va_Pc as (PreW D ka sz ws)) := by
  intro a U g mk q
  obtain ⟨q0, q1, qP, qK, qD, qE⟩ := q
  exact ⟨q0, q1, qP, va_K.moved (u := U) (U := U.calling g mk a) (Vm.Alike.refl U.vm) qK, qD, Ex.same (U := U.calling g mk a) rfl qE⟩
section EC
variable {X : XT} {cc : ByteArray} {nL : Nat} {own : String} {rt : Option FieldType} {ka : Nat → ClassId} {lvl cells slots : Nat} {ws : va_W} {pc : Nat} {lv : List (Nat × Value)} {st st0 : List Value}
variable {y : MethodName} {b : ByteArray} {n lc mc ms np index : Nat} {r : Option FieldType} {As : List Value} {a : Nat} {q ci : Nat} {fs : List Value} {T : u_T} {N : Nat}
theorem callB_gw (C : Cx X cc nL own rt ka lvl) (hlink : Cond.methodLink own index y ∈ gw) (hini : Cond.initialized y.cls ∈ gw) (hcode : Cond.code y b n r ∈ gw) (hd : y.cls ≠ "java/lang/invoke/MethodHandle" ∧ y.cls ≠ "java/lang/invoke/VarHandle" ∧ (parseMethodDescriptor y.desc).map (fun d => d.parameters.length) = some np) (hn : n ≤ 20) (hlc : lc < lvl) :
    CallB (xR X) (xS X) (xA X) own index y b n r (wg y b n r) (rmv lc mc ms) mc ms np :=
  callB_of (Ts := gw) np C.ts (wg_good hcode) rfl rfl rfl (C.ts _ hini) (C.ts _ hlink) hd ⟨Nat.le_trans hlc C.rf, by have := C.rl; show 8 + (n + 11) + 40 * lc ≤ (xR X).locals; omega⟩
theorem va_freeA {A0 : Nat → Prop} {ws : va_W} {H0 H : Heap} {locs : List Loc} (hD : va_D A0 ws) (hS : va_S A0 H0 H locs) (hA : ∀ q, H0.size ≤ q → A0 q) : ∀ q, va_A ws H.size q → A0 q := by
  intro q h
  rcases h with ⟨k, e, h⟩ | h
  · exact hD.2 k (q, e) h
  · exact hA q (Nat.le_trans hS.1 h)
theorem pre_ws (C : Cx X cc nL own rt ka lvl) {H : Heap} (hP : va_P (xD X) vwCl ws H) (hD : va_D (xF X) ws) {as : List Value} : ∀ U : State, U.heap = H → (xS X).WarmedH U.vm → va_Pc as (PreW (xD X) ka H.size ws) as.toArray U := fun U hU hW =>
  ⟨rfl, by rw [hU], by rw [hU]; exact hP, va_K.moved hW.alike C.ks, hD.weaken (fun _ _ _ _ => trivial), Ex.warm hW C.ext⟩
theorem g_callVi (C : Cx X cc nL own rt ka lvl) {post : Int32 → va_W → Prop} (hM : MI (xL X) (xD X) ka y b n r lc mc ms (.ref a :: As) ws post) (mi : MInf y b n r np) (hlink : Cond.methodLink own index y ∈ gw) (hlc : lc < lvl) (he : ws[q]? = some (a, .inr (ci, fs))) (hc : vwCl[ci]? = some (y.cls, T, N)) (hn : As.length = np) (hst : st0 = As.reverse ++ .ref a :: st) (hsum : (st.map fun v => v.category).sum ≤ 8) (hcs : cells + mc ≤ (xR X).cells ∧ slots + ms ≤ (xR X).slots) (d : decode cc pc = .ok (.invokevirtual index, 3)) (k : ∀ (z : Int32) (w : va_W), post z w → G X (cells + mc) (slots + ms) w (pc + 3) lv (.int z :: st)) : G X cells slots ws pc lv st0 := by
  intro H locs ls hP hD hS hl
  subst hst
  have hF := va_freeA hD hS C.fr
  refine va_calli (va_runV (As := As) (rest := st) (Ts := gw) ⟨C.ex, C.co, rfl, C.ow, C.ts⟩ (hM H.size) ⟨callB_gw C hlink mi.2.2.1 mi.2.2.2.1 mi.2.2.2.2.1 mi.2.2.2.2.2 hlc, C.ts _ mi.1, C.ts _ mi.2.1⟩ ⟨PreW.blind, va_recv C.ks hP hc he, pre_ws C hP hD⟩ rfl hn hl.1 rfl (by show 2 * 0 + _ ≤ 8; omega) d hcs) hS (fun q _ h => hF q h) hF (fun z w t H1 locs1 ht hvm hw hB hz1 hk1 hS1 => ?_)
  obtain ⟨hP1, -, hD1⟩ := hB
  rw [ht] at hP1
  exact k z w hw H1 locs1 ls hP1 (hD1.weaken (fun _ q _ h => hF q.1 h)) hS1 hl
theorem g_callVv (C : Cx X cc nL own rt ka lvl) {post : va_W → Prop} (hM : MV (xL X) (xD X) ka y b n r lc mc ms (.ref a :: As) ws post) (mi : MInf y b n r np) (hlink : Cond.methodLink own index y ∈ gw) (hlc : lc < lvl) (he : ws[q]? = some (a, .inr (ci, fs))) (hc : vwCl[ci]? = some (y.cls, T, N)) (hn : As.length = np) (hst : st0 = As.reverse ++ .ref a :: st) (hsum : (st.map fun v => v.category).sum ≤ 8) (hcs : cells + mc ≤ (xR X).cells ∧ slots + ms ≤ (xR X).slots) (d : decode cc pc = .ok (.invokevirtual index, 3)) (k : ∀ (w : va_W), post w → G X (cells + mc) (slots + ms) w (pc + 3) lv st) : G X cells slots ws pc lv st0 := by
  intro H locs ls hP hD hS hl
  subst hst
  have hF := va_freeA hD hS C.fr
  refine va_callv (va_runV (As := As) (rest := st) (Ts := gw) ⟨C.ex, C.co, rfl, C.ow, C.ts⟩ (hM H.size) ⟨callB_gw C hlink mi.2.2.1 mi.2.2.2.1 mi.2.2.2.2.1 mi.2.2.2.2.2 hlc, C.ts _ mi.1, C.ts _ mi.2.1⟩ ⟨PreW.blind, va_recv C.ks hP hc he, pre_ws C hP hD⟩ rfl hn hl.1 rfl (by show 2 * 0 + _ ≤ 8; omega) d hcs) hS (fun q _ h => hF q h) hF (fun w t H1 locs1 ht hvm hw hB hz1 hk1 hS1 => ?_)
  obtain ⟨hP1, -, hD1⟩ := hB
  rw [ht] at hP1
  exact k w hw H1 locs1 ls hP1 (hD1.weaken (fun _ q _ h => hF q.1 h)) hS1 hl
theorem g_callSi (C : Cx X cc nL own rt ka lvl) {post : Int32 → va_W → Prop} (hM : MI (xL X) (xD X) ka y b n r lc mc ms As ws post) (mi : SInf y b n r np) (hlink : Cond.methodLink own index y ∈ gw) (hlc : lc < lvl) (hn : As.length = np) (hst : st0 = As.reverse ++ st) (hsum : (st.map fun v => v.category).sum ≤ 8) (hcs : cells + mc ≤ (xR X).cells ∧ slots + ms ≤ (xR X).slots) (d : decode cc pc = .ok (.invokestatic index, 3)) (k : ∀ (z : Int32) (w : va_W), post z w → G X (cells + mc) (slots + ms) w (pc + 3) lv (.int z :: st)) : G X cells slots ws pc lv st0 := by
  intro H locs ls hP hD hS hl
  subst hst
  have hF := va_freeA hD hS C.fr
  refine va_calli (va_runS (As := As) (rest := st) (Ts := gw) ⟨C.ex, C.co, rfl, C.ow, C.ts⟩ (hM H.size) ⟨callB_gw C hlink mi.2.1 mi.2.2.1 mi.2.2.2.1 mi.2.2.2.2 hlc, C.ts _ mi.1⟩ ⟨PreW.blind, pre_ws C hP hD⟩ rfl hn hl.1 rfl (by show 2 * 0 + _ ≤ 8; omega) d hcs) hS (fun q _ h => hF q h) hF (fun z w t H1 locs1 ht hvm hw hB hz1 hk1 hS1 => ?_)
  obtain ⟨hP1, -, hD1⟩ := hB
  rw [ht] at hP1
  exact k z w hw H1 locs1 ls hP1 (hD1.weaken (fun _ q _ h => hF q.1 h)) hS1 hl
end EC
/-- what an end is worth, at a method's end -/
def RetI (X : XT) (b : ByteArray) (ty : FieldType) (mc ms : Nat) (post : Int32 → va_W → Prop) : Prop := ∀ (z : Int32) (w : va_W) (pc : Nat) (lv : List (Nat × Value)), post z w → narrow ty (.int z) = .int z → decode b pc = .ok (.ireturn, 1) → G X mc ms w pc lv [.int z]
def RetL (X : XT) (b : ByteArray) (mc ms : Nat) (post : Int64 → va_W → Prop) : Prop := ∀ (z : Int64) (w : va_W) (pc : Nat) (lv : List (Nat × Value)), post z w → decode b pc = .ok (.lreturn, 1) → G X mc ms w pc lv [.long z]
def RetV (X : XT) (b : ByteArray) (mc ms : Nat) (post : va_W → Prop) : Prop := ∀ (w : va_W) (pc : Nat) (lv : List (Nat × Value)), post w → decode b pc = .ok (.return_, 1) → G X mc ms w pc lv []
section EM
variable {l : Launch} {D : va_G} {ka : Nat → ClassId} {y : MethodName} {b : ByteArray} {n : Nat} {ty : FieldType} {lvl mc ms : Nat} {as : List Value} {ws : va_W}
theorem MI_of {post : Int32 → va_W → Prop} (hy : plainName y.cls = true) (hla : (lg_sl as).length ≤ n) (body : ∀ X : XT, Cx X b n y.cls (some ty) ka lvl → (xR X).cells = mc ∧ (xR X).slots = ms → RetI X b ty mc ms post → G X 0 0 ws 0 (lv_args 0 as) []) : MI l D ka y b n (some ty) lvl mc ms as ws post := by
  intro sz
  refine Met.ofW (cc := b) (maxL := n) (ret := some ty) hy rfl ?_
  intro p e s m args below meth c s₁ B hml hv
  obtain ⟨rfl, hsz, hP, hK, hD0, hE⟩ := hv
  subst hsz
  have hts := atoms_spec (ws := wg y b n (some ty)) B.pre
  have hown : s.vm.findClass y.cls = some m.cls := findClass_of_methodNamed B.named
  have hl := lv_entry as (n := n) hla
  rw [lg_entry_eq]
  have CX : Cx (p, l, e, rmv lvl mc ms, s, m, as.toArray, below, meth, c, D, va_A ws s.heap.size, MQ below (va_Qi post (PosW D ka ws s.heap.size) (va_A ws s.heap.size)) as.toArray s mc ms (va_A ws s.heap.size)) b n y.cls (some ty) ka lvl :=
    ⟨B.exec, B.bytes, hml, hown, fun w hw => hts w (List.mem_cons_of_mem _ hw), hK, fun q h => Or.inr h, B.returns, B.notSynchronized, Nat.le_refl _, Nat.le_refl _, hE⟩
  refine body (p, l, e, rmv lvl mc ms, s, m, as.toArray, below, meth, c, D, va_A ws s.heap.size, MQ below (va_Qi post (PosW D ka ws s.heap.size) (va_A ws s.heap.size)) as.toArray s mc ms (va_A ws s.heap.size)) CX ⟨rfl, rfl⟩ ?_ s.heap [] _ hP hD0.self va_S.rf (by rw [show ((xC (p, l, e, rmv lvl mc ms, s, m, as.toArray, below, meth, c, D, va_A ws s.heap.size, MQ below (va_Qi post (PosW D ka ws s.heap.size) (va_A ws s.heap.size)) as.toArray s mc ms (va_A ws s.heap.size))).maxLocals) = n from hml]; exact hl)
  intro z w pc lv hz hn hd H locs ls hP1 hD1 hS1 _
  exact W.zret B.exec B.bytes B.returns hn (fun t ht hW => ⟨⟨z, w, rfl, hz, by rw [ht]; exact hP1, va_K.moved hW.alike hK, hD1⟩, va_S.F hS1 ht⟩) hS1.2.2 hd B.notSynchronized
theorem MV_of {post : va_W → Prop} (hy : plainName y.cls = true) (hla : (lg_sl as).length ≤ n) (body : ∀ X : XT, Cx X b n y.cls none ka lvl → (xR X).cells = mc ∧ (xR X).slots = ms → RetV X b mc ms post → G X 0 0 ws 0 (lv_args 0 as) []) : MV l D ka y b n none lvl mc ms as ws post := by
  intro sz
  refine Met.ofW (cc := b) (maxL := n) (ret := none) hy rfl ?_
  intro p e s m args below meth c s₁ B hml hv
  obtain ⟨rfl, hsz, hP, hK, hD0, hE⟩ := hv
  subst hsz
  have hts := atoms_spec (ws := wg y b n none) B.pre
  have hown : s.vm.findClass y.cls = some m.cls := findClass_of_methodNamed B.named
  have hl := lv_entry as (n := n) hla
  rw [lg_entry_eq]
  have CX : Cx (p, l, e, rmv lvl mc ms, s, m, as.toArray, below, meth, c, D, va_A ws s.heap.size, MQ below (va_Qv post (PosW D ka ws s.heap.size) (va_A ws s.heap.size)) as.toArray s mc ms (va_A ws s.heap.size)) b n y.cls none ka lvl :=
    ⟨B.exec, B.bytes, hml, hown, fun w hw => hts w (List.mem_cons_of_mem _ hw), hK, fun q h => Or.inr h, B.returns, B.notSynchronized, Nat.le_refl _, Nat.le_refl _, hE⟩
  refine body (p, l, e, rmv lvl mc ms, s, m, as.toArray, below, meth, c, D, va_A ws s.heap.size, MQ below (va_Qv post (PosW D ka ws s.heap.size) (va_A ws s.heap.size)) as.toArray s mc ms (va_A ws s.heap.size)) CX ⟨rfl, rfl⟩ ?_ s.heap [] _ hP hD0.self va_S.rf (by rw [show ((xC (p, l, e, rmv lvl mc ms, s, m, as.toArray, below, meth, c, D, va_A ws s.heap.size, MQ below (va_Qv post (PosW D ka ws s.heap.size) (va_A ws s.heap.size)) as.toArray s mc ms (va_A ws s.heap.size))).maxLocals) = n from hml]; exact hl)
  intro w pc lv hz hd H locs ls hP1 hD1 hS1 _
  exact W.vret B.exec B.bytes B.returns (fun t ht hW => ⟨⟨w, rfl, hz, by rw [ht]; exact hP1, va_K.moved hW.alike hK, hD1⟩, va_S.F hS1 ht⟩) hS1.2.2 hd B.notSynchronized
end EM
end
section
/-! ===== the engine, second part: small helps of the generator's rows ===== -/
theorem vp_lit {i : Int32} {n : Nat} (h : 0 ≤ i.toInt ∧ i.toInt < (n : Int)) : vp_in i n := vp_in_iff.mpr h
def isB (x : Int32) : Prop := x = 0 ∨ x = 1
theorem nar_B {x : Int32} (h : isB x) : narrow .boolean (.int x) = .int x := by rcases h with rfl | rfl <;> rfl
theorem fit_B {x : Int32} (h : isB x) : fits .boolean (.int x) = true := by rcases h with rfl | rfl <;> rfl
theorem isB_0 : isB 0 := Or.inl rfl
theorem isB_1 : isB 1 := Or.inr rfl
theorem swn {x v : Int32} (k : Int) (hv : v.toInt = k) (h : ¬ x = v) : ¬ x.toInt = k := fun e => h (Int32.toInt_inj.mp (e.trans hv.symm))
section EK2
variable {X : XT} {cc : ByteArray} {nL : Nat} {own : String} {rt : Option FieldType} {ka : Nat → ClassId} {lvl cells slots : Nat} {ws : va_W} {pc : Nat} {lv : List (Nat × Value)} {st st0 : List Value}
variable {y : MethodName} {b : ByteArray} {n lc np index : Nat} {r : Option FieldType} {As : List Value} {a : Nat} {q ci : Nat} {fs : List Value} {T : u_T} {N : Nat}
theorem g_topi {x : Int32} (k : ∀ z : Int32, z = x → G X cells slots ws pc lv (.int z :: st)) : G X cells slots ws pc lv (.int x :: st) := k x rfl
theorem g_callVi0 (C : Cx X cc nL own rt ka lvl) {post : Int32 → va_W → Prop} (hM : MI (xL X) (xD X) ka y b n r lc 0 0 (.ref a :: As) ws post) (mi : MInf y b n r np) (hlink : Cond.methodLink own index y ∈ gw) (hlc : lc < lvl) (he : ws[q]? = some (a, .inr (ci, fs))) (hc : vwCl[ci]? = some (y.cls, T, N)) (hn : As.length = np) (hst : st0 = As.reverse ++ .ref a :: st) (hsum : (st.map fun v => v.category).sum ≤ 8) (hcs : cells ≤ (xR X).cells ∧ slots ≤ (xR X).slots) (d : decode cc pc = .ok (.invokevirtual index, 3)) (k : ∀ (z : Int32) (w : va_W), post z w → G X cells slots w (pc + 3) lv (.int z :: st)) : G X cells slots ws pc lv st0 := g_callVi C hM mi hlink hlc he hc hn hst hsum hcs d k
theorem g_callVv0 (C : Cx X cc nL own rt ka lvl) {post : va_W → Prop} (hM : MV (xL X) (xD X) ka y b n r lc 0 0 (.ref a :: As) ws post) (mi : MInf y b n r np) (hlink : Cond.methodLink own index y ∈ gw) (hlc : lc < lvl) (he : ws[q]? = some (a, .inr (ci, fs))) (hc : vwCl[ci]? = some (y.cls, T, N)) (hn : As.length = np) (hst : st0 = As.reverse ++ .ref a :: st) (hsum : (st.map fun v => v.category).sum ≤ 8) (hcs : cells ≤ (xR X).cells ∧ slots ≤ (xR X).slots) (d : decode cc pc = .ok (.invokevirtual index, 3)) (k : ∀ (w : va_W), post w → G X cells slots w (pc + 3) lv st) : G X cells slots ws pc lv st0 := g_callVv C hM mi hlink hlc he hc hn hst hsum hcs d k
theorem g_callSi0 (C : Cx X cc nL own rt ka lvl) {post : Int32 → va_W → Prop} (hM : MI (xL X) (xD X) ka y b n r lc 0 0 As ws post) (mi : SInf y b n r np) (hlink : Cond.methodLink own index y ∈ gw) (hlc : lc < lvl) (hn : As.length = np) (hst : st0 = As.reverse ++ st) (hsum : (st.map fun v => v.category).sum ≤ 8) (hcs : cells ≤ (xR X).cells ∧ slots ≤ (xR X).slots) (d : decode cc pc = .ok (.invokestatic index, 3)) (k : ∀ (z : Int32) (w : va_W), post z w → G X cells slots w (pc + 3) lv (.int z :: st)) : G X cells slots ws pc lv st0 := g_callSi C hM mi hlink hlc hn hst hsum hcs d k
end EK2
theorem z00 {X : XT} : 0 ≤ (xR X).cells ∧ 0 ≤ (xR X).slots := ⟨Nat.zero_le _, Nat.zero_le _⟩
theorem cb_m20 : (Int8.ofInt (-20)).toInt32 = (-20 : Int32) := by decide
theorem cb_m14 : (Int8.ofInt (-14)).toInt32 = (-14 : Int32) := by decide
theorem cb_m13 : (Int8.ofInt (-13)).toInt32 = (-13 : Int32) := by decide
theorem cb_m12 : (Int8.ofInt (-12)).toInt32 = (-12 : Int32) := by decide
theorem cb_m11 : (Int8.ofInt (-11)).toInt32 = (-11 : Int32) := by decide
theorem cb_m4 : (Int8.ofInt (-4)).toInt32 = (-4 : Int32) := by decide
theorem cb_m3 : (Int8.ofInt (-3)).toInt32 = (-3 : Int32) := by decide
theorem cb_m2 : (Int8.ofInt (-2)).toInt32 = (-2 : Int32) := by decide
theorem cb_6 : (Int8.ofInt (6)).toInt32 = (6 : Int32) := by decide
theorem cb_7 : (Int8.ofInt (7)).toInt32 = (7 : Int32) := by decide
theorem cb_8 : (Int8.ofInt (8)).toInt32 = (8 : Int32) := by decide
theorem cb_9 : (Int8.ofInt (9)).toInt32 = (9 : Int32) := by decide
theorem cb_10 : (Int8.ofInt (10)).toInt32 = (10 : Int32) := by decide
theorem cb_11 : (Int8.ofInt (11)).toInt32 = (11 : Int32) := by decide
theorem cb_12 : (Int8.ofInt (12)).toInt32 = (12 : Int32) := by decide
theorem cb_13 : (Int8.ofInt (13)).toInt32 = (13 : Int32) := by decide
theorem cb_21 : (Int8.ofInt (21)).toInt32 = (21 : Int32) := by decide
theorem cb_24 : (Int8.ofInt (24)).toInt32 = (24 : Int32) := by decide
theorem cb_25 : (Int8.ofInt (25)).toInt32 = (25 : Int32) := by decide
theorem cb_32 : (Int8.ofInt (32)).toInt32 = (32 : Int32) := by decide
theorem cb_37 : (Int8.ofInt (37)).toInt32 = (37 : Int32) := by decide
theorem cb_40 : (Int8.ofInt (40)).toInt32 = (40 : Int32) := by decide
theorem cb_44 : (Int8.ofInt (44)).toInt32 = (44 : Int32) := by decide
theorem cb_48 : (Int8.ofInt (48)).toInt32 = (48 : Int32) := by decide
theorem cb_59 : (Int8.ofInt (59)).toInt32 = (59 : Int32) := by decide
theorem cb_60 : (Int8.ofInt (60)).toInt32 = (60 : Int32) := by decide
theorem cb_97 : (Int8.ofInt (97)).toInt32 = (97 : Int32) := by decide
theorem cb_98 : (Int8.ofInt (98)).toInt32 = (98 : Int32) := by decide
theorem cb_100 : (Int8.ofInt (100)).toInt32 = (100 : Int32) := by decide
theorem cb_103 : (Int8.ofInt (103)).toInt32 = (103 : Int32) := by decide
theorem cb_104 : (Int8.ofInt (104)).toInt32 = (104 : Int32) := by decide
theorem cb_112 : (Int8.ofInt (112)).toInt32 = (112 : Int32) := by decide
theorem cb_119 : (Int8.ofInt (119)).toInt32 = (119 : Int32) := by decide
theorem ci_m1 : Int32.ofInt (-1) = (-1 : Int32) := by decide
theorem ci_0 : Int32.ofInt (0) = (0 : Int32) := by decide
theorem ci_1 : Int32.ofInt (1) = (1 : Int32) := by decide
theorem ci_2 : Int32.ofInt (2) = (2 : Int32) := by decide
theorem ci_3 : Int32.ofInt (3) = (3 : Int32) := by decide
theorem ci_4 : Int32.ofInt (4) = (4 : Int32) := by decide
theorem ci_5 : Int32.ofInt (5) = (5 : Int32) := by decide
theorem cs_200 : (Int16.ofInt (200)).toInt32 = (200 : Int32) := by decide
theorem cs_201 : (Int16.ofInt (201)).toInt32 = (201 : Int32) := by decide
end
section
abbrev FT : Type := Nat → Int32
abbrev RT : Type := Nat → Nat → Int32
abbrev JT : Type := Nat → Nat → Int64
/-- the fields of the reference object -/
def fsM (ad : Nat → Nat) (F : FT) : List Value := [.ref (ad 0), .int (F 1), .int (F 2), .ref (ad 3), .int (F 4), .int (F 5), .int (F 6), .ref (ad 7), .ref (ad 8), .int (F 9), .ref (ad 10), .ref (ad 11), .ref (ad 12), .ref (ad 13), .int (F 14), .int (F 15), .ref (ad 16), .ref (ad 17), .ref (ad 18), .ref (ad 19)]
/-- the world of the reference -/
def wM (ad : Nat → Nat) (ka : Nat → ClassId) (F : FT) (R : RT) (J : JT) : va_W := [(ad 20, .inr (10, fsM ad F)), (ad 0, .inl (ka 0, 37, .inl (R 0))), (ad 3, .inl (ka 0, 60, .inl (R 3))), (ad 7, .inl (ka 0, 24, .inl (R 7))), (ad 8, .inl (ka 0, 48, .inl (R 8))), (ad 10, .inl (ka 0, 8241, .inl (R 10))), (ad 11, .inl (ka 0, 201, .inl (R 11))), (ad 12, .inl (ka 0, 201, .inl (R 12))), (ad 13, .inl (ka 0, 85, .inl (R 13))), (ad 16, .inl (ka 0, 4, .inl (R 16))), (ad 17, .inl (ka 0, 4, .inl (R 17))), (ad 18, .inl (ka 1, 96, .inr (.inl (J 18)))), (ad 19, .inl (ka 1, 24, .inr (.inl (J 19))))]
set_option maxHeartbeats 4000000 in
set_option maxRecDepth 100000 in
theorem wM_at {ad : Nat → Nat} {ka : Nat → ClassId} {F : FT} {R : RT} {J : JT} : (wM ad ka F R J)[0]? = some (ad 20, .inr (10, fsM ad F)) := rfl
set_option maxHeartbeats 4000000 in
set_option maxRecDepth 100000 in
theorem inX10 : ∀ w ∈ u_ws RX10 TX10 20, w ∈ gw := by
  intro w hw
  obtain ⟨k, hk, rfl⟩ := List.mem_map.mp hw
  have hk := List.mem_range.mp hk
  match k, hk with
  | 0, _ => exact (gw_of tw4_90 rfl)
  | 1, _ => exact (gw_of tw4_92 rfl)
  | 2, _ => exact (gw_of tw4_94 rfl)
  | 3, _ => exact (gw_of tw4_96 rfl)
  | 4, _ => exact (gw_of tw4_98 rfl)
  | 5, _ => exact (gw_of tw4_100 rfl)
  | 6, _ => exact (gw_of tw4_102 rfl)
  | 7, _ => exact (gw_of tw4_104 rfl)
  | 8, _ => exact (gw_of tw4_106 rfl)
  | 9, _ => exact (gw_of tw4_108 rfl)
  | 10, _ => exact (gw_of tw4_110 rfl)
  | 11, _ => exact (gw_of tw4_112 rfl)
  | 12, _ => exact (gw_of tw4_114 rfl)
  | 13, _ => exact (gw_of tw4_116 rfl)
  | 14, _ => exact (gw_of tw4_118 rfl)
  | 15, _ => exact (gw_of tw4_120 rfl)
  | 16, _ => exact (gw_of tw4_122 rfl)
  | 17, _ => exact (gw_of tw4_124 rfl)
  | 18, _ => exact (gw_of tw4_126 rfl)
  | 19, _ => exact (gw_of tw4_128 rfl)
  | k + 20, hk => omega
set_option maxHeartbeats 4000000 in
set_option maxRecDepth 100000 in
theorem Mg_now {X : XT} {cc : ByteArray} {nL : Nat} {rt : Option FieldType} {ka : Nat → ClassId} {lvl cells slots pc : Nat} {lv : List (Nat × Value)} {st : List Value} {ad : Nat → Nat} {F : FT} {R : RT} {J : JT} (C : Cx X cc nL RX10 rt ka lvl) (d : decode cc pc = .ok (.getfield 7, 3)) (kk : G X cells slots (wM ad ka F R J) (pc + 3) lv (.ref (ad 0) :: st)) : G X cells slots (wM ad ka F R J) pc lv (.ref (ad 20) :: st) := g_get C 0 wM_at (hc := rfl) inX10 0 (by decide) (index := 7) (ref := "SummerWallModel") (gw_of tw4_70 rfl) rfl rfl d kk
set_option maxHeartbeats 4000000 in
set_option maxRecDepth 100000 in
theorem Ma_now {X : XT} {cc : ByteArray} {nL : Nat} {rt : Option FieldType} {ka : Nat → ClassId} {lvl cells slots pc : Nat} {lv : List (Nat × Value)} {st : List Value} {ad : Nat → Nat} {F : FT} {R : RT} {J : JT} (C : Cx X cc nL RX10 rt ka lvl) {f : Nat → Int32} (hf : R 0 = f) {i : Int32} (j : Nat) (hj : i.toNatClampNeg = j) (hi : vp_in i 37) (d : decode cc pc = .ok (.iaload, 1)) (kk : G X cells slots (wM ad ka F R J) (pc + 1) lv (.int (f j) :: st)) : G X cells slots (wM ad ka F R J) pc lv (.int i :: .ref (ad 0) :: st) := by
  subst hf; subst hj
  exact g_iald C 1 rfl hi d kk
set_option maxHeartbeats 4000000 in
set_option maxRecDepth 100000 in
theorem Ms_now {X : XT} {cc : ByteArray} {nL : Nat} {rt : Option FieldType} {ka : Nat → ClassId} {lvl cells slots pc : Nat} {lv : List (Nat × Value)} {st : List Value} {ad : Nat → Nat} {F : FT} {R : RT} {J : JT} (C : Cx X cc nL RX10 rt ka lvl) {f : Nat → Int32} (hf : R 0 = f) {i : Int32} {x : Int32} (j : Nat) (hj : i.toNatClampNeg = j) (hi : vp_in i 37) (d : decode cc pc = .ok (.iastore, 1)) (kk : G X cells slots (wM ad ka F (va_up R 0 (upd f j x)) J) (pc + 1) lv st) : G X cells slots (wM ad ka F R J) pc lv (.int x :: .int i :: .ref (ad 0) :: st) := by
  subst hf; subst hj
  exact g_iast C 1 rfl hi _ rfl d kk
set_option maxHeartbeats 4000000 in
set_option maxRecDepth 100000 in
theorem Mg_faster {X : XT} {cc : ByteArray} {nL : Nat} {rt : Option FieldType} {ka : Nat → ClassId} {lvl cells slots pc : Nat} {lv : List (Nat × Value)} {st : List Value} {ad : Nat → Nat} {F : FT} {R : RT} {J : JT} (C : Cx X cc nL RX10 rt ka lvl) {v : Int32} (hv : F 1 = v) (d : decode cc pc = .ok (.getfield 13, 3)) (kk : G X cells slots (wM ad ka F R J) (pc + 3) lv (.int v :: st)) : G X cells slots (wM ad ka F R J) pc lv (.ref (ad 20) :: st) := by
  subst hv
  exact g_get C 0 wM_at (hc := rfl) inX10 1 (by decide) (index := 13) (ref := "SummerWallModel") (gw_of tw4_71 rfl) rfl rfl d kk
set_option maxHeartbeats 4000000 in
set_option maxRecDepth 100000 in
theorem Mp_faster {X : XT} {cc : ByteArray} {nL : Nat} {rt : Option FieldType} {ka : Nat → ClassId} {lvl cells slots pc : Nat} {lv : List (Nat × Value)} {st : List Value} {ad : Nat → Nat} {F : FT} {R : RT} {J : JT} (C : Cx X cc nL RX10 rt ka lvl) {x : Int32} (d : decode cc pc = .ok (.putfield 13, 3)) (kk : G X cells slots (wM ad ka (upd F 1 x) R J) (pc + 3) lv st) : G X cells slots (wM ad ka F R J) pc lv (.int x :: .ref (ad 20) :: st) := g_put C 0 wM_at (hc := rfl) inX10 tyX10 tyX10_ok nmX10 1 (by decide) (index := 13) (ref := "SummerWallModel") (gw_of tw4_71 rfl) rfl rfl rfl rfl (Nat.le_of_ble_eq_true rfl) _ rfl d kk
set_option maxHeartbeats 4000000 in
set_option maxRecDepth 100000 in
theorem Mg_by {X : XT} {cc : ByteArray} {nL : Nat} {rt : Option FieldType} {ka : Nat → ClassId} {lvl cells slots pc : Nat} {lv : List (Nat × Value)} {st : List Value} {ad : Nat → Nat} {F : FT} {R : RT} {J : JT} (C : Cx X cc nL RX10 rt ka lvl) {v : Int32} (hv : F 2 = v) (d : decode cc pc = .ok (.getfield 57, 3)) (kk : G X cells slots (wM ad ka F R J) (pc + 3) lv (.int v :: st)) : G X cells slots (wM ad ka F R J) pc lv (.ref (ad 20) :: st) := by
  subst hv
  exact g_get C 0 wM_at (hc := rfl) inX10 2 (by decide) (index := 57) (ref := "SummerWallModel") (gw_of tw4_72 rfl) rfl rfl d kk
set_option maxHeartbeats 4000000 in
set_option maxRecDepth 100000 in
theorem Mp_by {X : XT} {cc : ByteArray} {nL : Nat} {rt : Option FieldType} {ka : Nat → ClassId} {lvl cells slots pc : Nat} {lv : List (Nat × Value)} {st : List Value} {ad : Nat → Nat} {F : FT} {R : RT} {J : JT} (C : Cx X cc nL RX10 rt ka lvl) {x : Int32} (d : decode cc pc = .ok (.putfield 57, 3)) (kk : G X cells slots (wM ad ka (upd F 2 x) R J) (pc + 3) lv st) : G X cells slots (wM ad ka F R J) pc lv (.int x :: .ref (ad 20) :: st) := g_put C 0 wM_at (hc := rfl) inX10 tyX10 tyX10_ok nmX10 2 (by decide) (index := 57) (ref := "SummerWallModel") (gw_of tw4_72 rfl) rfl rfl rfl rfl (Nat.le_of_ble_eq_true rfl) _ rfl d kk
set_option maxHeartbeats 4000000 in
set_option maxRecDepth 100000 in
theorem Mg_tape {X : XT} {cc : ByteArray} {nL : Nat} {rt : Option FieldType} {ka : Nat → ClassId} {lvl cells slots pc : Nat} {lv : List (Nat × Value)} {st : List Value} {ad : Nat → Nat} {F : FT} {R : RT} {J : JT} (C : Cx X cc nL RX10 rt ka lvl) (d : decode cc pc = .ok (.getfield 17, 3)) (kk : G X cells slots (wM ad ka F R J) (pc + 3) lv (.ref (ad 3) :: st)) : G X cells slots (wM ad ka F R J) pc lv (.ref (ad 20) :: st) := g_get C 0 wM_at (hc := rfl) inX10 3 (by decide) (index := 17) (ref := "SummerWallModel") (gw_of tw4_73 rfl) rfl rfl d kk
set_option maxHeartbeats 4000000 in
set_option maxRecDepth 100000 in
theorem Ma_tape {X : XT} {cc : ByteArray} {nL : Nat} {rt : Option FieldType} {ka : Nat → ClassId} {lvl cells slots pc : Nat} {lv : List (Nat × Value)} {st : List Value} {ad : Nat → Nat} {F : FT} {R : RT} {J : JT} (C : Cx X cc nL RX10 rt ka lvl) {f : Nat → Int32} (hf : R 3 = f) {i : Int32} (j : Nat) (hj : i.toNatClampNeg = j) (hi : vp_in i 60) (d : decode cc pc = .ok (.iaload, 1)) (kk : G X cells slots (wM ad ka F R J) (pc + 1) lv (.int (f j) :: st)) : G X cells slots (wM ad ka F R J) pc lv (.int i :: .ref (ad 3) :: st) := by
  subst hf; subst hj
  exact g_iald C 2 rfl hi d kk
set_option maxHeartbeats 4000000 in
set_option maxRecDepth 100000 in
theorem Ms_tape {X : XT} {cc : ByteArray} {nL : Nat} {rt : Option FieldType} {ka : Nat → ClassId} {lvl cells slots pc : Nat} {lv : List (Nat × Value)} {st : List Value} {ad : Nat → Nat} {F : FT} {R : RT} {J : JT} (C : Cx X cc nL RX10 rt ka lvl) {f : Nat → Int32} (hf : R 3 = f) {i : Int32} {x : Int32} (j : Nat) (hj : i.toNatClampNeg = j) (hi : vp_in i 60) (d : decode cc pc = .ok (.iastore, 1)) (kk : G X cells slots (wM ad ka F (va_up R 3 (upd f j x)) J) (pc + 1) lv st) : G X cells slots (wM ad ka F R J) pc lv (.int x :: .int i :: .ref (ad 3) :: st) := by
  subst hf; subst hj
  exact g_iast C 2 rfl hi _ rfl d kk
set_option maxHeartbeats 4000000 in
set_option maxRecDepth 100000 in
theorem Mg_typed {X : XT} {cc : ByteArray} {nL : Nat} {rt : Option FieldType} {ka : Nat → ClassId} {lvl cells slots pc : Nat} {lv : List (Nat × Value)} {st : List Value} {ad : Nat → Nat} {F : FT} {R : RT} {J : JT} (C : Cx X cc nL RX10 rt ka lvl) {v : Int32} (hv : F 4 = v) (d : decode cc pc = .ok (.getfield 95, 3)) (kk : G X cells slots (wM ad ka F R J) (pc + 3) lv (.int v :: st)) : G X cells slots (wM ad ka F R J) pc lv (.ref (ad 20) :: st) := by
  subst hv
  exact g_get C 0 wM_at (hc := rfl) inX10 4 (by decide) (index := 95) (ref := "SummerWallModel") (gw_of tw4_74 rfl) rfl rfl d kk
set_option maxHeartbeats 4000000 in
set_option maxRecDepth 100000 in
theorem Mp_typed {X : XT} {cc : ByteArray} {nL : Nat} {rt : Option FieldType} {ka : Nat → ClassId} {lvl cells slots pc : Nat} {lv : List (Nat × Value)} {st : List Value} {ad : Nat → Nat} {F : FT} {R : RT} {J : JT} (C : Cx X cc nL RX10 rt ka lvl) {x : Int32} (d : decode cc pc = .ok (.putfield 95, 3)) (kk : G X cells slots (wM ad ka (upd F 4 x) R J) (pc + 3) lv st) : G X cells slots (wM ad ka F R J) pc lv (.int x :: .ref (ad 20) :: st) := g_put C 0 wM_at (hc := rfl) inX10 tyX10 tyX10_ok nmX10 4 (by decide) (index := 95) (ref := "SummerWallModel") (gw_of tw4_74 rfl) rfl rfl rfl rfl (Nat.le_of_ble_eq_true rfl) _ rfl d kk
set_option maxHeartbeats 4000000 in
set_option maxRecDepth 100000 in
theorem Mg_place {X : XT} {cc : ByteArray} {nL : Nat} {rt : Option FieldType} {ka : Nat → ClassId} {lvl cells slots pc : Nat} {lv : List (Nat × Value)} {st : List Value} {ad : Nat → Nat} {F : FT} {R : RT} {J : JT} (C : Cx X cc nL RX10 rt ka lvl) {v : Int32} (hv : F 5 = v) (d : decode cc pc = .ok (.getfield 98, 3)) (kk : G X cells slots (wM ad ka F R J) (pc + 3) lv (.int v :: st)) : G X cells slots (wM ad ka F R J) pc lv (.ref (ad 20) :: st) := by
  subst hv
  exact g_get C 0 wM_at (hc := rfl) inX10 5 (by decide) (index := 98) (ref := "SummerWallModel") (gw_of tw4_75 rfl) rfl rfl d kk
set_option maxHeartbeats 4000000 in
set_option maxRecDepth 100000 in
theorem Mp_place {X : XT} {cc : ByteArray} {nL : Nat} {rt : Option FieldType} {ka : Nat → ClassId} {lvl cells slots pc : Nat} {lv : List (Nat × Value)} {st : List Value} {ad : Nat → Nat} {F : FT} {R : RT} {J : JT} (C : Cx X cc nL RX10 rt ka lvl) {x : Int32} (d : decode cc pc = .ok (.putfield 98, 3)) (kk : G X cells slots (wM ad ka (upd F 5 x) R J) (pc + 3) lv st) : G X cells slots (wM ad ka F R J) pc lv (.int x :: .ref (ad 20) :: st) := g_put C 0 wM_at (hc := rfl) inX10 tyX10 tyX10_ok nmX10 5 (by decide) (index := 98) (ref := "SummerWallModel") (gw_of tw4_75 rfl) rfl rfl rfl rfl (Nat.le_of_ble_eq_true rfl) _ rfl d kk
set_option maxHeartbeats 4000000 in
set_option maxRecDepth 100000 in
theorem Mg_isFault {X : XT} {cc : ByteArray} {nL : Nat} {rt : Option FieldType} {ka : Nat → ClassId} {lvl cells slots pc : Nat} {lv : List (Nat × Value)} {st : List Value} {ad : Nat → Nat} {F : FT} {R : RT} {J : JT} (C : Cx X cc nL RX10 rt ka lvl) {v : Int32} (hv : F 6 = v) (d : decode cc pc = .ok (.getfield 101, 3)) (kk : G X cells slots (wM ad ka F R J) (pc + 3) lv (.int v :: st)) : G X cells slots (wM ad ka F R J) pc lv (.ref (ad 20) :: st) := by
  subst hv
  exact g_get C 0 wM_at (hc := rfl) inX10 6 (by decide) (index := 101) (ref := "SummerWallModel") (gw_of tw4_76 rfl) rfl rfl d kk
set_option maxHeartbeats 4000000 in
set_option maxRecDepth 100000 in
theorem Mp_isFault {X : XT} {cc : ByteArray} {nL : Nat} {rt : Option FieldType} {ka : Nat → ClassId} {lvl cells slots pc : Nat} {lv : List (Nat × Value)} {st : List Value} {ad : Nat → Nat} {F : FT} {R : RT} {J : JT} (C : Cx X cc nL RX10 rt ka lvl) {x : Int32} (hb : isB x) (d : decode cc pc = .ok (.putfield 101, 3)) (kk : G X cells slots (wM ad ka (upd F 6 x) R J) (pc + 3) lv st) : G X cells slots (wM ad ka F R J) pc lv (.int x :: .ref (ad 20) :: st) := g_put C 0 wM_at (hc := rfl) inX10 tyX10 tyX10_ok nmX10 6 (by decide) (index := 101) (ref := "SummerWallModel") (gw_of tw4_76 rfl) rfl rfl (nar_B hb) (fit_B hb) (Nat.le_of_ble_eq_true rfl) _ rfl d kk
set_option maxHeartbeats 4000000 in
set_option maxRecDepth 100000 in
theorem Mg_read {X : XT} {cc : ByteArray} {nL : Nat} {rt : Option FieldType} {ka : Nat → ClassId} {lvl cells slots pc : Nat} {lv : List (Nat × Value)} {st : List Value} {ad : Nat → Nat} {F : FT} {R : RT} {J : JT} (C : Cx X cc nL RX10 rt ka lvl) (d : decode cc pc = .ok (.getfield 20, 3)) (kk : G X cells slots (wM ad ka F R J) (pc + 3) lv (.ref (ad 7) :: st)) : G X cells slots (wM ad ka F R J) pc lv (.ref (ad 20) :: st) := g_get C 0 wM_at (hc := rfl) inX10 7 (by decide) (index := 20) (ref := "SummerWallModel") (gw_of tw4_77 rfl) rfl rfl d kk
set_option maxHeartbeats 4000000 in
set_option maxRecDepth 100000 in
theorem Ma_read {X : XT} {cc : ByteArray} {nL : Nat} {rt : Option FieldType} {ka : Nat → ClassId} {lvl cells slots pc : Nat} {lv : List (Nat × Value)} {st : List Value} {ad : Nat → Nat} {F : FT} {R : RT} {J : JT} (C : Cx X cc nL RX10 rt ka lvl) {f : Nat → Int32} (hf : R 7 = f) {i : Int32} (j : Nat) (hj : i.toNatClampNeg = j) (hi : vp_in i 24) (d : decode cc pc = .ok (.iaload, 1)) (kk : G X cells slots (wM ad ka F R J) (pc + 1) lv (.int (f j) :: st)) : G X cells slots (wM ad ka F R J) pc lv (.int i :: .ref (ad 7) :: st) := by
  subst hf; subst hj
  exact g_iald C 3 rfl hi d kk
set_option maxHeartbeats 4000000 in
set_option maxRecDepth 100000 in
theorem Ms_read {X : XT} {cc : ByteArray} {nL : Nat} {rt : Option FieldType} {ka : Nat → ClassId} {lvl cells slots pc : Nat} {lv : List (Nat × Value)} {st : List Value} {ad : Nat → Nat} {F : FT} {R : RT} {J : JT} (C : Cx X cc nL RX10 rt ka lvl) {f : Nat → Int32} (hf : R 7 = f) {i : Int32} {x : Int32} (j : Nat) (hj : i.toNatClampNeg = j) (hi : vp_in i 24) (d : decode cc pc = .ok (.iastore, 1)) (kk : G X cells slots (wM ad ka F (va_up R 7 (upd f j x)) J) (pc + 1) lv st) : G X cells slots (wM ad ka F R J) pc lv (.int x :: .int i :: .ref (ad 7) :: st) := by
  subst hf; subst hj
  exact g_iast C 3 rfl hi _ rfl d kk
set_option maxHeartbeats 4000000 in
set_option maxRecDepth 100000 in
theorem Mg_undone {X : XT} {cc : ByteArray} {nL : Nat} {rt : Option FieldType} {ka : Nat → ClassId} {lvl cells slots pc : Nat} {lv : List (Nat × Value)} {st : List Value} {ad : Nat → Nat} {F : FT} {R : RT} {J : JT} (C : Cx X cc nL RX10 rt ka lvl) (d : decode cc pc = .ok (.getfield 23, 3)) (kk : G X cells slots (wM ad ka F R J) (pc + 3) lv (.ref (ad 8) :: st)) : G X cells slots (wM ad ka F R J) pc lv (.ref (ad 20) :: st) := g_get C 0 wM_at (hc := rfl) inX10 8 (by decide) (index := 23) (ref := "SummerWallModel") (gw_of tw4_78 rfl) rfl rfl d kk
set_option maxHeartbeats 4000000 in
set_option maxRecDepth 100000 in
theorem Ma_undone {X : XT} {cc : ByteArray} {nL : Nat} {rt : Option FieldType} {ka : Nat → ClassId} {lvl cells slots pc : Nat} {lv : List (Nat × Value)} {st : List Value} {ad : Nat → Nat} {F : FT} {R : RT} {J : JT} (C : Cx X cc nL RX10 rt ka lvl) {f : Nat → Int32} (hf : R 8 = f) {i : Int32} (j : Nat) (hj : i.toNatClampNeg = j) (hi : vp_in i 48) (d : decode cc pc = .ok (.iaload, 1)) (kk : G X cells slots (wM ad ka F R J) (pc + 1) lv (.int (f j) :: st)) : G X cells slots (wM ad ka F R J) pc lv (.int i :: .ref (ad 8) :: st) := by
  subst hf; subst hj
  exact g_iald C 4 rfl hi d kk
set_option maxHeartbeats 4000000 in
set_option maxRecDepth 100000 in
theorem Ms_undone {X : XT} {cc : ByteArray} {nL : Nat} {rt : Option FieldType} {ka : Nat → ClassId} {lvl cells slots pc : Nat} {lv : List (Nat × Value)} {st : List Value} {ad : Nat → Nat} {F : FT} {R : RT} {J : JT} (C : Cx X cc nL RX10 rt ka lvl) {f : Nat → Int32} (hf : R 8 = f) {i : Int32} {x : Int32} (j : Nat) (hj : i.toNatClampNeg = j) (hi : vp_in i 48) (d : decode cc pc = .ok (.iastore, 1)) (kk : G X cells slots (wM ad ka F (va_up R 8 (upd f j x)) J) (pc + 1) lv st) : G X cells slots (wM ad ka F R J) pc lv (.int x :: .int i :: .ref (ad 8) :: st) := by
  subst hf; subst hj
  exact g_iast C 4 rfl hi _ rfl d kk
set_option maxHeartbeats 4000000 in
set_option maxRecDepth 100000 in
theorem Mg_undos {X : XT} {cc : ByteArray} {nL : Nat} {rt : Option FieldType} {ka : Nat → ClassId} {lvl cells slots pc : Nat} {lv : List (Nat × Value)} {st : List Value} {ad : Nat → Nat} {F : FT} {R : RT} {J : JT} (C : Cx X cc nL RX10 rt ka lvl) {v : Int32} (hv : F 9 = v) (d : decode cc pc = .ok (.getfield 72, 3)) (kk : G X cells slots (wM ad ka F R J) (pc + 3) lv (.int v :: st)) : G X cells slots (wM ad ka F R J) pc lv (.ref (ad 20) :: st) := by
  subst hv
  exact g_get C 0 wM_at (hc := rfl) inX10 9 (by decide) (index := 72) (ref := "SummerWallModel") (gw_of tw4_79 rfl) rfl rfl d kk
set_option maxHeartbeats 4000000 in
set_option maxRecDepth 100000 in
theorem Mp_undos {X : XT} {cc : ByteArray} {nL : Nat} {rt : Option FieldType} {ka : Nat → ClassId} {lvl cells slots pc : Nat} {lv : List (Nat × Value)} {st : List Value} {ad : Nat → Nat} {F : FT} {R : RT} {J : JT} (C : Cx X cc nL RX10 rt ka lvl) {x : Int32} (d : decode cc pc = .ok (.putfield 72, 3)) (kk : G X cells slots (wM ad ka (upd F 9 x) R J) (pc + 3) lv st) : G X cells slots (wM ad ka F R J) pc lv (.int x :: .ref (ad 20) :: st) := g_put C 0 wM_at (hc := rfl) inX10 tyX10 tyX10_ok nmX10 9 (by decide) (index := 72) (ref := "SummerWallModel") (gw_of tw4_79 rfl) rfl rfl rfl rfl (Nat.le_of_ble_eq_true rfl) _ rfl d kk
set_option maxHeartbeats 4000000 in
set_option maxRecDepth 100000 in
theorem Mg_chances {X : XT} {cc : ByteArray} {nL : Nat} {rt : Option FieldType} {ka : Nat → ClassId} {lvl cells slots pc : Nat} {lv : List (Nat × Value)} {st : List Value} {ad : Nat → Nat} {F : FT} {R : RT} {J : JT} (C : Cx X cc nL RX10 rt ka lvl) (d : decode cc pc = .ok (.getfield 26, 3)) (kk : G X cells slots (wM ad ka F R J) (pc + 3) lv (.ref (ad 10) :: st)) : G X cells slots (wM ad ka F R J) pc lv (.ref (ad 20) :: st) := g_get C 0 wM_at (hc := rfl) inX10 10 (by decide) (index := 26) (ref := "SummerWallModel") (gw_of tw4_80 rfl) rfl rfl d kk
set_option maxHeartbeats 4000000 in
set_option maxRecDepth 100000 in
theorem Ma_chances {X : XT} {cc : ByteArray} {nL : Nat} {rt : Option FieldType} {ka : Nat → ClassId} {lvl cells slots pc : Nat} {lv : List (Nat × Value)} {st : List Value} {ad : Nat → Nat} {F : FT} {R : RT} {J : JT} (C : Cx X cc nL RX10 rt ka lvl) {f : Nat → Int32} (hf : R 10 = f) {i : Int32} (j : Nat) (hj : i.toNatClampNeg = j) (hi : vp_in i 8241) (d : decode cc pc = .ok (.iaload, 1)) (kk : G X cells slots (wM ad ka F R J) (pc + 1) lv (.int (f j) :: st)) : G X cells slots (wM ad ka F R J) pc lv (.int i :: .ref (ad 10) :: st) := by
  subst hf; subst hj
  exact g_iald C 5 rfl hi d kk
set_option maxHeartbeats 4000000 in
set_option maxRecDepth 100000 in
theorem Ms_chances {X : XT} {cc : ByteArray} {nL : Nat} {rt : Option FieldType} {ka : Nat → ClassId} {lvl cells slots pc : Nat} {lv : List (Nat × Value)} {st : List Value} {ad : Nat → Nat} {F : FT} {R : RT} {J : JT} (C : Cx X cc nL RX10 rt ka lvl) {f : Nat → Int32} (hf : R 10 = f) {i : Int32} {x : Int32} (j : Nat) (hj : i.toNatClampNeg = j) (hi : vp_in i 8241) (d : decode cc pc = .ok (.iastore, 1)) (kk : G X cells slots (wM ad ka F (va_up R 10 (upd f j x)) J) (pc + 1) lv st) : G X cells slots (wM ad ka F R J) pc lv (.int x :: .int i :: .ref (ad 10) :: st) := by
  subst hf; subst hj
  exact g_iast C 5 rfl hi _ rfl d kk
set_option maxHeartbeats 4000000 in
set_option maxRecDepth 100000 in
theorem Mg_parts {X : XT} {cc : ByteArray} {nL : Nat} {rt : Option FieldType} {ka : Nat → ClassId} {lvl cells slots pc : Nat} {lv : List (Nat × Value)} {st : List Value} {ad : Nat → Nat} {F : FT} {R : RT} {J : JT} (C : Cx X cc nL RX10 rt ka lvl) (d : decode cc pc = .ok (.getfield 29, 3)) (kk : G X cells slots (wM ad ka F R J) (pc + 3) lv (.ref (ad 11) :: st)) : G X cells slots (wM ad ka F R J) pc lv (.ref (ad 20) :: st) := g_get C 0 wM_at (hc := rfl) inX10 11 (by decide) (index := 29) (ref := "SummerWallModel") (gw_of tw4_81 rfl) rfl rfl d kk
set_option maxHeartbeats 4000000 in
set_option maxRecDepth 100000 in
theorem Ma_parts {X : XT} {cc : ByteArray} {nL : Nat} {rt : Option FieldType} {ka : Nat → ClassId} {lvl cells slots pc : Nat} {lv : List (Nat × Value)} {st : List Value} {ad : Nat → Nat} {F : FT} {R : RT} {J : JT} (C : Cx X cc nL RX10 rt ka lvl) {f : Nat → Int32} (hf : R 11 = f) {i : Int32} (j : Nat) (hj : i.toNatClampNeg = j) (hi : vp_in i 201) (d : decode cc pc = .ok (.iaload, 1)) (kk : G X cells slots (wM ad ka F R J) (pc + 1) lv (.int (f j) :: st)) : G X cells slots (wM ad ka F R J) pc lv (.int i :: .ref (ad 11) :: st) := by
  subst hf; subst hj
  exact g_iald C 6 rfl hi d kk
set_option maxHeartbeats 4000000 in
set_option maxRecDepth 100000 in
theorem Ms_parts {X : XT} {cc : ByteArray} {nL : Nat} {rt : Option FieldType} {ka : Nat → ClassId} {lvl cells slots pc : Nat} {lv : List (Nat × Value)} {st : List Value} {ad : Nat → Nat} {F : FT} {R : RT} {J : JT} (C : Cx X cc nL RX10 rt ka lvl) {f : Nat → Int32} (hf : R 11 = f) {i : Int32} {x : Int32} (j : Nat) (hj : i.toNatClampNeg = j) (hi : vp_in i 201) (d : decode cc pc = .ok (.iastore, 1)) (kk : G X cells slots (wM ad ka F (va_up R 11 (upd f j x)) J) (pc + 1) lv st) : G X cells slots (wM ad ka F R J) pc lv (.int x :: .int i :: .ref (ad 11) :: st) := by
  subst hf; subst hj
  exact g_iast C 6 rfl hi _ rfl d kk
set_option maxHeartbeats 4000000 in
set_option maxRecDepth 100000 in
theorem Mg_nexts {X : XT} {cc : ByteArray} {nL : Nat} {rt : Option FieldType} {ka : Nat → ClassId} {lvl cells slots pc : Nat} {lv : List (Nat × Value)} {st : List Value} {ad : Nat → Nat} {F : FT} {R : RT} {J : JT} (C : Cx X cc nL RX10 rt ka lvl) (d : decode cc pc = .ok (.getfield 32, 3)) (kk : G X cells slots (wM ad ka F R J) (pc + 3) lv (.ref (ad 12) :: st)) : G X cells slots (wM ad ka F R J) pc lv (.ref (ad 20) :: st) := g_get C 0 wM_at (hc := rfl) inX10 12 (by decide) (index := 32) (ref := "SummerWallModel") (gw_of tw4_82 rfl) rfl rfl d kk
set_option maxHeartbeats 4000000 in
set_option maxRecDepth 100000 in
theorem Ma_nexts {X : XT} {cc : ByteArray} {nL : Nat} {rt : Option FieldType} {ka : Nat → ClassId} {lvl cells slots pc : Nat} {lv : List (Nat × Value)} {st : List Value} {ad : Nat → Nat} {F : FT} {R : RT} {J : JT} (C : Cx X cc nL RX10 rt ka lvl) {f : Nat → Int32} (hf : R 12 = f) {i : Int32} (j : Nat) (hj : i.toNatClampNeg = j) (hi : vp_in i 201) (d : decode cc pc = .ok (.iaload, 1)) (kk : G X cells slots (wM ad ka F R J) (pc + 1) lv (.int (f j) :: st)) : G X cells slots (wM ad ka F R J) pc lv (.int i :: .ref (ad 12) :: st) := by
  subst hf; subst hj
  exact g_iald C 7 rfl hi d kk
set_option maxHeartbeats 4000000 in
set_option maxRecDepth 100000 in
theorem Ms_nexts {X : XT} {cc : ByteArray} {nL : Nat} {rt : Option FieldType} {ka : Nat → ClassId} {lvl cells slots pc : Nat} {lv : List (Nat × Value)} {st : List Value} {ad : Nat → Nat} {F : FT} {R : RT} {J : JT} (C : Cx X cc nL RX10 rt ka lvl) {f : Nat → Int32} (hf : R 12 = f) {i : Int32} {x : Int32} (j : Nat) (hj : i.toNatClampNeg = j) (hi : vp_in i 201) (d : decode cc pc = .ok (.iastore, 1)) (kk : G X cells slots (wM ad ka F (va_up R 12 (upd f j x)) J) (pc + 1) lv st) : G X cells slots (wM ad ka F R J) pc lv (.int x :: .int i :: .ref (ad 12) :: st) := by
  subst hf; subst hj
  exact g_iast C 7 rfl hi _ rfl d kk
set_option maxHeartbeats 4000000 in
set_option maxRecDepth 100000 in
theorem Mg_kept {X : XT} {cc : ByteArray} {nL : Nat} {rt : Option FieldType} {ka : Nat → ClassId} {lvl cells slots pc : Nat} {lv : List (Nat × Value)} {st : List Value} {ad : Nat → Nat} {F : FT} {R : RT} {J : JT} (C : Cx X cc nL RX10 rt ka lvl) (d : decode cc pc = .ok (.getfield 35, 3)) (kk : G X cells slots (wM ad ka F R J) (pc + 3) lv (.ref (ad 13) :: st)) : G X cells slots (wM ad ka F R J) pc lv (.ref (ad 20) :: st) := g_get C 0 wM_at (hc := rfl) inX10 13 (by decide) (index := 35) (ref := "SummerWallModel") (gw_of tw4_83 rfl) rfl rfl d kk
set_option maxHeartbeats 4000000 in
set_option maxRecDepth 100000 in
theorem Ma_kept {X : XT} {cc : ByteArray} {nL : Nat} {rt : Option FieldType} {ka : Nat → ClassId} {lvl cells slots pc : Nat} {lv : List (Nat × Value)} {st : List Value} {ad : Nat → Nat} {F : FT} {R : RT} {J : JT} (C : Cx X cc nL RX10 rt ka lvl) {f : Nat → Int32} (hf : R 13 = f) {i : Int32} (j : Nat) (hj : i.toNatClampNeg = j) (hi : vp_in i 85) (d : decode cc pc = .ok (.iaload, 1)) (kk : G X cells slots (wM ad ka F R J) (pc + 1) lv (.int (f j) :: st)) : G X cells slots (wM ad ka F R J) pc lv (.int i :: .ref (ad 13) :: st) := by
  subst hf; subst hj
  exact g_iald C 8 rfl hi d kk
set_option maxHeartbeats 4000000 in
set_option maxRecDepth 100000 in
theorem Ms_kept {X : XT} {cc : ByteArray} {nL : Nat} {rt : Option FieldType} {ka : Nat → ClassId} {lvl cells slots pc : Nat} {lv : List (Nat × Value)} {st : List Value} {ad : Nat → Nat} {F : FT} {R : RT} {J : JT} (C : Cx X cc nL RX10 rt ka lvl) {f : Nat → Int32} (hf : R 13 = f) {i : Int32} {x : Int32} (j : Nat) (hj : i.toNatClampNeg = j) (hi : vp_in i 85) (d : decode cc pc = .ok (.iastore, 1)) (kk : G X cells slots (wM ad ka F (va_up R 13 (upd f j x)) J) (pc + 1) lv st) : G X cells slots (wM ad ka F R J) pc lv (.int x :: .int i :: .ref (ad 13) :: st) := by
  subst hf; subst hj
  exact g_iast C 8 rfl hi _ rfl d kk
set_option maxHeartbeats 4000000 in
set_option maxRecDepth 100000 in
theorem Mg_keptUndos {X : XT} {cc : ByteArray} {nL : Nat} {rt : Option FieldType} {ka : Nat → ClassId} {lvl cells slots pc : Nat} {lv : List (Nat × Value)} {st : List Value} {ad : Nat → Nat} {F : FT} {R : RT} {J : JT} (C : Cx X cc nL RX10 rt ka lvl) {v : Int32} (hv : F 14 = v) (d : decode cc pc = .ok (.getfield 201, 3)) (kk : G X cells slots (wM ad ka F R J) (pc + 3) lv (.int v :: st)) : G X cells slots (wM ad ka F R J) pc lv (.ref (ad 20) :: st) := by
  subst hv
  exact g_get C 0 wM_at (hc := rfl) inX10 14 (by decide) (index := 201) (ref := "SummerWallModel") (gw_of tw4_84 rfl) rfl rfl d kk
set_option maxHeartbeats 4000000 in
set_option maxRecDepth 100000 in
theorem Mp_keptUndos {X : XT} {cc : ByteArray} {nL : Nat} {rt : Option FieldType} {ka : Nat → ClassId} {lvl cells slots pc : Nat} {lv : List (Nat × Value)} {st : List Value} {ad : Nat → Nat} {F : FT} {R : RT} {J : JT} (C : Cx X cc nL RX10 rt ka lvl) {x : Int32} (d : decode cc pc = .ok (.putfield 201, 3)) (kk : G X cells slots (wM ad ka (upd F 14 x) R J) (pc + 3) lv st) : G X cells slots (wM ad ka F R J) pc lv (.int x :: .ref (ad 20) :: st) := g_put C 0 wM_at (hc := rfl) inX10 tyX10 tyX10_ok nmX10 14 (by decide) (index := 201) (ref := "SummerWallModel") (gw_of tw4_84 rfl) rfl rfl rfl rfl (Nat.le_of_ble_eq_true rfl) _ rfl d kk
set_option maxHeartbeats 4000000 in
set_option maxRecDepth 100000 in
theorem Mg_isKept {X : XT} {cc : ByteArray} {nL : Nat} {rt : Option FieldType} {ka : Nat → ClassId} {lvl cells slots pc : Nat} {lv : List (Nat × Value)} {st : List Value} {ad : Nat → Nat} {F : FT} {R : RT} {J : JT} (C : Cx X cc nL RX10 rt ka lvl) {v : Int32} (hv : F 15 = v) (d : decode cc pc = .ok (.getfield 204, 3)) (kk : G X cells slots (wM ad ka F R J) (pc + 3) lv (.int v :: st)) : G X cells slots (wM ad ka F R J) pc lv (.ref (ad 20) :: st) := by
  subst hv
  exact g_get C 0 wM_at (hc := rfl) inX10 15 (by decide) (index := 204) (ref := "SummerWallModel") (gw_of tw4_85 rfl) rfl rfl d kk
set_option maxHeartbeats 4000000 in
set_option maxRecDepth 100000 in
theorem Mp_isKept {X : XT} {cc : ByteArray} {nL : Nat} {rt : Option FieldType} {ka : Nat → ClassId} {lvl cells slots pc : Nat} {lv : List (Nat × Value)} {st : List Value} {ad : Nat → Nat} {F : FT} {R : RT} {J : JT} (C : Cx X cc nL RX10 rt ka lvl) {x : Int32} (hb : isB x) (d : decode cc pc = .ok (.putfield 204, 3)) (kk : G X cells slots (wM ad ka (upd F 15 x) R J) (pc + 3) lv st) : G X cells slots (wM ad ka F R J) pc lv (.int x :: .ref (ad 20) :: st) := g_put C 0 wM_at (hc := rfl) inX10 tyX10 tyX10_ok nmX10 15 (by decide) (index := 204) (ref := "SummerWallModel") (gw_of tw4_85 rfl) rfl rfl (nar_B hb) (fit_B hb) (Nat.le_of_ble_eq_true rfl) _ rfl d kk
set_option maxHeartbeats 4000000 in
set_option maxRecDepth 100000 in
theorem Mg_lanes {X : XT} {cc : ByteArray} {nL : Nat} {rt : Option FieldType} {ka : Nat → ClassId} {lvl cells slots pc : Nat} {lv : List (Nat × Value)} {st : List Value} {ad : Nat → Nat} {F : FT} {R : RT} {J : JT} (C : Cx X cc nL RX10 rt ka lvl) (d : decode cc pc = .ok (.getfield 38, 3)) (kk : G X cells slots (wM ad ka F R J) (pc + 3) lv (.ref (ad 16) :: st)) : G X cells slots (wM ad ka F R J) pc lv (.ref (ad 20) :: st) := g_get C 0 wM_at (hc := rfl) inX10 16 (by decide) (index := 38) (ref := "SummerWallModel") (gw_of tw4_86 rfl) rfl rfl d kk
set_option maxHeartbeats 4000000 in
set_option maxRecDepth 100000 in
theorem Ma_lanes {X : XT} {cc : ByteArray} {nL : Nat} {rt : Option FieldType} {ka : Nat → ClassId} {lvl cells slots pc : Nat} {lv : List (Nat × Value)} {st : List Value} {ad : Nat → Nat} {F : FT} {R : RT} {J : JT} (C : Cx X cc nL RX10 rt ka lvl) {f : Nat → Int32} (hf : R 16 = f) {i : Int32} (j : Nat) (hj : i.toNatClampNeg = j) (hi : vp_in i 4) (d : decode cc pc = .ok (.iaload, 1)) (kk : G X cells slots (wM ad ka F R J) (pc + 1) lv (.int (f j) :: st)) : G X cells slots (wM ad ka F R J) pc lv (.int i :: .ref (ad 16) :: st) := by
  subst hf; subst hj
  exact g_iald C 9 rfl hi d kk
set_option maxHeartbeats 4000000 in
set_option maxRecDepth 100000 in
theorem Ms_lanes {X : XT} {cc : ByteArray} {nL : Nat} {rt : Option FieldType} {ka : Nat → ClassId} {lvl cells slots pc : Nat} {lv : List (Nat × Value)} {st : List Value} {ad : Nat → Nat} {F : FT} {R : RT} {J : JT} (C : Cx X cc nL RX10 rt ka lvl) {f : Nat → Int32} (hf : R 16 = f) {i : Int32} {x : Int32} (j : Nat) (hj : i.toNatClampNeg = j) (hi : vp_in i 4) (d : decode cc pc = .ok (.iastore, 1)) (kk : G X cells slots (wM ad ka F (va_up R 16 (upd f j x)) J) (pc + 1) lv st) : G X cells slots (wM ad ka F R J) pc lv (.int x :: .int i :: .ref (ad 16) :: st) := by
  subst hf; subst hj
  exact g_iast C 9 rfl hi _ rfl d kk
set_option maxHeartbeats 4000000 in
set_option maxRecDepth 100000 in
theorem Mg_sizes {X : XT} {cc : ByteArray} {nL : Nat} {rt : Option FieldType} {ka : Nat → ClassId} {lvl cells slots pc : Nat} {lv : List (Nat × Value)} {st : List Value} {ad : Nat → Nat} {F : FT} {R : RT} {J : JT} (C : Cx X cc nL RX10 rt ka lvl) (d : decode cc pc = .ok (.getfield 41, 3)) (kk : G X cells slots (wM ad ka F R J) (pc + 3) lv (.ref (ad 17) :: st)) : G X cells slots (wM ad ka F R J) pc lv (.ref (ad 20) :: st) := g_get C 0 wM_at (hc := rfl) inX10 17 (by decide) (index := 41) (ref := "SummerWallModel") (gw_of tw4_87 rfl) rfl rfl d kk
set_option maxHeartbeats 4000000 in
set_option maxRecDepth 100000 in
theorem Ma_sizes {X : XT} {cc : ByteArray} {nL : Nat} {rt : Option FieldType} {ka : Nat → ClassId} {lvl cells slots pc : Nat} {lv : List (Nat × Value)} {st : List Value} {ad : Nat → Nat} {F : FT} {R : RT} {J : JT} (C : Cx X cc nL RX10 rt ka lvl) {f : Nat → Int32} (hf : R 17 = f) {i : Int32} (j : Nat) (hj : i.toNatClampNeg = j) (hi : vp_in i 4) (d : decode cc pc = .ok (.iaload, 1)) (kk : G X cells slots (wM ad ka F R J) (pc + 1) lv (.int (f j) :: st)) : G X cells slots (wM ad ka F R J) pc lv (.int i :: .ref (ad 17) :: st) := by
  subst hf; subst hj
  exact g_iald C 10 rfl hi d kk
set_option maxHeartbeats 4000000 in
set_option maxRecDepth 100000 in
theorem Ms_sizes {X : XT} {cc : ByteArray} {nL : Nat} {rt : Option FieldType} {ka : Nat → ClassId} {lvl cells slots pc : Nat} {lv : List (Nat × Value)} {st : List Value} {ad : Nat → Nat} {F : FT} {R : RT} {J : JT} (C : Cx X cc nL RX10 rt ka lvl) {f : Nat → Int32} (hf : R 17 = f) {i : Int32} {x : Int32} (j : Nat) (hj : i.toNatClampNeg = j) (hi : vp_in i 4) (d : decode cc pc = .ok (.iastore, 1)) (kk : G X cells slots (wM ad ka F (va_up R 17 (upd f j x)) J) (pc + 1) lv st) : G X cells slots (wM ad ka F R J) pc lv (.int x :: .int i :: .ref (ad 17) :: st) := by
  subst hf; subst hj
  exact g_iast C 10 rfl hi _ rfl d kk
set_option maxHeartbeats 4000000 in
set_option maxRecDepth 100000 in
theorem Mg_items {X : XT} {cc : ByteArray} {nL : Nat} {rt : Option FieldType} {ka : Nat → ClassId} {lvl cells slots pc : Nat} {lv : List (Nat × Value)} {st : List Value} {ad : Nat → Nat} {F : FT} {R : RT} {J : JT} (C : Cx X cc nL RX10 rt ka lvl) (d : decode cc pc = .ok (.getfield 44, 3)) (kk : G X cells slots (wM ad ka F R J) (pc + 3) lv (.ref (ad 18) :: st)) : G X cells slots (wM ad ka F R J) pc lv (.ref (ad 20) :: st) := g_get C 0 wM_at (hc := rfl) inX10 18 (by decide) (index := 44) (ref := "SummerWallModel") (gw_of tw4_88 rfl) rfl rfl d kk
set_option maxHeartbeats 4000000 in
set_option maxRecDepth 100000 in
theorem Ma_items {X : XT} {cc : ByteArray} {nL : Nat} {rt : Option FieldType} {ka : Nat → ClassId} {lvl cells slots pc : Nat} {lv : List (Nat × Value)} {st : List Value} {ad : Nat → Nat} {F : FT} {R : RT} {J : JT} (C : Cx X cc nL RX10 rt ka lvl) {f : Nat → Int64} (hf : J 18 = f) {i : Int32} (j : Nat) (hj : i.toNatClampNeg = j) (hi : vp_in i 96) (d : decode cc pc = .ok (.laload, 1)) (kk : G X cells slots (wM ad ka F R J) (pc + 1) lv (.long (f j) :: st)) : G X cells slots (wM ad ka F R J) pc lv (.int i :: .ref (ad 18) :: st) := by
  subst hf; subst hj
  exact g_lald C 11 rfl hi d kk
set_option maxHeartbeats 4000000 in
set_option maxRecDepth 100000 in
theorem Ms_items {X : XT} {cc : ByteArray} {nL : Nat} {rt : Option FieldType} {ka : Nat → ClassId} {lvl cells slots pc : Nat} {lv : List (Nat × Value)} {st : List Value} {ad : Nat → Nat} {F : FT} {R : RT} {J : JT} (C : Cx X cc nL RX10 rt ka lvl) {f : Nat → Int64} (hf : J 18 = f) {i : Int32} {x : Int64} (j : Nat) (hj : i.toNatClampNeg = j) (hi : vp_in i 96) (d : decode cc pc = .ok (.lastore, 1)) (kk : G X cells slots (wM ad ka F R (va_up J 18 (vp_updL f j x))) (pc + 1) lv st) : G X cells slots (wM ad ka F R J) pc lv (.long x :: .int i :: .ref (ad 18) :: st) := by
  subst hf; subst hj
  exact g_last C 11 rfl hi _ rfl d kk
set_option maxHeartbeats 4000000 in
set_option maxRecDepth 100000 in
theorem Mg_moved {X : XT} {cc : ByteArray} {nL : Nat} {rt : Option FieldType} {ka : Nat → ClassId} {lvl cells slots pc : Nat} {lv : List (Nat × Value)} {st : List Value} {ad : Nat → Nat} {F : FT} {R : RT} {J : JT} (C : Cx X cc nL RX10 rt ka lvl) (d : decode cc pc = .ok (.getfield 48, 3)) (kk : G X cells slots (wM ad ka F R J) (pc + 3) lv (.ref (ad 19) :: st)) : G X cells slots (wM ad ka F R J) pc lv (.ref (ad 20) :: st) := g_get C 0 wM_at (hc := rfl) inX10 19 (by decide) (index := 48) (ref := "SummerWallModel") (gw_of tw4_89 rfl) rfl rfl d kk
set_option maxHeartbeats 4000000 in
set_option maxRecDepth 100000 in
theorem Ma_moved {X : XT} {cc : ByteArray} {nL : Nat} {rt : Option FieldType} {ka : Nat → ClassId} {lvl cells slots pc : Nat} {lv : List (Nat × Value)} {st : List Value} {ad : Nat → Nat} {F : FT} {R : RT} {J : JT} (C : Cx X cc nL RX10 rt ka lvl) {f : Nat → Int64} (hf : J 19 = f) {i : Int32} (j : Nat) (hj : i.toNatClampNeg = j) (hi : vp_in i 24) (d : decode cc pc = .ok (.laload, 1)) (kk : G X cells slots (wM ad ka F R J) (pc + 1) lv (.long (f j) :: st)) : G X cells slots (wM ad ka F R J) pc lv (.int i :: .ref (ad 19) :: st) := by
  subst hf; subst hj
  exact g_lald C 12 rfl hi d kk
set_option maxHeartbeats 4000000 in
set_option maxRecDepth 100000 in
theorem Ms_moved {X : XT} {cc : ByteArray} {nL : Nat} {rt : Option FieldType} {ka : Nat → ClassId} {lvl cells slots pc : Nat} {lv : List (Nat × Value)} {st : List Value} {ad : Nat → Nat} {F : FT} {R : RT} {J : JT} (C : Cx X cc nL RX10 rt ka lvl) {f : Nat → Int64} (hf : J 19 = f) {i : Int32} {x : Int64} (j : Nat) (hj : i.toNatClampNeg = j) (hi : vp_in i 24) (d : decode cc pc = .ok (.lastore, 1)) (kk : G X cells slots (wM ad ka F R (va_up J 19 (vp_updL f j x))) (pc + 1) lv st) : G X cells slots (wM ad ka F R J) pc lv (.long x :: .int i :: .ref (ad 19) :: st) := by
  subst hf; subst hj
  exact g_last C 12 rfl hi _ rfl d kk
end
section
def qM_in (F : FT) (R : RT) (J : JT) (a1 : Int64) (a2 : Int64) (a3 : Int64) (K : Int32 → FT → RT → JT → Prop) : Prop :=
  ((lg_cmp a1 a2) < 0 → (K (0 : Int32) F R J)) ∧ (¬ (lg_cmp a1 a2) < 0 → ((0 < (lg_cmp a1 a3) → (K (0 : Int32) F R J)) ∧ (¬ 0 < (lg_cmp a1 a3) → (K (1 : Int32) F R J))))
set_option maxHeartbeats 4000000 in
set_option maxRecDepth 100000 in
theorem bM_in {X : XT} {ka : Nat → ClassId} {ad : Nat → Nat} (C : Cx X cX10_in 6 RX10 (some .boolean) ka 1) {K : Int32 → FT → RT → JT → Prop} (hret : RetI X cX10_in .boolean 0 0 (fun z w => ∃ F R J, w = wM ad ka F R J ∧ K z F R J)) (F : FT) (R : RT) (J : JT) (a1 : Int64) (a2 : Int64) (a3 : Int64) (h : qM_in F R J a1 a2 a3 K) : G X 0 0 (wM ad ka F R J) 0 [(0, .long a1), (2, .long a2), (4, .long a3)] [] := by
  unfold qM_in at h
  refine g_lload_n C 0 dX10_in_0 rfl ?_
  refine g_lload_n C 1 dX10_in_1 rfl ?_
  refine g_lcmp C dX10_in_2 ?_
  refine g_if_lt C 17 dX10_in_3 (by decide) (fun c1 => ?_) (fun c1 => ?_)
  · have h := h.1 c1
    refine g_iconst C (0 : Int32) dX10_in_17 ci_0 ?_
    exact hret _ _ _ _ ⟨_, _, _, rfl, h⟩ rfl dX10_in_18
  · have h := h.2 c1
    refine g_lload_n C 0 dX10_in_6 rfl ?_
    refine g_lload C 2 dX10_in_7 rfl ?_
    refine g_lcmp C dX10_in_9 ?_
    refine g_if_gt C 17 dX10_in_10 (by decide) (fun c2 => ?_) (fun c2 => ?_)
    · have h := h.1 c2
      refine g_iconst C (0 : Int32) dX10_in_17 ci_0 ?_
      exact hret _ _ _ _ ⟨_, _, _, rfl, h⟩ rfl dX10_in_18
    · have h := h.2 c2
      refine g_iconst C (1 : Int32) dX10_in_13 ci_1 ?_
      refine g_goto C 18 dX10_in_14 (by decide) ?_
      exact hret _ _ _ _ ⟨_, _, _, rfl, h⟩ rfl dX10_in_18
set_option maxHeartbeats 4000000 in
set_option maxRecDepth 100000 in
theorem kM_in (l : Launch) (D : va_G) (ka : Nat → ClassId) (ad : Nat → Nat) (F : FT) (R : RT) (J : JT) (a1 : Int64) (a2 : Int64) (a3 : Int64) (K : Int32 → FT → RT → JT → Prop) (h : qM_in F R J a1 a2 a3 K) : MI l D ka yX10_in cX10_in 6 (some .boolean) 1 0 0 [.long a1, .long a2, .long a3] (wM ad ka F R J) (fun z w => ∃ F R J, w = wM ad ka F R J ∧ K z F R J) := MI_of (by decide) (Nat.le_of_ble_eq_true rfl) (fun X C _ hret => bM_in C hret F R J a1 a2 a3 h)
set_option maxHeartbeats 4000000 in
set_option maxRecDepth 100000 in
theorem siX10_in : SInf yX10_in cX10_in 6 (some .boolean) 3 := ⟨(gw_of tw4_137 rfl), (gw_of tw1_6 rfl), (gw_of tw4_138 rfl), by decide +kernel, by decide⟩

def qM_isBuilder (F : FT) (R : RT) (J : JT) (a1 : Int32) (K : Int32 → FT → RT → JT → Prop) : Prop :=
  qM_in F R J a1.toInt64 (0 : Int64) (((R 0 0) - (1 : Int32)).toInt64) (fun r1 F1 R1 J1 => isB r1 ∧ K r1 F1 R1 J1)
set_option maxHeartbeats 4000000 in
set_option maxRecDepth 100000 in
theorem bM_isBuilder {X : XT} {ka : Nat → ClassId} {ad : Nat → Nat} (C : Cx X cX10_isBuilder 2 RX10 (some .boolean) ka 2) {K : Int32 → FT → RT → JT → Prop} (hret : RetI X cX10_isBuilder .boolean 0 0 (fun z w => ∃ F R J, w = wM ad ka F R J ∧ K z F R J)) (F : FT) (R : RT) (J : JT) (a1 : Int32) (h : qM_isBuilder F R J a1 K) : G X 0 0 (wM ad ka F R J) 0 [(0, .ref (ad 20)), (1, .int a1)] [] := by
  unfold qM_isBuilder at h
  refine g_iload_n C 1 dX10_isBuilder_0 rfl ?_
  refine g_i2l C dX10_isBuilder_1 ?_
  refine g_lconst C (0 : Int64) dX10_isBuilder_2 rfl ?_
  refine g_aload_n C 0 dX10_isBuilder_3 rfl ?_
  refine Mg_now C dX10_isBuilder_4 ?_
  refine g_iconst C (0 : Int32) dX10_isBuilder_7 ci_0 ?_
  refine Ma_now C (f := R 0) rfl (0) (by decide) (vp_lit (by decide)) dX10_isBuilder_8 ?_
  refine g_iconst C (1 : Int32) dX10_isBuilder_9 ci_1 ?_
  refine g_isub C dX10_isBuilder_10 ?_
  refine g_i2l C dX10_isBuilder_11 ?_
  refine g_callSi0 C (kM_in (xL X) (xD X) ka ad _ _ _ _ _ _ _ h) siX10_in (gw_of tw4_136 rfl) (by decide) rfl rfl (Nat.le_of_ble_eq_true rfl) z00 dX10_isBuilder_12 (fun r1 w hw => ?_)
  obtain ⟨F1, R1, J1, rfl, h⟩ := hw
  exact hret _ _ _ _ ⟨_, _, _, rfl, h.2⟩ (nar_B h.1) dX10_isBuilder_15
set_option maxHeartbeats 4000000 in
set_option maxRecDepth 100000 in
theorem kM_isBuilder (l : Launch) (D : va_G) (ka : Nat → ClassId) (ad : Nat → Nat) (F : FT) (R : RT) (J : JT) (a1 : Int32) (K : Int32 → FT → RT → JT → Prop) (h : qM_isBuilder F R J a1 K) : MI l D ka yX10_isBuilder cX10_isBuilder 2 (some .boolean) 2 0 0 [.ref (ad 20), .int a1] (wM ad ka F R J) (fun z w => ∃ F R J, w = wM ad ka F R J ∧ K z F R J) := MI_of (by decide) (Nat.le_of_ble_eq_true rfl) (fun X C _ hret => bM_isBuilder C hret F R J a1 h)
set_option maxHeartbeats 4000000 in
set_option maxRecDepth 100000 in
theorem miX10_isBuilder : MInf yX10_isBuilder cX10_isBuilder 2 (some .boolean) 1 := ⟨(gw_of tw4_146 rfl), (gw_of tp_yX10_isBuilder rfl), (gw_of tw1_6 rfl), (gw_of tw4_147 rfl), by decide +kernel, by decide⟩

def qM_isHindrance (F : FT) (R : RT) (J : JT) (a1 : Int32) (K : Int32 → FT → RT → JT → Prop) : Prop :=
  qM_in F R J a1.toInt64 (0 : Int64) (((R 0 1) - (1 : Int32)).toInt64) (fun r1 F1 R1 J1 => isB r1 ∧ K r1 F1 R1 J1)
set_option maxHeartbeats 4000000 in
set_option maxRecDepth 100000 in
theorem bM_isHindrance {X : XT} {ka : Nat → ClassId} {ad : Nat → Nat} (C : Cx X cX10_isHindrance 2 RX10 (some .boolean) ka 2) {K : Int32 → FT → RT → JT → Prop} (hret : RetI X cX10_isHindrance .boolean 0 0 (fun z w => ∃ F R J, w = wM ad ka F R J ∧ K z F R J)) (F : FT) (R : RT) (J : JT) (a1 : Int32) (h : qM_isHindrance F R J a1 K) : G X 0 0 (wM ad ka F R J) 0 [(0, .ref (ad 20)), (1, .int a1)] [] := by
  unfold qM_isHindrance at h
  refine g_iload_n C 1 dX10_isHindrance_0 rfl ?_
  refine g_i2l C dX10_isHindrance_1 ?_
  refine g_lconst C (0 : Int64) dX10_isHindrance_2 rfl ?_
  refine g_aload_n C 0 dX10_isHindrance_3 rfl ?_
  refine Mg_now C dX10_isHindrance_4 ?_
  refine g_iconst C (1 : Int32) dX10_isHindrance_7 ci_1 ?_
  refine Ma_now C (f := R 0) rfl (1) (by decide) (vp_lit (by decide)) dX10_isHindrance_8 ?_
  refine g_iconst C (1 : Int32) dX10_isHindrance_9 ci_1 ?_
  refine g_isub C dX10_isHindrance_10 ?_
  refine g_i2l C dX10_isHindrance_11 ?_
  refine g_callSi0 C (kM_in (xL X) (xD X) ka ad _ _ _ _ _ _ _ h) siX10_in (gw_of tw4_136 rfl) (by decide) rfl rfl (Nat.le_of_ble_eq_true rfl) z00 dX10_isHindrance_12 (fun r1 w hw => ?_)
  obtain ⟨F1, R1, J1, rfl, h⟩ := hw
  exact hret _ _ _ _ ⟨_, _, _, rfl, h.2⟩ (nar_B h.1) dX10_isHindrance_15
set_option maxHeartbeats 4000000 in
set_option maxRecDepth 100000 in
theorem kM_isHindrance (l : Launch) (D : va_G) (ka : Nat → ClassId) (ad : Nat → Nat) (F : FT) (R : RT) (J : JT) (a1 : Int32) (K : Int32 → FT → RT → JT → Prop) (h : qM_isHindrance F R J a1 K) : MI l D ka yX10_isHindrance cX10_isHindrance 2 (some .boolean) 2 0 0 [.ref (ad 20), .int a1] (wM ad ka F R J) (fun z w => ∃ F R J, w = wM ad ka F R J ∧ K z F R J) := MI_of (by decide) (Nat.le_of_ble_eq_true rfl) (fun X C _ hret => bM_isHindrance C hret F R J a1 h)
set_option maxHeartbeats 4000000 in
set_option maxRecDepth 100000 in
theorem miX10_isHindrance : MInf yX10_isHindrance cX10_isHindrance 2 (some .boolean) 1 := ⟨(gw_of tw5_10 rfl), (gw_of tp_yX10_isHindrance rfl), (gw_of tw1_6 rfl), (gw_of tw5_11 rfl), by decide +kernel, by decide⟩

def qM_isWeather (F : FT) (R : RT) (J : JT) (a1 : Int32) (K : Int32 → FT → RT → JT → Prop) : Prop :=
  qM_in F R J a1.toInt64 (0 : Int64) (2 : Int64) (fun r1 F1 R1 J1 => isB r1 ∧ K r1 F1 R1 J1)
set_option maxHeartbeats 4000000 in
set_option maxRecDepth 100000 in
theorem bM_isWeather {X : XT} {ka : Nat → ClassId} {ad : Nat → Nat} (C : Cx X cX10_isWeather 1 RX10 (some .boolean) ka 2) {K : Int32 → FT → RT → JT → Prop} (hret : RetI X cX10_isWeather .boolean 0 0 (fun z w => ∃ F R J, w = wM ad ka F R J ∧ K z F R J)) (F : FT) (R : RT) (J : JT) (a1 : Int32) (h : qM_isWeather F R J a1 K) : G X 0 0 (wM ad ka F R J) 0 [(0, .int a1)] [] := by
  unfold qM_isWeather at h
  refine g_iload_n C 0 dX10_isWeather_0 rfl ?_
  refine g_i2l C dX10_isWeather_1 ?_
  refine g_lconst C (0 : Int64) dX10_isWeather_2 rfl ?_
  refine g_ldc2 C (gw_of tw4_227 rfl) dX10_isWeather_3 ?_
  refine g_callSi0 C (kM_in (xL X) (xD X) ka ad _ _ _ _ _ _ _ h) siX10_in (gw_of tw4_136 rfl) (by decide) rfl rfl (Nat.le_of_ble_eq_true rfl) z00 dX10_isWeather_6 (fun r1 w hw => ?_)
  obtain ⟨F1, R1, J1, rfl, h⟩ := hw
  exact hret _ _ _ _ ⟨_, _, _, rfl, h.2⟩ (nar_B h.1) dX10_isWeather_9
set_option maxHeartbeats 4000000 in
set_option maxRecDepth 100000 in
theorem kM_isWeather (l : Launch) (D : va_G) (ka : Nat → ClassId) (ad : Nat → Nat) (F : FT) (R : RT) (J : JT) (a1 : Int32) (K : Int32 → FT → RT → JT → Prop) (h : qM_isWeather F R J a1 K) : MI l D ka yX10_isWeather cX10_isWeather 1 (some .boolean) 2 0 0 [.int a1] (wM ad ka F R J) (fun z w => ∃ F R J, w = wM ad ka F R J ∧ K z F R J) := MI_of (by decide) (Nat.le_of_ble_eq_true rfl) (fun X C _ hret => bM_isWeather C hret F R J a1 h)
set_option maxHeartbeats 4000000 in
set_option maxRecDepth 100000 in
theorem siX10_isWeather : SInf yX10_isWeather cX10_isWeather 1 (some .boolean) 1 := ⟨(gw_of tw4_225 rfl), (gw_of tw1_6 rfl), (gw_of tw4_226 rfl), by decide +kernel, by decide⟩

def qM_haulsOf_31 (F : FT) (R : RT) (J : JT) (v2 : Int32) (v3 : Int32) (s0 : Int32) (s1 : Int32) (K : Int32 → FT → RT → JT → Prop) : Prop :=
  (vp_in v3 37) ∧ (((R 0 v3.toNatClampNeg) = (1 : Int32) → ((vp_in (v3 + (2 : Int32)) 37) ∧ (K ((s1 + s0) + (R 0 ((v3 + (2 : Int32)).toNatClampNeg))) F R J))) ∧ (((R 0 v3.toNatClampNeg) = (2 : Int32) → (K (s1 + s0) F R J)) ∧ (((R 0 v3.toNatClampNeg) = (3 : Int32) → ((vp_in (v3 + (2 : Int32)) 37) ∧ (K ((2 : Int32) * ((s1 + s0) + (R 0 ((v3 + (2 : Int32)).toNatClampNeg)))) F R J))) ∧ (((R 0 v3.toNatClampNeg) = (4 : Int32) → (K ((s1 + s0) + (v2 / (10 : Int32))) F R J)) ∧ ((¬ (R 0 v3.toNatClampNeg) = (1 : Int32) → ¬ (R 0 v3.toNatClampNeg) = (2 : Int32) → ¬ (R 0 v3.toNatClampNeg) = (3 : Int32) → ¬ (R 0 v3.toNatClampNeg) = (4 : Int32) → (K (s1 + s0) F R J)))))))
set_option maxHeartbeats 4000000 in
set_option maxRecDepth 100000 in
theorem lM_haulsOf_31 {X : XT} {ka : Nat → ClassId} {ad : Nat → Nat} (C : Cx X cX10_haulsOf 5 RX10 (some .int) ka 1) {K : Int32 → FT → RT → JT → Prop} (hret : RetI X cX10_haulsOf .int 0 0 (fun z w => ∃ F R J, w = wM ad ka F R J ∧ K z F R J)) (F : FT) (R : RT) (J : JT) (v2 : Int32) (v3 : Int32) (s0 : Int32) (s1 : Int32) (h : qM_haulsOf_31 F R J v2 v3 s0 s1 K) : G X 0 0 (wM ad ka F R J) 31 [(0, .ref (ad 20)), (2, .int v2), (3, .int v3)] [.int s0, .int s1] := by
  unfold qM_haulsOf_31 at h
  refine g_iadd C dX10_haulsOf_31 ?_
  refine g_istore C [(4, .int (s1 + s0)), (0, .ref (ad 20)), (2, .int v2), (3, .int v3)] dX10_haulsOf_32 (by decide) rfl ?_
  refine g_aload_n C 1 dX10_haulsOf_34 rfl ?_
  refine Mg_now C dX10_haulsOf_35 ?_
  refine g_iload_n C 3 dX10_haulsOf_38 rfl ?_
  refine Ma_now C (f := R 0) rfl _ rfl h.1 dX10_haulsOf_39 ?_
  have h := h.2
  by_cases c1 : (R 0 v3.toNatClampNeg) = (1 : Int32)
  · have h := h.1 c1
    refine g_tableIn C (32) 72 dX10_haulsOf_40 (by rw [c1]; decide) (by rw [c1]; decide) (by rw [c1]; decide) (by decide) ?_
    refine g_iload C 0 dX10_haulsOf_72 rfl ?_
    refine g_aload_n C 1 dX10_haulsOf_74 rfl ?_
    refine Mg_now C dX10_haulsOf_75 ?_
    refine g_iload_n C 3 dX10_haulsOf_78 rfl ?_
    refine g_iconst C (2 : Int32) dX10_haulsOf_79 ci_2 ?_
    refine g_iadd C dX10_haulsOf_80 ?_
    refine Ma_now C (f := R 0) rfl _ rfl h.1 dX10_haulsOf_81 ?_
    have h := h.2
    refine g_iadd C dX10_haulsOf_82 ?_
    exact hret _ _ _ _ ⟨_, _, _, rfl, h⟩ rfl dX10_haulsOf_83
  have h := h.2
  by_cases c2 : (R 0 v3.toNatClampNeg) = (2 : Int32)
  · have h := h.1 c2
    refine g_tableIn C (66) 106 dX10_haulsOf_40 (by rw [c2]; decide) (by rw [c2]; decide) (by rw [c2]; decide) (by decide) ?_
    refine g_iload C 0 dX10_haulsOf_106 rfl ?_
    exact hret _ _ _ _ ⟨_, _, _, rfl, h⟩ rfl dX10_haulsOf_108
  have h := h.2
  by_cases c3 : (R 0 v3.toNatClampNeg) = (3 : Int32)
  · have h := h.1 c3
    refine g_tableIn C (44) 84 dX10_haulsOf_40 (by rw [c3]; decide) (by rw [c3]; decide) (by rw [c3]; decide) (by decide) ?_
    refine g_iconst C (2 : Int32) dX10_haulsOf_84 ci_2 ?_
    refine g_iload C 0 dX10_haulsOf_85 rfl ?_
    refine g_aload_n C 1 dX10_haulsOf_87 rfl ?_
    refine Mg_now C dX10_haulsOf_88 ?_
    refine g_iload_n C 3 dX10_haulsOf_91 rfl ?_
    refine g_iconst C (2 : Int32) dX10_haulsOf_92 ci_2 ?_
    refine g_iadd C dX10_haulsOf_93 ?_
    refine Ma_now C (f := R 0) rfl _ rfl h.1 dX10_haulsOf_94 ?_
    have h := h.2
    refine g_iadd C dX10_haulsOf_95 ?_
    refine g_imul C dX10_haulsOf_96 ?_
    exact hret _ _ _ _ ⟨_, _, _, rfl, h⟩ rfl dX10_haulsOf_97
  have h := h.2
  by_cases c4 : (R 0 v3.toNatClampNeg) = (4 : Int32)
  · have h := h.1 c4
    refine g_tableIn C (58) 98 dX10_haulsOf_40 (by rw [c4]; decide) (by rw [c4]; decide) (by rw [c4]; decide) (by decide) ?_
    refine g_iload C 0 dX10_haulsOf_98 rfl ?_
    refine g_iload_n C 2 dX10_haulsOf_100 rfl ?_
    refine g_bipush C (10 : Int32) dX10_haulsOf_101 cb_10 ?_
    refine g_idiv C dX10_haulsOf_103 (by decide) ?_
    refine g_iadd C dX10_haulsOf_104 ?_
    exact hret _ _ _ _ ⟨_, _, _, rfl, h⟩ rfl dX10_haulsOf_105
  have h := h.2
  have h := h c1 c2 c3 c4
  refine g_tableOut C 106 dX10_haulsOf_40 (by have ec1 := swn (1) (by decide) c1; have ec2 := swn (2) (by decide) c2; have ec3 := swn (3) (by decide) c3; have ec4 := swn (4) (by decide) c4; omega) (by decide) ?_
  refine g_iload C 0 dX10_haulsOf_106 rfl ?_
  exact hret _ _ _ _ ⟨_, _, _, rfl, h⟩ rfl dX10_haulsOf_108
def qM_haulsOf (F : FT) (R : RT) (J : JT) (a1 : Int32) (a2 : Int32) (K : Int32 → FT → RT → JT → Prop) : Prop :=
  (vp_in (((13 : Int32) + ((3 : Int32) * a1)) + (1 : Int32)) 37) ∧ ((¬ a1 = (F 1) → (qM_haulsOf_31 F R J a2 ((13 : Int32) + ((3 : Int32) * a1)) (0 : Int32) (R 0 ((((13 : Int32) + ((3 : Int32) * a1)) + (1 : Int32)).toNatClampNeg)) K)) ∧ (a1 = (F 1) → (qM_haulsOf_31 F R J a2 ((13 : Int32) + ((3 : Int32) * a1)) (F 2) (R 0 ((((13 : Int32) + ((3 : Int32) * a1)) + (1 : Int32)).toNatClampNeg)) K)))
set_option maxHeartbeats 4000000 in
set_option maxRecDepth 100000 in
theorem bM_haulsOf {X : XT} {ka : Nat → ClassId} {ad : Nat → Nat} (C : Cx X cX10_haulsOf 5 RX10 (some .int) ka 1) {K : Int32 → FT → RT → JT → Prop} (hret : RetI X cX10_haulsOf .int 0 0 (fun z w => ∃ F R J, w = wM ad ka F R J ∧ K z F R J)) (F : FT) (R : RT) (J : JT) (a1 : Int32) (a2 : Int32) (h : qM_haulsOf F R J a1 a2 K) : G X 0 0 (wM ad ka F R J) 0 [(0, .ref (ad 20)), (1, .int a1), (2, .int a2)] [] := by
  unfold qM_haulsOf at h
  refine g_bipush C (13 : Int32) dX10_haulsOf_0 cb_13 ?_
  refine g_iconst C (3 : Int32) dX10_haulsOf_2 ci_3 ?_
  refine g_iload_n C 1 dX10_haulsOf_3 rfl ?_
  refine g_imul C dX10_haulsOf_4 ?_
  refine g_iadd C dX10_haulsOf_5 ?_
  refine g_istore_n C [(3, .int ((13 : Int32) + ((3 : Int32) * a1))), (0, .ref (ad 20)), (1, .int a1), (2, .int a2)] dX10_haulsOf_6 (by decide) rfl ?_
  refine g_aload_n C 1 dX10_haulsOf_7 rfl ?_
  refine Mg_now C dX10_haulsOf_8 ?_
  refine g_iload_n C 0 dX10_haulsOf_11 rfl ?_
  refine g_iconst C (1 : Int32) dX10_haulsOf_12 ci_1 ?_
  refine g_iadd C dX10_haulsOf_13 ?_
  refine Ma_now C (f := R 0) rfl _ rfl h.1 dX10_haulsOf_14 ?_
  have h := h.2
  refine g_iload_n C 2 dX10_haulsOf_15 rfl ?_
  refine g_aload_n C 1 dX10_haulsOf_16 rfl ?_
  refine Mg_faster C (v := F 1) rfl dX10_haulsOf_17 ?_
  refine g_icmp_ne C 30 dX10_haulsOf_20 (by decide) (fun c1 => ?_) (fun c1 => ?_)
  · have h := h.1 c1
    refine g_iconst C (0 : Int32) dX10_haulsOf_30 ci_0 ?_
    exact g_lv [1, 3, 0] rfl (lM_haulsOf_31 C hret _ _ _ _ _ _ _ h)
  · have h := h.2 c1
    refine g_aload_n C 1 dX10_haulsOf_23 rfl ?_
    refine Mg_by C (v := F 2) rfl dX10_haulsOf_24 ?_
    refine g_goto C 31 dX10_haulsOf_27 (by decide) ?_
    exact g_lv [1, 3, 0] rfl (lM_haulsOf_31 C hret _ _ _ _ _ _ _ h)
set_option maxHeartbeats 4000000 in
set_option maxRecDepth 100000 in
theorem kM_haulsOf (l : Launch) (D : va_G) (ka : Nat → ClassId) (ad : Nat → Nat) (F : FT) (R : RT) (J : JT) (a1 : Int32) (a2 : Int32) (K : Int32 → FT → RT → JT → Prop) (h : qM_haulsOf F R J a1 a2 K) : MI l D ka yX10_haulsOf cX10_haulsOf 5 (some .int) 1 0 0 [.ref (ad 20), .int a1, .int a2] (wM ad ka F R J) (fun z w => ∃ F R J, w = wM ad ka F R J ∧ K z F R J) := MI_of (by decide) (Nat.le_of_ble_eq_true rfl) (fun X C _ hret => bM_haulsOf C hret F R J a1 a2 h)
set_option maxHeartbeats 4000000 in
set_option maxRecDepth 100000 in
theorem miX10_haulsOf : MInf yX10_haulsOf cX10_haulsOf 5 (some .int) 2 := ⟨(gw_of tw4_151 rfl), (gw_of tp_yX10_haulsOf rfl), (gw_of tw1_6 rfl), (gw_of tw4_152 rfl), by decide +kernel, by decide⟩

def qM_laysOf_68 (F : FT) (R : RT) (J : JT) (s0 : Int32) (K : Int32 → FT → RT → JT → Prop) : Prop :=
  (0 ≤ s0 → (K s0 F R J)) ∧ (¬ 0 ≤ s0 → (K (0 : Int32) F R J))
set_option maxHeartbeats 4000000 in
set_option maxRecDepth 100000 in
theorem lM_laysOf_68 {X : XT} {ka : Nat → ClassId} {ad : Nat → Nat} (C : Cx X cX10_laysOf 7 RX10 (some .int) ka 2) {K : Int32 → FT → RT → JT → Prop} (hret : RetI X cX10_laysOf .int 0 0 (fun z w => ∃ F R J, w = wM ad ka F R J ∧ K z F R J)) (F : FT) (R : RT) (J : JT) (s0 : Int32) (h : qM_laysOf_68 F R J s0 K) : G X 0 0 (wM ad ka F R J) 68 [] [.int s0] := by
  unfold qM_laysOf_68 at h
  refine g_istore C [(6, .int s0)] dX10_laysOf_68 (by decide) rfl ?_
  refine g_iload C 0 dX10_laysOf_70 rfl ?_
  refine g_if_ge C 79 dX10_laysOf_72 (by decide) (fun c1 => ?_) (fun c1 => ?_)
  · have h := h.1 c1
    refine g_iload C 0 dX10_laysOf_79 rfl ?_
    exact hret _ _ _ _ ⟨_, _, _, rfl, h⟩ rfl dX10_laysOf_81
  · have h := h.2 c1
    refine g_iconst C (0 : Int32) dX10_laysOf_75 ci_0 ?_
    refine g_goto C 81 dX10_laysOf_76 (by decide) ?_
    exact hret _ _ _ _ ⟨_, _, _, rfl, h⟩ rfl dX10_laysOf_81
def qM_laysOf_39 (F : FT) (R : RT) (J : JT) (v2 : Int32) (v4 : Int32) (v5 : Int32) (K : Int32 → FT → RT → JT → Prop) : Prop :=
  (¬ v2 = (1 : Int32) → ((¬ v5 = (3 : Int32) → (qM_laysOf_68 F R J (v4 - (1 : Int32)) K)) ∧ (v5 = (3 : Int32) → (qM_laysOf_68 F R J (v4 - (3 : Int32)) K)))) ∧ (v2 = (1 : Int32) → (qM_laysOf_68 F R J (v4 / (2 : Int32)) K))
set_option maxHeartbeats 4000000 in
set_option maxRecDepth 100000 in
theorem lM_laysOf_39 {X : XT} {ka : Nat → ClassId} {ad : Nat → Nat} (C : Cx X cX10_laysOf 7 RX10 (some .int) ka 2) {K : Int32 → FT → RT → JT → Prop} (hret : RetI X cX10_laysOf .int 0 0 (fun z w => ∃ F R J, w = wM ad ka F R J ∧ K z F R J)) (F : FT) (R : RT) (J : JT) (v2 : Int32) (v4 : Int32) (v5 : Int32) (h : qM_laysOf_39 F R J v2 v4 v5 K) : G X 0 0 (wM ad ka F R J) 39 [(2, .int v2), (4, .int v4), (5, .int v5)] [] := by
  unfold qM_laysOf_39 at h
  refine g_iload_n C 0 dX10_laysOf_39 rfl ?_
  refine g_iconst C (1 : Int32) dX10_laysOf_40 ci_1 ?_
  refine g_icmp_ne C 51 dX10_laysOf_41 (by decide) (fun c1 => ?_) (fun c1 => ?_)
  · have h := h.1 c1
    refine g_iload C 2 dX10_laysOf_51 rfl ?_
    refine g_iconst C (3 : Int32) dX10_laysOf_53 ci_3 ?_
    refine g_icmp_ne C 64 dX10_laysOf_54 (by decide) (fun c2 => ?_) (fun c2 => ?_)
    · have h := h.1 c2
      refine g_iload C 1 dX10_laysOf_64 rfl ?_
      refine g_iconst C (1 : Int32) dX10_laysOf_66 ci_1 ?_
      refine g_isub C dX10_laysOf_67 ?_
      exact g_lv [] rfl (lM_laysOf_68 C hret _ _ _ _ h)
    · have h := h.2 c2
      refine g_iload C 1 dX10_laysOf_57 rfl ?_
      refine g_iconst C (3 : Int32) dX10_laysOf_59 ci_3 ?_
      refine g_isub C dX10_laysOf_60 ?_
      refine g_goto C 68 dX10_laysOf_61 (by decide) ?_
      exact g_lv [] rfl (lM_laysOf_68 C hret _ _ _ _ h)
  · have h := h.2 c1
    refine g_iload C 1 dX10_laysOf_44 rfl ?_
    refine g_iconst C (2 : Int32) dX10_laysOf_46 ci_2 ?_
    refine g_idiv C dX10_laysOf_47 (by decide) ?_
    refine g_goto C 68 dX10_laysOf_48 (by decide) ?_
    exact g_lv [] rfl (lM_laysOf_68 C hret _ _ _ _ h)
def qM_laysOf (F : FT) (R : RT) (J : JT) (a1 : Int32) (a2 : Int32) (a3 : Int32) (K : Int32 → FT → RT → JT → Prop) : Prop :=
  qM_haulsOf F R J a1 a3 (fun r1 F1 R1 J1 => (vp_in ((13 : Int32) + ((3 : Int32) * a1)) 37) ∧ ((a2 = 0 → (K r1 F1 R1 J1)) ∧ (¬ a2 = 0 → ((¬ a2 = (1 : Int32) → (qM_laysOf_39 F1 R1 J1 a2 r1 (R1 0 (((13 : Int32) + ((3 : Int32) * a1)).toNatClampNeg)) K)) ∧ (a2 = (1 : Int32) → ((¬ (R1 0 (((13 : Int32) + ((3 : Int32) * a1)).toNatClampNeg)) = (2 : Int32) → (qM_laysOf_39 F1 R1 J1 a2 r1 (R1 0 (((13 : Int32) + ((3 : Int32) * a1)).toNatClampNeg)) K)) ∧ ((R1 0 (((13 : Int32) + ((3 : Int32) * a1)).toNatClampNeg)) = (2 : Int32) → (K r1 F1 R1 J1))))))))
set_option maxHeartbeats 4000000 in
set_option maxRecDepth 100000 in
theorem bM_laysOf {X : XT} {ka : Nat → ClassId} {ad : Nat → Nat} (C : Cx X cX10_laysOf 7 RX10 (some .int) ka 2) {K : Int32 → FT → RT → JT → Prop} (hret : RetI X cX10_laysOf .int 0 0 (fun z w => ∃ F R J, w = wM ad ka F R J ∧ K z F R J)) (F : FT) (R : RT) (J : JT) (a1 : Int32) (a2 : Int32) (a3 : Int32) (h : qM_laysOf F R J a1 a2 a3 K) : G X 0 0 (wM ad ka F R J) 0 [(0, .ref (ad 20)), (1, .int a1), (2, .int a2), (3, .int a3)] [] := by
  unfold qM_laysOf at h
  refine g_aload_n C 0 dX10_laysOf_0 rfl ?_
  refine g_iload_n C 1 dX10_laysOf_1 rfl ?_
  refine g_iload_n C 3 dX10_laysOf_2 rfl ?_
  refine g_callVi0 C (kM_haulsOf (xL X) (xD X) ka ad _ _ _ _ _ _ h) miX10_haulsOf (gw_of tw4_149 rfl) (by decide) wM_at rfl rfl rfl (Nat.le_of_ble_eq_true rfl) z00 dX10_laysOf_3 (fun r1 w hw => ?_)
  obtain ⟨F1, R1, J1, rfl, h⟩ := hw
  refine g_istore C [(4, .int r1), (0, .ref (ad 20)), (1, .int a1), (2, .int a2), (3, .int a3)] dX10_laysOf_6 (by decide) rfl ?_
  refine g_aload_n C 1 dX10_laysOf_8 rfl ?_
  refine Mg_now C dX10_laysOf_9 ?_
  refine g_bipush C (13 : Int32) dX10_laysOf_12 cb_13 ?_
  refine g_iconst C (3 : Int32) dX10_laysOf_14 ci_3 ?_
  refine g_iload_n C 2 dX10_laysOf_15 rfl ?_
  refine g_imul C dX10_laysOf_16 ?_
  refine g_iadd C dX10_laysOf_17 ?_
  refine Ma_now C (f := R1 0) rfl _ rfl h.1 dX10_laysOf_18 ?_
  have h := h.2
  refine g_istore C [(5, .int (R1 0 (((13 : Int32) + ((3 : Int32) * a1)).toNatClampNeg))), (4, .int r1), (0, .ref (ad 20)), (1, .int a1), (2, .int a2), (3, .int a3)] dX10_laysOf_19 (by decide) rfl ?_
  refine g_iload_n C 4 dX10_laysOf_21 rfl ?_
  refine g_if_eq C 36 dX10_laysOf_22 (by decide) (fun c2 => ?_) (fun c2 => ?_)
  · have h := h.1 c2
    refine g_iload C 1 dX10_laysOf_36 rfl ?_
    exact hret _ _ _ _ ⟨_, _, _, rfl, h⟩ rfl dX10_laysOf_38
  · have h := h.2 c2
    refine g_iload_n C 4 dX10_laysOf_25 rfl ?_
    refine g_iconst C (1 : Int32) dX10_laysOf_26 ci_1 ?_
    refine g_icmp_ne C 39 dX10_laysOf_27 (by decide) (fun c3 => ?_) (fun c3 => ?_)
    · have h := h.1 c3
      exact g_lv [4, 1, 0] rfl (lM_laysOf_39 C hret _ _ _ _ _ _ h)
    · have h := h.2 c3
      refine g_iload C 0 dX10_laysOf_30 rfl ?_
      refine g_iconst C (2 : Int32) dX10_laysOf_32 ci_2 ?_
      refine g_icmp_ne C 39 dX10_laysOf_33 (by decide) (fun c4 => ?_) (fun c4 => ?_)
      · have h := h.1 c4
        exact g_lv [4, 1, 0] rfl (lM_laysOf_39 C hret _ _ _ _ _ _ h)
      · have h := h.2 c4
        refine g_iload C 1 dX10_laysOf_36 rfl ?_
        exact hret _ _ _ _ ⟨_, _, _, rfl, h⟩ rfl dX10_laysOf_38
set_option maxHeartbeats 4000000 in
set_option maxRecDepth 100000 in
theorem kM_laysOf (l : Launch) (D : va_G) (ka : Nat → ClassId) (ad : Nat → Nat) (F : FT) (R : RT) (J : JT) (a1 : Int32) (a2 : Int32) (a3 : Int32) (K : Int32 → FT → RT → JT → Prop) (h : qM_laysOf F R J a1 a2 a3 K) : MI l D ka yX10_laysOf cX10_laysOf 7 (some .int) 2 0 0 [.ref (ad 20), .int a1, .int a2, .int a3] (wM ad ka F R J) (fun z w => ∃ F R J, w = wM ad ka F R J ∧ K z F R J) := MI_of (by decide) (Nat.le_of_ble_eq_true rfl) (fun X C _ hret => bM_laysOf C hret F R J a1 a2 a3 h)
set_option maxHeartbeats 4000000 in
set_option maxRecDepth 100000 in
theorem miX10_laysOf : MInf yX10_laysOf cX10_laysOf 7 (some .int) 3 := ⟨(gw_of tw4_155 rfl), (gw_of tp_yX10_laysOf rfl), (gw_of tw1_6 rfl), (gw_of tw4_156 rfl), by decide +kernel, by decide⟩

def qM_behind_51 (F : FT) (R : RT) (J : JT) (s0 : Int32) (s1 : Int32) (K : Int32 → FT → RT → JT → Prop) : Prop :=
  ((s1 + s0) ≤ (R 0 2) → (K (s1 + s0) F R J)) ∧ (¬ (s1 + s0) ≤ (R 0 2) → (K (R 0 2) F R J))
set_option maxHeartbeats 4000000 in
set_option maxRecDepth 100000 in
theorem lM_behind_51 {X : XT} {ka : Nat → ClassId} {ad : Nat → Nat} (C : Cx X cX10_behind 6 RX10 (some .int) ka 3) {K : Int32 → FT → RT → JT → Prop} (hret : RetI X cX10_behind .int 0 0 (fun z w => ∃ F R J, w = wM ad ka F R J ∧ K z F R J)) (F : FT) (R : RT) (J : JT) (s0 : Int32) (s1 : Int32) (h : qM_behind_51 F R J s0 s1 K) : G X 0 0 (wM ad ka F R J) 51 [(0, .ref (ad 20))] [.int s0, .int s1] := by
  unfold qM_behind_51 at h
  refine g_iadd C dX10_behind_51 ?_
  refine g_istore C [(5, .int (s1 + s0)), (0, .ref (ad 20))] dX10_behind_52 (by decide) rfl ?_
  refine g_iload C 0 dX10_behind_54 rfl ?_
  refine g_aload_n C 1 dX10_behind_56 rfl ?_
  refine Mg_now C dX10_behind_57 ?_
  refine g_iconst C (2 : Int32) dX10_behind_60 ci_2 ?_
  refine Ma_now C (f := R 0) rfl (2) (by decide) (vp_lit (by decide)) dX10_behind_61 ?_
  refine g_icmp_le C 74 dX10_behind_62 (by decide) (fun c1 => ?_) (fun c1 => ?_)
  · have h := h.1 c1
    refine g_iload C 0 dX10_behind_74 rfl ?_
    exact hret _ _ _ _ ⟨_, _, _, rfl, h⟩ rfl dX10_behind_76
  · have h := h.2 c1
    refine g_aload_n C 1 dX10_behind_65 rfl ?_
    refine Mg_now C dX10_behind_66 ?_
    refine g_iconst C (2 : Int32) dX10_behind_69 ci_2 ?_
    refine Ma_now C (f := R 0) rfl (2) (by decide) (vp_lit (by decide)) dX10_behind_70 ?_
    refine g_goto C 76 dX10_behind_71 (by decide) ?_
    exact hret _ _ _ _ ⟨_, _, _, rfl, h⟩ rfl dX10_behind_76
def qM_behind_6 : Nat → FT → RT → JT → Int32 → Int32 → Int32 → Int32 → Int32 → (Int32 → FT → RT → JT → Prop) → Prop
  | 0, _, _, _, _, _, _, _, _ => fun _ => False
  | n + 1, F, R, J, v1, v2, v3, v4, v5 => fun K => ((R 0 0) ≤ v5 → ((v3 ≤ v4 → (qM_behind_51 F R J (v4 - v3) v2 K)) ∧ (¬ v3 ≤ v4 → (qM_behind_51 F R J (0 : Int32) v2 K)))) ∧ (¬ (R 0 0) ≤ v5 → (qM_laysOf F R J v5 v1 v2 (fun r3 F3 R3 J3 => qM_behind_6 n F3 R3 J3 v1 v2 v3 (v4 + r3) (v5 + (1 : Int32)) K)))
set_option maxHeartbeats 4000000 in
set_option maxRecDepth 100000 in
theorem lM_behind_6 {X : XT} {ka : Nat → ClassId} {ad : Nat → Nat} (C : Cx X cX10_behind 6 RX10 (some .int) ka 3) {K : Int32 → FT → RT → JT → Prop} (hret : RetI X cX10_behind .int 0 0 (fun z w => ∃ F R J, w = wM ad ka F R J ∧ K z F R J)) : ∀ (n : Nat) (F : FT) (R : RT) (J : JT) (v1 : Int32) (v2 : Int32) (v3 : Int32) (v4 : Int32) (v5 : Int32), qM_behind_6 n F R J v1 v2 v3 v4 v5 K → G X 0 0 (wM ad ka F R J) 6 [(0, .ref (ad 20)), (1, .int v1), (2, .int v2), (3, .int v3), (4, .int v4), (5, .int v5)] [] := by
  intro n
  induction n with
  | zero => intro F R J v1 v2 v3 v4 v5 h; exact h.elim
  | succ n ih =>
    intro F R J v1 v2 v3 v4 v5 h
    refine g_iload C 5 dX10_behind_6 rfl ?_
    refine g_aload_n C 0 dX10_behind_8 rfl ?_
    refine Mg_now C dX10_behind_9 ?_
    refine g_iconst C (0 : Int32) dX10_behind_12 ci_0 ?_
    refine Ma_now C (f := R 0) rfl (0) (by decide) (vp_lit (by decide)) dX10_behind_13 ?_
    refine g_icmp_ge C 36 dX10_behind_14 (by decide) (fun c1 => ?_) (fun c1 => ?_)
    · have h := h.1 c1
      refine g_iload_n C 2 dX10_behind_36 rfl ?_
      refine g_iload C 4 dX10_behind_37 rfl ?_
      refine g_iload_n C 3 dX10_behind_39 rfl ?_
      refine g_icmp_ge C 47 dX10_behind_40 (by decide) (fun c2 => ?_) (fun c2 => ?_)
      · have h := h.1 c2
        refine g_iload C 4 dX10_behind_47 rfl ?_
        refine g_iload_n C 3 dX10_behind_49 rfl ?_
        refine g_isub C dX10_behind_50 ?_
        exact g_lv [0] rfl (lM_behind_51 C hret _ _ _ _ _ h)
      · have h := h.2 c2
        refine g_iconst C (0 : Int32) dX10_behind_43 ci_0 ?_
        refine g_goto C 51 dX10_behind_44 (by decide) ?_
        exact g_lv [0] rfl (lM_behind_51 C hret _ _ _ _ _ h)
    · have h := h.2 c1
      refine g_iload C 4 dX10_behind_17 rfl ?_
      refine g_aload_n C 0 dX10_behind_19 rfl ?_
      refine g_iload C 5 dX10_behind_20 rfl ?_
      refine g_iload_n C 1 dX10_behind_22 rfl ?_
      refine g_iload_n C 2 dX10_behind_23 rfl ?_
      refine g_callVi0 C (kM_laysOf (xL X) (xD X) ka ad _ _ _ _ _ _ _ h) miX10_laysOf (gw_of tw4_153 rfl) (by decide) wM_at rfl rfl rfl (Nat.le_of_ble_eq_true rfl) z00 dX10_behind_24 (fun r3 w hw => ?_)
      obtain ⟨F3, R3, J3, rfl, h⟩ := hw
      refine g_iadd C dX10_behind_27 ?_
      refine g_istore C [(4, .int (v4 + r3)), (0, .ref (ad 20)), (1, .int v1), (2, .int v2), (3, .int v3), (5, .int v5)] dX10_behind_28 (by decide) rfl ?_
      refine g_iinc C 5 (v5 + (1 : Int32)) [(5, .int (v5 + (1 : Int32))), (4, .int (v4 + r3)), (0, .ref (ad 20)), (1, .int v1), (2, .int v2), (3, .int v3)] dX10_behind_30 rfl (by rw [ci_1]) (by decide) rfl ?_
      refine g_goto C 6 dX10_behind_33 (by decide) ?_
      exact g_lv [2, 3, 4, 5, 1, 0] rfl (ih _ _ _ _ _ _ _ _ h)
def qM_behind (F : FT) (R : RT) (J : JT) (a1 : Int32) (a2 : Int32) (a3 : Int32) (K : Int32 → FT → RT → JT → Prop) : Prop :=
  ∃ n, qM_behind_6 n F R J a1 a2 a3 (0 : Int32) (0 : Int32) K
set_option maxHeartbeats 4000000 in
set_option maxRecDepth 100000 in
theorem bM_behind {X : XT} {ka : Nat → ClassId} {ad : Nat → Nat} (C : Cx X cX10_behind 6 RX10 (some .int) ka 3) {K : Int32 → FT → RT → JT → Prop} (hret : RetI X cX10_behind .int 0 0 (fun z w => ∃ F R J, w = wM ad ka F R J ∧ K z F R J)) (F : FT) (R : RT) (J : JT) (a1 : Int32) (a2 : Int32) (a3 : Int32) (h : qM_behind F R J a1 a2 a3 K) : G X 0 0 (wM ad ka F R J) 0 [(0, .ref (ad 20)), (1, .int a1), (2, .int a2), (3, .int a3)] [] := by
  unfold qM_behind at h
  refine g_iconst C (0 : Int32) dX10_behind_0 ci_0 ?_
  refine g_istore C [(4, .int (0 : Int32)), (0, .ref (ad 20)), (1, .int a1), (2, .int a2), (3, .int a3)] dX10_behind_1 (by decide) rfl ?_
  refine g_iconst C (0 : Int32) dX10_behind_3 ci_0 ?_
  refine g_istore C [(5, .int (0 : Int32)), (4, .int (0 : Int32)), (0, .ref (ad 20)), (1, .int a1), (2, .int a2), (3, .int a3)] dX10_behind_4 (by decide) rfl ?_
  obtain ⟨n1, h⟩ := h
  exact g_lv [2, 3, 4, 5, 1, 0] rfl (lM_behind_6 C hret n1 _ _ _ _ _ _ _ _ h)
set_option maxHeartbeats 4000000 in
set_option maxRecDepth 100000 in
theorem kM_behind (l : Launch) (D : va_G) (ka : Nat → ClassId) (ad : Nat → Nat) (F : FT) (R : RT) (J : JT) (a1 : Int32) (a2 : Int32) (a3 : Int32) (K : Int32 → FT → RT → JT → Prop) (h : qM_behind F R J a1 a2 a3 K) : MI l D ka yX10_behind cX10_behind 6 (some .int) 3 0 0 [.ref (ad 20), .int a1, .int a2, .int a3] (wM ad ka F R J) (fun z w => ∃ F R J, w = wM ad ka F R J ∧ K z F R J) := MI_of (by decide) (Nat.le_of_ble_eq_true rfl) (fun X C _ hret => bM_behind C hret F R J a1 a2 a3 h)
set_option maxHeartbeats 4000000 in
set_option maxRecDepth 100000 in
theorem miX10_behind : MInf yX10_behind cX10_behind 6 (some .int) 3 := ⟨(gw_of tw5_2 rfl), (gw_of tp_yX10_behind rfl), (gw_of tw1_6 rfl), (gw_of tw5_3 rfl), by decide +kernel, by decide⟩

def qM_builder (F : FT) (R : RT) (J : JT) (a1 : Int32) (a2 : Int32) (a3 : Int32) (K : Int32 → FT → RT → JT → Prop) : Prop :=
  qM_in F R J a1.toInt64 (0 : Int64) (4 : Int64) (fun r1 F1 R1 J1 => (r1 = 0 → (K (-1 : Int32) F1 R1 J1)) ∧ (¬ r1 = 0 → (qM_in F1 R1 J1 a2.toInt64 (1 : Int64) (9 : Int64) (fun r3 F3 R3 J3 => (r3 = 0 → (K (-1 : Int32) F3 R3 J3)) ∧ (¬ r3 = 0 → (qM_in F3 R3 J3 a3.toInt64 (0 : Int64) (9 : Int64) (fun r5 F5 R5 J5 => (¬ r5 = 0 → ((¬ (R5 0 0) = (4 : Int32) → ((vp_in ((13 : Int32) + ((3 : Int32) * (R5 0 0))) 37) ∧ ((vp_in (((13 : Int32) + ((3 : Int32) * (R5 0 0))) + (1 : Int32)) 37) ∧ ((vp_in (((13 : Int32) + ((3 : Int32) * (R5 0 0))) + (2 : Int32)) 37) ∧ (K (((upd (upd (upd (upd (R5 0) (((13 : Int32) + ((3 : Int32) * (R5 0 0))).toNatClampNeg) a1) ((((13 : Int32) + ((3 : Int32) * (R5 0 0))) + (1 : Int32)).toNatClampNeg) a2) ((((13 : Int32) + ((3 : Int32) * (R5 0 0))) + (2 : Int32)).toNatClampNeg) a3) 0 (((upd (upd (upd (R5 0) (((13 : Int32) + ((3 : Int32) * (R5 0 0))).toNatClampNeg) a1) ((((13 : Int32) + ((3 : Int32) * (R5 0 0))) + (1 : Int32)).toNatClampNeg) a2) ((((13 : Int32) + ((3 : Int32) * (R5 0 0))) + (2 : Int32)).toNatClampNeg) a3) 0) + (1 : Int32))) 0) - (1 : Int32)) (upd F5 9 (0 : Int32)) (va_up (va_up (va_up (va_up R5 0 (upd (R5 0) (((13 : Int32) + ((3 : Int32) * (R5 0 0))).toNatClampNeg) a1)) 0 (upd (upd (R5 0) (((13 : Int32) + ((3 : Int32) * (R5 0 0))).toNatClampNeg) a1) ((((13 : Int32) + ((3 : Int32) * (R5 0 0))) + (1 : Int32)).toNatClampNeg) a2)) 0 (upd (upd (upd (R5 0) (((13 : Int32) + ((3 : Int32) * (R5 0 0))).toNatClampNeg) a1) ((((13 : Int32) + ((3 : Int32) * (R5 0 0))) + (1 : Int32)).toNatClampNeg) a2) ((((13 : Int32) + ((3 : Int32) * (R5 0 0))) + (2 : Int32)).toNatClampNeg) a3)) 0 (upd (upd (upd (upd (R5 0) (((13 : Int32) + ((3 : Int32) * (R5 0 0))).toNatClampNeg) a1) ((((13 : Int32) + ((3 : Int32) * (R5 0 0))) + (1 : Int32)).toNatClampNeg) a2) ((((13 : Int32) + ((3 : Int32) * (R5 0 0))) + (2 : Int32)).toNatClampNeg) a3) 0 (((upd (upd (upd (R5 0) (((13 : Int32) + ((3 : Int32) * (R5 0 0))).toNatClampNeg) a1) ((((13 : Int32) + ((3 : Int32) * (R5 0 0))) + (1 : Int32)).toNatClampNeg) a2) ((((13 : Int32) + ((3 : Int32) * (R5 0 0))) + (2 : Int32)).toNatClampNeg) a3) 0) + (1 : Int32)))) J5))))) ∧ ((R5 0 0) = (4 : Int32) → (K (-3 : Int32) F5 R5 J5)))) ∧ (r5 = 0 → (K (-1 : Int32) F5 R5 J5)))))))))
set_option maxHeartbeats 4000000 in
set_option maxRecDepth 100000 in
theorem bM_builder {X : XT} {ka : Nat → ClassId} {ad : Nat → Nat} (C : Cx X cX10_builder 5 RX10 (some .int) ka 2) {K : Int32 → FT → RT → JT → Prop} (hret : RetI X cX10_builder .int 0 0 (fun z w => ∃ F R J, w = wM ad ka F R J ∧ K z F R J)) (F : FT) (R : RT) (J : JT) (a1 : Int32) (a2 : Int32) (a3 : Int32) (h : qM_builder F R J a1 a2 a3 K) : G X 0 0 (wM ad ka F R J) 0 [(0, .ref (ad 20)), (1, .int a1), (2, .int a2), (3, .int a3)] [] := by
  unfold qM_builder at h
  refine g_iload_n C 1 dX10_builder_0 rfl ?_
  refine g_i2l C dX10_builder_1 ?_
  refine g_lconst C (0 : Int64) dX10_builder_2 rfl ?_
  refine g_ldc2 C (gw_of tw4_135 rfl) dX10_builder_3 ?_
  refine g_callSi0 C (kM_in (xL X) (xD X) ka ad _ _ _ _ _ _ _ h) siX10_in (gw_of tw4_136 rfl) (by decide) rfl rfl (Nat.le_of_ble_eq_true rfl) z00 dX10_builder_6 (fun r1 w hw => ?_)
  obtain ⟨F1, R1, J1, rfl, h⟩ := hw
  refine g_if_eq C 36 dX10_builder_9 (by decide) (fun c2 => ?_) (fun c2 => ?_)
  · have h := h.1 c2
    refine g_iconst C (-1 : Int32) dX10_builder_36 ci_m1 ?_
    exact hret _ _ _ _ ⟨_, _, _, rfl, h⟩ rfl dX10_builder_37
  · have h := h.2 c2
    refine g_iload_n C 2 dX10_builder_12 rfl ?_
    refine g_i2l C dX10_builder_13 ?_
    refine g_lconst C (1 : Int64) dX10_builder_14 rfl ?_
    refine g_ldc2 C (gw_of tw4_139 rfl) dX10_builder_15 ?_
    refine g_callSi0 C (kM_in (xL X) (xD X) ka ad _ _ _ _ _ _ _ h) siX10_in (gw_of tw4_136 rfl) (by decide) rfl rfl (Nat.le_of_ble_eq_true rfl) z00 dX10_builder_18 (fun r3 w hw => ?_)
    obtain ⟨F3, R3, J3, rfl, h⟩ := hw
    refine g_if_eq C 36 dX10_builder_21 (by decide) (fun c4 => ?_) (fun c4 => ?_)
    · have h := h.1 c4
      refine g_iconst C (-1 : Int32) dX10_builder_36 ci_m1 ?_
      exact hret _ _ _ _ ⟨_, _, _, rfl, h⟩ rfl dX10_builder_37
    · have h := h.2 c4
      refine g_iload_n C 3 dX10_builder_24 rfl ?_
      refine g_i2l C dX10_builder_25 ?_
      refine g_lconst C (0 : Int64) dX10_builder_26 rfl ?_
      refine g_ldc2 C (gw_of tw4_139 rfl) dX10_builder_27 ?_
      refine g_callSi0 C (kM_in (xL X) (xD X) ka ad _ _ _ _ _ _ _ h) siX10_in (gw_of tw4_136 rfl) (by decide) rfl rfl (Nat.le_of_ble_eq_true rfl) z00 dX10_builder_30 (fun r5 w hw => ?_)
      obtain ⟨F5, R5, J5, rfl, h⟩ := hw
      refine g_if_ne C 38 dX10_builder_33 (by decide) (fun c6 => ?_) (fun c6 => ?_)
      · have h := h.1 c6
        refine g_aload_n C 0 dX10_builder_38 rfl ?_
        refine Mg_now C dX10_builder_39 ?_
        refine g_iconst C (0 : Int32) dX10_builder_42 ci_0 ?_
        refine Ma_now C (f := R5 0) rfl (0) (by decide) (vp_lit (by decide)) dX10_builder_43 ?_
        refine g_iconst C (4 : Int32) dX10_builder_44 ci_4 ?_
        refine g_icmp_ne C 51 dX10_builder_45 (by decide) (fun c7 => ?_) (fun c7 => ?_)
        · have h := h.1 c7
          refine g_bipush C (13 : Int32) dX10_builder_51 cb_13 ?_
          refine g_iconst C (3 : Int32) dX10_builder_53 ci_3 ?_
          refine g_aload_n C 0 dX10_builder_54 rfl ?_
          refine Mg_now C dX10_builder_55 ?_
          refine g_iconst C (0 : Int32) dX10_builder_58 ci_0 ?_
          refine Ma_now C (f := R5 0) rfl (0) (by decide) (vp_lit (by decide)) dX10_builder_59 ?_
          refine g_imul C dX10_builder_60 ?_
          refine g_iadd C dX10_builder_61 ?_
          refine g_istore C [(4, .int ((13 : Int32) + ((3 : Int32) * (R5 0 0)))), (0, .ref (ad 20)), (1, .int a1), (2, .int a2), (3, .int a3)] dX10_builder_62 (by decide) rfl ?_
          refine g_aload_n C 1 dX10_builder_64 rfl ?_
          refine Mg_now C dX10_builder_65 ?_
          refine g_iload C 0 dX10_builder_68 rfl ?_
          refine g_iload_n C 2 dX10_builder_70 rfl ?_
          refine Ms_now C (f := R5 0) rfl _ rfl h.1 dX10_builder_71 ?_
          have h := h.2
          refine g_aload_n C 1 dX10_builder_72 rfl ?_
          refine Mg_now C dX10_builder_73 ?_
          refine g_iload C 0 dX10_builder_76 rfl ?_
          refine g_iconst C (1 : Int32) dX10_builder_78 ci_1 ?_
          refine g_iadd C dX10_builder_79 ?_
          refine g_iload_n C 3 dX10_builder_80 rfl ?_
          refine Ms_now C (f := upd (R5 0) (((13 : Int32) + ((3 : Int32) * (R5 0 0))).toNatClampNeg) a1) rfl _ rfl h.1 dX10_builder_81 ?_
          have h := h.2
          refine g_aload_n C 1 dX10_builder_82 rfl ?_
          refine Mg_now C dX10_builder_83 ?_
          refine g_iload C 0 dX10_builder_86 rfl ?_
          refine g_iconst C (2 : Int32) dX10_builder_88 ci_2 ?_
          refine g_iadd C dX10_builder_89 ?_
          refine g_iload_n C 4 dX10_builder_90 rfl ?_
          refine Ms_now C (f := upd (upd (R5 0) (((13 : Int32) + ((3 : Int32) * (R5 0 0))).toNatClampNeg) a1) ((((13 : Int32) + ((3 : Int32) * (R5 0 0))) + (1 : Int32)).toNatClampNeg) a2) rfl _ rfl h.1 dX10_builder_91 ?_
          have h := h.2
          refine g_aload_n C 1 dX10_builder_92 rfl ?_
          refine Mg_now C dX10_builder_93 ?_
          refine g_iconst C (0 : Int32) dX10_builder_96 ci_0 ?_
          refine g_dup2 C dX10_builder_97 rfl rfl ?_
          refine Ma_now C (f := upd (upd (upd (R5 0) (((13 : Int32) + ((3 : Int32) * (R5 0 0))).toNatClampNeg) a1) ((((13 : Int32) + ((3 : Int32) * (R5 0 0))) + (1 : Int32)).toNatClampNeg) a2) ((((13 : Int32) + ((3 : Int32) * (R5 0 0))) + (2 : Int32)).toNatClampNeg) a3) rfl (0) (by decide) (vp_lit (by decide)) dX10_builder_98 ?_
          refine g_iconst C (1 : Int32) dX10_builder_99 ci_1 ?_
          refine g_iadd C dX10_builder_100 ?_
          refine Ms_now C (f := upd (upd (upd (R5 0) (((13 : Int32) + ((3 : Int32) * (R5 0 0))).toNatClampNeg) a1) ((((13 : Int32) + ((3 : Int32) * (R5 0 0))) + (1 : Int32)).toNatClampNeg) a2) ((((13 : Int32) + ((3 : Int32) * (R5 0 0))) + (2 : Int32)).toNatClampNeg) a3) rfl (0) (by decide) (vp_lit (by decide)) dX10_builder_101 ?_
          refine g_aload_n C 1 dX10_builder_102 rfl ?_
          refine g_iconst C (0 : Int32) dX10_builder_103 ci_0 ?_
          refine Mp_undos C dX10_builder_104 ?_
          refine g_aload_n C 1 dX10_builder_107 rfl ?_
          refine Mg_now C dX10_builder_108 ?_
          refine g_iconst C (0 : Int32) dX10_builder_111 ci_0 ?_
          refine Ma_now C (f := upd (upd (upd (upd (R5 0) (((13 : Int32) + ((3 : Int32) * (R5 0 0))).toNatClampNeg) a1) ((((13 : Int32) + ((3 : Int32) * (R5 0 0))) + (1 : Int32)).toNatClampNeg) a2) ((((13 : Int32) + ((3 : Int32) * (R5 0 0))) + (2 : Int32)).toNatClampNeg) a3) 0 (((upd (upd (upd (R5 0) (((13 : Int32) + ((3 : Int32) * (R5 0 0))).toNatClampNeg) a1) ((((13 : Int32) + ((3 : Int32) * (R5 0 0))) + (1 : Int32)).toNatClampNeg) a2) ((((13 : Int32) + ((3 : Int32) * (R5 0 0))) + (2 : Int32)).toNatClampNeg) a3) 0) + (1 : Int32))) rfl (0) (by decide) (vp_lit (by decide)) dX10_builder_112 ?_
          refine g_iconst C (1 : Int32) dX10_builder_113 ci_1 ?_
          refine g_isub C dX10_builder_114 ?_
          exact hret _ _ _ _ ⟨_, _, _, rfl, h⟩ rfl dX10_builder_115
        · have h := h.2 c7
          refine g_bipush C (-3 : Int32) dX10_builder_48 cb_m3 ?_
          exact hret _ _ _ _ ⟨_, _, _, rfl, h⟩ rfl dX10_builder_50
      · have h := h.2 c6
        refine g_iconst C (-1 : Int32) dX10_builder_36 ci_m1 ?_
        exact hret _ _ _ _ ⟨_, _, _, rfl, h⟩ rfl dX10_builder_37
set_option maxHeartbeats 4000000 in
set_option maxRecDepth 100000 in
theorem kM_builder (l : Launch) (D : va_G) (ka : Nat → ClassId) (ad : Nat → Nat) (F : FT) (R : RT) (J : JT) (a1 : Int32) (a2 : Int32) (a3 : Int32) (K : Int32 → FT → RT → JT → Prop) (h : qM_builder F R J a1 a2 a3 K) : MI l D ka yX10_builder cX10_builder 5 (some .int) 2 0 0 [.ref (ad 20), .int a1, .int a2, .int a3] (wM ad ka F R J) (fun z w => ∃ F R J, w = wM ad ka F R J ∧ K z F R J) := MI_of (by decide) (Nat.le_of_ble_eq_true rfl) (fun X C _ hret => bM_builder C hret F R J a1 a2 a3 h)
set_option maxHeartbeats 4000000 in
set_option maxRecDepth 100000 in
theorem miX10_builder : MInf yX10_builder cX10_builder 5 (some .int) 3 := ⟨(gw_of tw4_132 rfl), (gw_of tw4_133 rfl), (gw_of tw1_6 rfl), (gw_of tw4_134 rfl), by decide +kernel, by decide⟩

def qM_of (F : FT) (R : RT) (J : JT) (a1 : Int32) (a2 : Int32) (K : Int32 → FT → RT → JT → Prop) : Prop :=
  qM_isBuilder F R J a1 (fun r1 F1 R1 J1 => (r1 = 0 → (K (-1 : Int32) F1 R1 J1)) ∧ (¬ r1 = 0 → (qM_in F1 R1 J1 a2.toInt64 (0 : Int64) (6 : Int64) (fun r3 F3 R3 J3 => (¬ r3 = 0 → (((3 : Int32) ≤ a2 → ((¬ a2 = (3 : Int32) → (qM_laysOf F3 R3 J3 a1 (a2 - (4 : Int32)) (R3 0 7) (fun r7 F7 R7 J7 => K r7 F7 R7 J7))) ∧ (a2 = (3 : Int32) → (qM_haulsOf F3 R3 J3 a1 (R3 0 7) (fun r8 F8 R8 J8 => K r8 F8 R8 J8))))) ∧ (¬ (3 : Int32) ≤ a2 → ((vp_in (((13 : Int32) + ((3 : Int32) * a1)) + a2) 37) ∧ (K (R3 0 ((((13 : Int32) + ((3 : Int32) * a1)) + a2).toNatClampNeg)) F3 R3 J3))))) ∧ (r3 = 0 → (K (-1 : Int32) F3 R3 J3))))))
set_option maxHeartbeats 4000000 in
set_option maxRecDepth 100000 in
theorem bM_of {X : XT} {ka : Nat → ClassId} {ad : Nat → Nat} (C : Cx X cX10_of 3 RX10 (some .int) ka 3) {K : Int32 → FT → RT → JT → Prop} (hret : RetI X cX10_of .int 0 0 (fun z w => ∃ F R J, w = wM ad ka F R J ∧ K z F R J)) (F : FT) (R : RT) (J : JT) (a1 : Int32) (a2 : Int32) (h : qM_of F R J a1 a2 K) : G X 0 0 (wM ad ka F R J) 0 [(0, .ref (ad 20)), (1, .int a1), (2, .int a2)] [] := by
  unfold qM_of at h
  refine g_aload_n C 0 dX10_of_0 rfl ?_
  refine g_iload_n C 1 dX10_of_1 rfl ?_
  refine g_callVi0 C (kM_isBuilder (xL X) (xD X) ka ad _ _ _ _ _ h) miX10_isBuilder (gw_of tw4_144 rfl) (by decide) wM_at rfl rfl rfl (Nat.le_of_ble_eq_true rfl) z00 dX10_of_2 (fun r1 w hw => ?_)
  obtain ⟨F1, R1, J1, rfl, h⟩ := hw
  refine g_if_eq C 20 dX10_of_5 (by decide) (fun c2 => ?_) (fun c2 => ?_)
  · have h := h.1 c2
    refine g_iconst C (-1 : Int32) dX10_of_20 ci_m1 ?_
    exact hret _ _ _ _ ⟨_, _, _, rfl, h⟩ rfl dX10_of_21
  · have h := h.2 c2
    refine g_iload_n C 2 dX10_of_8 rfl ?_
    refine g_i2l C dX10_of_9 ?_
    refine g_lconst C (0 : Int64) dX10_of_10 rfl ?_
    refine g_ldc2 C (gw_of tw4_148 rfl) dX10_of_11 ?_
    refine g_callSi0 C (kM_in (xL X) (xD X) ka ad _ _ _ _ _ _ _ h) siX10_in (gw_of tw4_136 rfl) (by decide) rfl rfl (Nat.le_of_ble_eq_true rfl) z00 dX10_of_14 (fun r3 w hw => ?_)
    obtain ⟨F3, R3, J3, rfl, h⟩ := hw
    refine g_if_ne C 22 dX10_of_17 (by decide) (fun c4 => ?_) (fun c4 => ?_)
    · have h := h.1 c4
      refine g_iload_n C 2 dX10_of_22 rfl ?_
      refine g_iconst C (3 : Int32) dX10_of_23 ci_3 ?_
      refine g_icmp_ge C 43 dX10_of_24 (by decide) (fun c5 => ?_) (fun c5 => ?_)
      · have h := h.1 c5
        refine g_iload_n C 2 dX10_of_43 rfl ?_
        refine g_iconst C (3 : Int32) dX10_of_44 ci_3 ?_
        refine g_icmp_ne C 63 dX10_of_45 (by decide) (fun c6 => ?_) (fun c6 => ?_)
        · have h := h.1 c6
          refine g_aload_n C 0 dX10_of_63 rfl ?_
          refine g_iload_n C 1 dX10_of_64 rfl ?_
          refine g_iload_n C 2 dX10_of_65 rfl ?_
          refine g_iconst C (4 : Int32) dX10_of_66 ci_4 ?_
          refine g_isub C dX10_of_67 ?_
          refine g_aload_n C 0 dX10_of_68 rfl ?_
          refine Mg_now C dX10_of_69 ?_
          refine g_bipush C (7 : Int32) dX10_of_72 cb_7 ?_
          refine Ma_now C (f := R3 0) rfl (7) (by decide) (vp_lit (by decide)) dX10_of_74 ?_
          refine g_callVi0 C (kM_laysOf (xL X) (xD X) ka ad _ _ _ _ _ _ _ h) miX10_laysOf (gw_of tw4_153 rfl) (by decide) wM_at rfl rfl rfl (Nat.le_of_ble_eq_true rfl) z00 dX10_of_75 (fun r7 w hw => ?_)
          obtain ⟨F7, R7, J7, rfl, h⟩ := hw
          exact hret _ _ _ _ ⟨_, _, _, rfl, h⟩ rfl dX10_of_78
        · have h := h.2 c6
          refine g_aload_n C 0 dX10_of_48 rfl ?_
          refine g_iload_n C 1 dX10_of_49 rfl ?_
          refine g_aload_n C 0 dX10_of_50 rfl ?_
          refine Mg_now C dX10_of_51 ?_
          refine g_bipush C (7 : Int32) dX10_of_54 cb_7 ?_
          refine Ma_now C (f := R3 0) rfl (7) (by decide) (vp_lit (by decide)) dX10_of_56 ?_
          refine g_callVi0 C (kM_haulsOf (xL X) (xD X) ka ad _ _ _ _ _ _ h) miX10_haulsOf (gw_of tw4_149 rfl) (by decide) wM_at rfl rfl rfl (Nat.le_of_ble_eq_true rfl) z00 dX10_of_57 (fun r8 w hw => ?_)
          obtain ⟨F8, R8, J8, rfl, h⟩ := hw
          refine g_goto C 78 dX10_of_60 (by decide) ?_
          exact hret _ _ _ _ ⟨_, _, _, rfl, h⟩ rfl dX10_of_78
      · have h := h.2 c5
        refine g_aload_n C 0 dX10_of_27 rfl ?_
        refine Mg_now C dX10_of_28 ?_
        refine g_bipush C (13 : Int32) dX10_of_31 cb_13 ?_
        refine g_iconst C (3 : Int32) dX10_of_33 ci_3 ?_
        refine g_iload_n C 1 dX10_of_34 rfl ?_
        refine g_imul C dX10_of_35 ?_
        refine g_iadd C dX10_of_36 ?_
        refine g_iload_n C 2 dX10_of_37 rfl ?_
        refine g_iadd C dX10_of_38 ?_
        refine Ma_now C (f := R3 0) rfl _ rfl h.1 dX10_of_39 ?_
        have h := h.2
        refine g_goto C 78 dX10_of_40 (by decide) ?_
        exact hret _ _ _ _ ⟨_, _, _, rfl, h⟩ rfl dX10_of_78
    · have h := h.2 c4
      refine g_iconst C (-1 : Int32) dX10_of_20 ci_m1 ?_
      exact hret _ _ _ _ ⟨_, _, _, rfl, h⟩ rfl dX10_of_21
set_option maxHeartbeats 4000000 in
set_option maxRecDepth 100000 in
theorem kM_of (l : Launch) (D : va_G) (ka : Nat → ClassId) (ad : Nat → Nat) (F : FT) (R : RT) (J : JT) (a1 : Int32) (a2 : Int32) (K : Int32 → FT → RT → JT → Prop) (h : qM_of F R J a1 a2 K) : MI l D ka yX10_of cX10_of 3 (some .int) 3 0 0 [.ref (ad 20), .int a1, .int a2] (wM ad ka F R J) (fun z w => ∃ F R J, w = wM ad ka F R J ∧ K z F R J) := MI_of (by decide) (Nat.le_of_ble_eq_true rfl) (fun X C _ hret => bM_of C hret F R J a1 a2 h)
set_option maxHeartbeats 4000000 in
set_option maxRecDepth 100000 in
theorem miX10_of : MInf yX10_of cX10_of 3 (some .int) 2 := ⟨(gw_of tw4_141 rfl), (gw_of tw4_142 rfl), (gw_of tw1_6 rfl), (gw_of tw4_143 rfl), by decide +kernel, by decide⟩

def qM_wall_136 (F : FT) (R : RT) (J : JT) (v1 : Int32) (v2 : Int32) (v4 : Int32) (s0 : Int32) (K : Int32 → FT → RT → JT → Prop) : Prop :=
  (v2 < v4 → (K (-2 : Int32) F R J)) ∧ (¬ v2 < v4 → ((v2 ≤ s0 → ((vp_in ((2 : Int32) + v1) 37) ∧ ((vp_in ((2 : Int32) + v1) 37) ∧ (K (R 0 (((2 : Int32) + v1).toNatClampNeg)) F (va_up R 0 (upd (R 0) (((2 : Int32) + v1).toNatClampNeg) v2)) J)))) ∧ (¬ v2 ≤ s0 → (K (-2 : Int32) F R J))))
set_option maxHeartbeats 4000000 in
set_option maxRecDepth 100000 in
theorem lM_wall_136 {X : XT} {ka : Nat → ClassId} {ad : Nat → Nat} (C : Cx X cX10_wall 7 RX10 (some .int) ka 2) {K : Int32 → FT → RT → JT → Prop} (hret : RetI X cX10_wall .int 0 0 (fun z w => ∃ F R J, w = wM ad ka F R J ∧ K z F R J)) (F : FT) (R : RT) (J : JT) (v1 : Int32) (v2 : Int32) (v4 : Int32) (s0 : Int32) (h : qM_wall_136 F R J v1 v2 v4 s0 K) : G X 0 0 (wM ad ka F R J) 136 [(0, .ref (ad 20)), (1, .int v1), (2, .int v2), (4, .int v4)] [.int s0] := by
  unfold qM_wall_136 at h
  refine g_istore C [(5, .int s0), (0, .ref (ad 20)), (1, .int v1), (2, .int v2), (4, .int v4)] dX10_wall_136 (by decide) rfl ?_
  refine g_iload_n C 3 dX10_wall_138 rfl ?_
  refine g_iload C 4 dX10_wall_139 rfl ?_
  refine g_icmp_lt C 150 dX10_wall_141 (by decide) (fun c1 => ?_) (fun c1 => ?_)
  · have h := h.1 c1
    refine g_bipush C (-2 : Int32) dX10_wall_150 cb_m2 ?_
    exact hret _ _ _ _ ⟨_, _, _, rfl, h⟩ rfl dX10_wall_152
  · have h := h.2 c1
    refine g_iload_n C 3 dX10_wall_144 rfl ?_
    refine g_iload C 0 dX10_wall_145 rfl ?_
    refine g_icmp_le C 153 dX10_wall_147 (by decide) (fun c2 => ?_) (fun c2 => ?_)
    · have h := h.1 c2
      refine g_aload_n C 1 dX10_wall_153 rfl ?_
      refine Mg_now C dX10_wall_154 ?_
      refine g_iconst C (2 : Int32) dX10_wall_157 ci_2 ?_
      refine g_iload_n C 2 dX10_wall_158 rfl ?_
      refine g_iadd C dX10_wall_159 ?_
      refine Ma_now C (f := R 0) rfl _ rfl h.1 dX10_wall_160 ?_
      have h := h.2
      refine g_istore C [(6, .int (R 0 (((2 : Int32) + v1).toNatClampNeg))), (5, .int s0), (0, .ref (ad 20)), (1, .int v1), (2, .int v2), (4, .int v4)] dX10_wall_161 (by decide) rfl ?_
      refine g_aload_n C 2 dX10_wall_163 rfl ?_
      refine Mg_now C dX10_wall_164 ?_
      refine g_iconst C (2 : Int32) dX10_wall_167 ci_2 ?_
      refine g_iload_n C 3 dX10_wall_168 rfl ?_
      refine g_iadd C dX10_wall_169 ?_
      refine g_iload_n C 4 dX10_wall_170 rfl ?_
      refine Ms_now C (f := R 0) rfl _ rfl h.1 dX10_wall_171 ?_
      have h := h.2
      refine g_iload C 0 dX10_wall_172 rfl ?_
      exact hret _ _ _ _ ⟨_, _, _, rfl, h⟩ rfl dX10_wall_174
    · have h := h.2 c2
      refine g_bipush C (-2 : Int32) dX10_wall_150 cb_m2 ?_
      exact hret _ _ _ _ ⟨_, _, _, rfl, h⟩ rfl dX10_wall_152
def qM_wall_97 (F : FT) (R : RT) (J : JT) (v1 : Int32) (v2 : Int32) (s0 : Int32) (K : Int32 → FT → RT → JT → Prop) : Prop :=
  (¬ v1 = (2 : Int32) → ((¬ v1 = (3 : Int32) → (qM_wall_136 F R J v1 v2 s0 (200 : Int32) K)) ∧ (v1 = (3 : Int32) → (qM_wall_136 F R J v1 v2 s0 ((10 : Int32) - (R 0 4)) K)))) ∧ (v1 = (2 : Int32) → (qM_wall_136 F R J v1 v2 s0 ((10 : Int32) - (R 0 5)) K))
set_option maxHeartbeats 4000000 in
set_option maxRecDepth 100000 in
theorem lM_wall_97 {X : XT} {ka : Nat → ClassId} {ad : Nat → Nat} (C : Cx X cX10_wall 7 RX10 (some .int) ka 2) {K : Int32 → FT → RT → JT → Prop} (hret : RetI X cX10_wall .int 0 0 (fun z w => ∃ F R J, w = wM ad ka F R J ∧ K z F R J)) (F : FT) (R : RT) (J : JT) (v1 : Int32) (v2 : Int32) (s0 : Int32) (h : qM_wall_97 F R J v1 v2 s0 K) : G X 0 0 (wM ad ka F R J) 97 [(0, .ref (ad 20)), (1, .int v1), (2, .int v2)] [.int s0] := by
  unfold qM_wall_97 at h
  refine g_istore C [(4, .int s0), (0, .ref (ad 20)), (1, .int v1), (2, .int v2)] dX10_wall_97 (by decide) rfl ?_
  refine g_iload_n C 2 dX10_wall_99 rfl ?_
  refine g_iconst C (2 : Int32) dX10_wall_100 ci_2 ?_
  refine g_icmp_ne C 116 dX10_wall_101 (by decide) (fun c1 => ?_) (fun c1 => ?_)
  · have h := h.1 c1
    refine g_iload_n C 2 dX10_wall_116 rfl ?_
    refine g_iconst C (3 : Int32) dX10_wall_117 ci_3 ?_
    refine g_icmp_ne C 133 dX10_wall_118 (by decide) (fun c2 => ?_) (fun c2 => ?_)
    · have h := h.1 c2
      refine g_sipush C (200 : Int32) dX10_wall_133 cs_200 ?_
      exact g_lv [1, 2, 3, 0] rfl (lM_wall_136 C hret _ _ _ _ _ _ _ h)
    · have h := h.2 c2
      refine g_bipush C (10 : Int32) dX10_wall_121 cb_10 ?_
      refine g_aload_n C 1 dX10_wall_123 rfl ?_
      refine Mg_now C dX10_wall_124 ?_
      refine g_iconst C (4 : Int32) dX10_wall_127 ci_4 ?_
      refine Ma_now C (f := R 0) rfl (4) (by decide) (vp_lit (by decide)) dX10_wall_128 ?_
      refine g_isub C dX10_wall_129 ?_
      refine g_goto C 136 dX10_wall_130 (by decide) ?_
      exact g_lv [1, 2, 3, 0] rfl (lM_wall_136 C hret _ _ _ _ _ _ _ h)
  · have h := h.2 c1
    refine g_bipush C (10 : Int32) dX10_wall_104 cb_10 ?_
    refine g_aload_n C 1 dX10_wall_106 rfl ?_
    refine Mg_now C dX10_wall_107 ?_
    refine g_iconst C (5 : Int32) dX10_wall_110 ci_5 ?_
    refine Ma_now C (f := R 0) rfl (5) (by decide) (vp_lit (by decide)) dX10_wall_111 ?_
    refine g_isub C dX10_wall_112 ?_
    refine g_goto C 136 dX10_wall_113 (by decide) ?_
    exact g_lv [1, 2, 3, 0] rfl (lM_wall_136 C hret _ _ _ _ _ _ _ h)
def qM_wall_60 (F : FT) (R : RT) (J : JT) (v1 : Int32) (v2 : Int32) (s0 : Int32) (K : Int32 → FT → RT → JT → Prop) : Prop :=
  (¬ s0 = 0 → ((¬ v1 = 0 → ((¬ v1 = (1 : Int32) → (qM_wall_97 F R J v1 v2 (0 : Int32) K)) ∧ (v1 = (1 : Int32) → (qM_wall_97 F R J v1 v2 (R 0 6) K)))) ∧ (v1 = 0 → (qM_wall_97 F R J v1 v2 (R 0 7) K)))) ∧ (s0 = 0 → (K (-1 : Int32) F R J))
set_option maxHeartbeats 4000000 in
set_option maxRecDepth 100000 in
theorem lM_wall_60 {X : XT} {ka : Nat → ClassId} {ad : Nat → Nat} (C : Cx X cX10_wall 7 RX10 (some .int) ka 2) {K : Int32 → FT → RT → JT → Prop} (hret : RetI X cX10_wall .int 0 0 (fun z w => ∃ F R J, w = wM ad ka F R J ∧ K z F R J)) (F : FT) (R : RT) (J : JT) (v1 : Int32) (v2 : Int32) (s0 : Int32) (h : qM_wall_60 F R J v1 v2 s0 K) : G X 0 0 (wM ad ka F R J) 60 [(0, .ref (ad 20)), (1, .int v1), (2, .int v2)] [.int s0] := by
  unfold qM_wall_60 at h
  refine g_istore_n C [(3, .int s0), (0, .ref (ad 20)), (1, .int v1), (2, .int v2)] dX10_wall_60 (by decide) rfl ?_
  refine g_iload_n C 0 dX10_wall_61 rfl ?_
  refine g_if_ne C 67 dX10_wall_62 (by decide) (fun c1 => ?_) (fun c1 => ?_)
  · have h := h.1 c1
    refine g_iload_n C 2 dX10_wall_67 rfl ?_
    refine g_if_ne C 81 dX10_wall_68 (by decide) (fun c2 => ?_) (fun c2 => ?_)
    · have h := h.1 c2
      refine g_iload_n C 2 dX10_wall_81 rfl ?_
      refine g_iconst C (1 : Int32) dX10_wall_82 ci_1 ?_
      refine g_icmp_ne C 96 dX10_wall_83 (by decide) (fun c3 => ?_) (fun c3 => ?_)
      · have h := h.1 c3
        refine g_iconst C (0 : Int32) dX10_wall_96 ci_0 ?_
        exact g_lv [1, 2, 3] rfl (lM_wall_97 C hret _ _ _ _ _ _ h)
      · have h := h.2 c3
        refine g_aload_n C 1 dX10_wall_86 rfl ?_
        refine Mg_now C dX10_wall_87 ?_
        refine g_bipush C (6 : Int32) dX10_wall_90 cb_6 ?_
        refine Ma_now C (f := R 0) rfl (6) (by decide) (vp_lit (by decide)) dX10_wall_92 ?_
        refine g_goto C 97 dX10_wall_93 (by decide) ?_
        exact g_lv [1, 2, 3] rfl (lM_wall_97 C hret _ _ _ _ _ _ h)
    · have h := h.2 c2
      refine g_aload_n C 1 dX10_wall_71 rfl ?_
      refine Mg_now C dX10_wall_72 ?_
      refine g_bipush C (7 : Int32) dX10_wall_75 cb_7 ?_
      refine Ma_now C (f := R 0) rfl (7) (by decide) (vp_lit (by decide)) dX10_wall_77 ?_
      refine g_goto C 97 dX10_wall_78 (by decide) ?_
      exact g_lv [1, 2, 3] rfl (lM_wall_97 C hret _ _ _ _ _ _ h)
  · have h := h.2 c1
    refine g_iconst C (-1 : Int32) dX10_wall_65 ci_m1 ?_
    exact hret _ _ _ _ ⟨_, _, _, rfl, h⟩ rfl dX10_wall_66
def qM_wall_59 (F : FT) (R : RT) (J : JT) (v1 : Int32) (v2 : Int32) (K : Int32 → FT → RT → JT → Prop) : Prop :=
  qM_wall_60 F R J v1 v2 (0 : Int32) K
set_option maxHeartbeats 4000000 in
set_option maxRecDepth 100000 in
theorem lM_wall_59 {X : XT} {ka : Nat → ClassId} {ad : Nat → Nat} (C : Cx X cX10_wall 7 RX10 (some .int) ka 2) {K : Int32 → FT → RT → JT → Prop} (hret : RetI X cX10_wall .int 0 0 (fun z w => ∃ F R J, w = wM ad ka F R J ∧ K z F R J)) (F : FT) (R : RT) (J : JT) (v1 : Int32) (v2 : Int32) (h : qM_wall_59 F R J v1 v2 K) : G X 0 0 (wM ad ka F R J) 59 [(0, .ref (ad 20)), (1, .int v1), (2, .int v2)] [] := by
  unfold qM_wall_59 at h
  refine g_iconst C (0 : Int32) dX10_wall_59 ci_0 ?_
  exact g_lv [0, 1, 2] rfl (lM_wall_60 C hret _ _ _ _ _ _ h)
def qM_wall_43 (F : FT) (R : RT) (J : JT) (v1 : Int32) (v2 : Int32) (K : Int32 → FT → RT → JT → Prop) : Prop :=
  qM_in F R J v2.toInt64 (0 : Int64) (10 : Int64) (fun r1 F1 R1 J1 => (r1 = 0 → (qM_wall_59 F1 R1 J1 v1 v2 K)) ∧ (¬ r1 = 0 → (qM_wall_60 F1 R1 J1 v1 v2 (1 : Int32) K)))
set_option maxHeartbeats 4000000 in
set_option maxRecDepth 100000 in
theorem lM_wall_43 {X : XT} {ka : Nat → ClassId} {ad : Nat → Nat} (C : Cx X cX10_wall 7 RX10 (some .int) ka 2) {K : Int32 → FT → RT → JT → Prop} (hret : RetI X cX10_wall .int 0 0 (fun z w => ∃ F R J, w = wM ad ka F R J ∧ K z F R J)) (F : FT) (R : RT) (J : JT) (v1 : Int32) (v2 : Int32) (h : qM_wall_43 F R J v1 v2 K) : G X 0 0 (wM ad ka F R J) 43 [(0, .ref (ad 20)), (1, .int v1), (2, .int v2)] [] := by
  unfold qM_wall_43 at h
  refine g_iload_n C 2 dX10_wall_43 rfl ?_
  refine g_i2l C dX10_wall_44 ?_
  refine g_lconst C (0 : Int64) dX10_wall_45 rfl ?_
  refine g_ldc2 C (gw_of tw4_163 rfl) dX10_wall_46 ?_
  refine g_callSi0 C (kM_in (xL X) (xD X) ka ad _ _ _ _ _ _ _ h) siX10_in (gw_of tw4_136 rfl) (by decide) rfl rfl (Nat.le_of_ble_eq_true rfl) z00 dX10_wall_49 (fun r1 w hw => ?_)
  obtain ⟨F1, R1, J1, rfl, h⟩ := hw
  refine g_if_eq C 59 dX10_wall_52 (by decide) (fun c2 => ?_) (fun c2 => ?_)
  · have h := h.1 c2
    exact g_lv [0, 1, 2] rfl (lM_wall_59 C hret _ _ _ _ _ h)
  · have h := h.2 c2
    refine g_iconst C (1 : Int32) dX10_wall_55 ci_1 ?_
    refine g_goto C 60 dX10_wall_56 (by decide) ?_
    exact g_lv [0, 1, 2] rfl (lM_wall_60 C hret _ _ _ _ _ _ h)
def qM_wall (F : FT) (R : RT) (J : JT) (a1 : Int32) (a2 : Int32) (K : Int32 → FT → RT → JT → Prop) : Prop :=
  (¬ a1 = 0 → ((¬ a1 = (1 : Int32) → ((a1 = (2 : Int32) → (qM_wall_43 F R J a1 a2 K)) ∧ (¬ a1 = (2 : Int32) → ((¬ a1 = (3 : Int32) → (qM_wall_59 F R J a1 a2 K)) ∧ (a1 = (3 : Int32) → (qM_wall_43 F R J a1 a2 K)))))) ∧ (a1 = (1 : Int32) → (qM_in F R J a2.toInt64 (1 : Int64) (40 : Int64) (fun r5 F5 R5 J5 => qM_wall_60 F5 R5 J5 a1 a2 r5 K))))) ∧ (a1 = 0 → (qM_in F R J a2.toInt64 (1 : Int64) (200 : Int64) (fun r6 F6 R6 J6 => qM_wall_60 F6 R6 J6 a1 a2 r6 K)))
set_option maxHeartbeats 4000000 in
set_option maxRecDepth 100000 in
theorem bM_wall {X : XT} {ka : Nat → ClassId} {ad : Nat → Nat} (C : Cx X cX10_wall 7 RX10 (some .int) ka 2) {K : Int32 → FT → RT → JT → Prop} (hret : RetI X cX10_wall .int 0 0 (fun z w => ∃ F R J, w = wM ad ka F R J ∧ K z F R J)) (F : FT) (R : RT) (J : JT) (a1 : Int32) (a2 : Int32) (h : qM_wall F R J a1 a2 K) : G X 0 0 (wM ad ka F R J) 0 [(0, .ref (ad 20)), (1, .int a1), (2, .int a2)] [] := by
  unfold qM_wall at h
  refine g_iload_n C 1 dX10_wall_0 rfl ?_
  refine g_if_ne C 16 dX10_wall_1 (by decide) (fun c1 => ?_) (fun c1 => ?_)
  · have h := h.1 c1
    refine g_iload_n C 1 dX10_wall_16 rfl ?_
    refine g_iconst C (1 : Int32) dX10_wall_17 ci_1 ?_
    refine g_icmp_ne C 33 dX10_wall_18 (by decide) (fun c2 => ?_) (fun c2 => ?_)
    · have h := h.1 c2
      refine g_iload_n C 1 dX10_wall_33 rfl ?_
      refine g_iconst C (2 : Int32) dX10_wall_34 ci_2 ?_
      refine g_icmp_eq C 43 dX10_wall_35 (by decide) (fun c3 => ?_) (fun c3 => ?_)
      · have h := h.1 c3
        exact g_lv [0, 1, 2] rfl (lM_wall_43 C hret _ _ _ _ _ h)
      · have h := h.2 c3
        refine g_iload_n C 1 dX10_wall_38 rfl ?_
        refine g_iconst C (3 : Int32) dX10_wall_39 ci_3 ?_
        refine g_icmp_ne C 59 dX10_wall_40 (by decide) (fun c4 => ?_) (fun c4 => ?_)
        · have h := h.1 c4
          exact g_lv [0, 1, 2] rfl (lM_wall_59 C hret _ _ _ _ _ h)
        · have h := h.2 c4
          exact g_lv [0, 1, 2] rfl (lM_wall_43 C hret _ _ _ _ _ h)
    · have h := h.2 c2
      refine g_iload_n C 2 dX10_wall_21 rfl ?_
      refine g_i2l C dX10_wall_22 ?_
      refine g_lconst C (1 : Int64) dX10_wall_23 rfl ?_
      refine g_ldc2 C (gw_of tw4_162 rfl) dX10_wall_24 ?_
      refine g_callSi0 C (kM_in (xL X) (xD X) ka ad _ _ _ _ _ _ _ h) siX10_in (gw_of tw4_136 rfl) (by decide) rfl rfl (Nat.le_of_ble_eq_true rfl) z00 dX10_wall_27 (fun r5 w hw => ?_)
      obtain ⟨F5, R5, J5, rfl, h⟩ := hw
      refine g_goto C 60 dX10_wall_30 (by decide) ?_
      exact g_lv [0, 1, 2] rfl (lM_wall_60 C hret _ _ _ _ _ _ h)
  · have h := h.2 c1
    refine g_iload_n C 2 dX10_wall_4 rfl ?_
    refine g_i2l C dX10_wall_5 ?_
    refine g_lconst C (1 : Int64) dX10_wall_6 rfl ?_
    refine g_ldc2 C (gw_of tw4_161 rfl) dX10_wall_7 ?_
    refine g_callSi0 C (kM_in (xL X) (xD X) ka ad _ _ _ _ _ _ _ h) siX10_in (gw_of tw4_136 rfl) (by decide) rfl rfl (Nat.le_of_ble_eq_true rfl) z00 dX10_wall_10 (fun r6 w hw => ?_)
    obtain ⟨F6, R6, J6, rfl, h⟩ := hw
    refine g_goto C 60 dX10_wall_13 (by decide) ?_
    exact g_lv [0, 1, 2] rfl (lM_wall_60 C hret _ _ _ _ _ _ h)
set_option maxHeartbeats 4000000 in
set_option maxRecDepth 100000 in
theorem kM_wall (l : Launch) (D : va_G) (ka : Nat → ClassId) (ad : Nat → Nat) (F : FT) (R : RT) (J : JT) (a1 : Int32) (a2 : Int32) (K : Int32 → FT → RT → JT → Prop) (h : qM_wall F R J a1 a2 K) : MI l D ka yX10_wall cX10_wall 7 (some .int) 2 0 0 [.ref (ad 20), .int a1, .int a2] (wM ad ka F R J) (fun z w => ∃ F R J, w = wM ad ka F R J ∧ K z F R J) := MI_of (by decide) (Nat.le_of_ble_eq_true rfl) (fun X C _ hret => bM_wall C hret F R J a1 a2 h)
set_option maxHeartbeats 4000000 in
set_option maxRecDepth 100000 in
theorem miX10_wall : MInf yX10_wall cX10_wall 7 (some .int) 2 := ⟨(gw_of tw4_158 rfl), (gw_of tw4_159 rfl), (gw_of tw1_6 rfl), (gw_of tw4_160 rfl), by decide +kernel, by decide⟩

def qM_hindrance_32 (F : FT) (R : RT) (J : JT) (v1 : Int32) (v2 : Int32) (K : Int32 → FT → RT → JT → Prop) : Prop :=
  (¬ (R 0 1) = (6 : Int32) → ((vp_in ((25 : Int32) + ((2 : Int32) * (R 0 1))) 37) ∧ ((vp_in (((25 : Int32) + ((2 : Int32) * ((upd (R 0) (((25 : Int32) + ((2 : Int32) * (R 0 1))).toNatClampNeg) v1) 1))) + (1 : Int32)) 37) ∧ (K (((upd (upd (upd (R 0) (((25 : Int32) + ((2 : Int32) * (R 0 1))).toNatClampNeg) v1) ((((25 : Int32) + ((2 : Int32) * ((upd (R 0) (((25 : Int32) + ((2 : Int32) * (R 0 1))).toNatClampNeg) v1) 1))) + (1 : Int32)).toNatClampNeg) v2) 1 (((upd (upd (R 0) (((25 : Int32) + ((2 : Int32) * (R 0 1))).toNatClampNeg) v1) ((((25 : Int32) + ((2 : Int32) * ((upd (R 0) (((25 : Int32) + ((2 : Int32) * (R 0 1))).toNatClampNeg) v1) 1))) + (1 : Int32)).toNatClampNeg) v2) 1) + (1 : Int32))) 1) - (1 : Int32)) (upd F 9 (0 : Int32)) (va_up (va_up (va_up R 0 (upd (R 0) (((25 : Int32) + ((2 : Int32) * (R 0 1))).toNatClampNeg) v1)) 0 (upd (upd (R 0) (((25 : Int32) + ((2 : Int32) * (R 0 1))).toNatClampNeg) v1) ((((25 : Int32) + ((2 : Int32) * ((upd (R 0) (((25 : Int32) + ((2 : Int32) * (R 0 1))).toNatClampNeg) v1) 1))) + (1 : Int32)).toNatClampNeg) v2)) 0 (upd (upd (upd (R 0) (((25 : Int32) + ((2 : Int32) * (R 0 1))).toNatClampNeg) v1) ((((25 : Int32) + ((2 : Int32) * ((upd (R 0) (((25 : Int32) + ((2 : Int32) * (R 0 1))).toNatClampNeg) v1) 1))) + (1 : Int32)).toNatClampNeg) v2) 1 (((upd (upd (R 0) (((25 : Int32) + ((2 : Int32) * (R 0 1))).toNatClampNeg) v1) ((((25 : Int32) + ((2 : Int32) * ((upd (R 0) (((25 : Int32) + ((2 : Int32) * (R 0 1))).toNatClampNeg) v1) 1))) + (1 : Int32)).toNatClampNeg) v2) 1) + (1 : Int32)))) J)))) ∧ ((R 0 1) = (6 : Int32) → (K (-3 : Int32) F R J))
set_option maxHeartbeats 4000000 in
set_option maxRecDepth 100000 in
theorem lM_hindrance_32 {X : XT} {ka : Nat → ClassId} {ad : Nat → Nat} (C : Cx X cX10_hindrance 3 RX10 (some .int) ka 2) {K : Int32 → FT → RT → JT → Prop} (hret : RetI X cX10_hindrance .int 0 0 (fun z w => ∃ F R J, w = wM ad ka F R J ∧ K z F R J)) (F : FT) (R : RT) (J : JT) (v1 : Int32) (v2 : Int32) (h : qM_hindrance_32 F R J v1 v2 K) : G X 0 0 (wM ad ka F R J) 32 [(0, .ref (ad 20)), (1, .int v1), (2, .int v2)] [] := by
  unfold qM_hindrance_32 at h
  refine g_aload_n C 0 dX10_hindrance_32 rfl ?_
  refine Mg_now C dX10_hindrance_33 ?_
  refine g_iconst C (1 : Int32) dX10_hindrance_36 ci_1 ?_
  refine Ma_now C (f := R 0) rfl (1) (by decide) (vp_lit (by decide)) dX10_hindrance_37 ?_
  refine g_bipush C (6 : Int32) dX10_hindrance_38 cb_6 ?_
  refine g_icmp_ne C 46 dX10_hindrance_40 (by decide) (fun c1 => ?_) (fun c1 => ?_)
  · have h := h.1 c1
    refine g_aload_n C 0 dX10_hindrance_46 rfl ?_
    refine Mg_now C dX10_hindrance_47 ?_
    refine g_bipush C (25 : Int32) dX10_hindrance_50 cb_25 ?_
    refine g_iconst C (2 : Int32) dX10_hindrance_52 ci_2 ?_
    refine g_aload_n C 0 dX10_hindrance_53 rfl ?_
    refine Mg_now C dX10_hindrance_54 ?_
    refine g_iconst C (1 : Int32) dX10_hindrance_57 ci_1 ?_
    refine Ma_now C (f := R 0) rfl (1) (by decide) (vp_lit (by decide)) dX10_hindrance_58 ?_
    refine g_imul C dX10_hindrance_59 ?_
    refine g_iadd C dX10_hindrance_60 ?_
    refine g_iload_n C 1 dX10_hindrance_61 rfl ?_
    refine Ms_now C (f := R 0) rfl _ rfl h.1 dX10_hindrance_62 ?_
    have h := h.2
    refine g_aload_n C 0 dX10_hindrance_63 rfl ?_
    refine Mg_now C dX10_hindrance_64 ?_
    refine g_bipush C (25 : Int32) dX10_hindrance_67 cb_25 ?_
    refine g_iconst C (2 : Int32) dX10_hindrance_69 ci_2 ?_
    refine g_aload_n C 0 dX10_hindrance_70 rfl ?_
    refine Mg_now C dX10_hindrance_71 ?_
    refine g_iconst C (1 : Int32) dX10_hindrance_74 ci_1 ?_
    refine Ma_now C (f := upd (R 0) (((25 : Int32) + ((2 : Int32) * (R 0 1))).toNatClampNeg) v1) rfl (1) (by decide) (vp_lit (by decide)) dX10_hindrance_75 ?_
    refine g_imul C dX10_hindrance_76 ?_
    refine g_iadd C dX10_hindrance_77 ?_
    refine g_iconst C (1 : Int32) dX10_hindrance_78 ci_1 ?_
    refine g_iadd C dX10_hindrance_79 ?_
    refine g_iload_n C 2 dX10_hindrance_80 rfl ?_
    refine Ms_now C (f := upd (R 0) (((25 : Int32) + ((2 : Int32) * (R 0 1))).toNatClampNeg) v1) rfl _ rfl h.1 dX10_hindrance_81 ?_
    have h := h.2
    refine g_aload_n C 0 dX10_hindrance_82 rfl ?_
    refine Mg_now C dX10_hindrance_83 ?_
    refine g_iconst C (1 : Int32) dX10_hindrance_86 ci_1 ?_
    refine g_dup2 C dX10_hindrance_87 rfl rfl ?_
    refine Ma_now C (f := upd (upd (R 0) (((25 : Int32) + ((2 : Int32) * (R 0 1))).toNatClampNeg) v1) ((((25 : Int32) + ((2 : Int32) * ((upd (R 0) (((25 : Int32) + ((2 : Int32) * (R 0 1))).toNatClampNeg) v1) 1))) + (1 : Int32)).toNatClampNeg) v2) rfl (1) (by decide) (vp_lit (by decide)) dX10_hindrance_88 ?_
    refine g_iconst C (1 : Int32) dX10_hindrance_89 ci_1 ?_
    refine g_iadd C dX10_hindrance_90 ?_
    refine Ms_now C (f := upd (upd (R 0) (((25 : Int32) + ((2 : Int32) * (R 0 1))).toNatClampNeg) v1) ((((25 : Int32) + ((2 : Int32) * ((upd (R 0) (((25 : Int32) + ((2 : Int32) * (R 0 1))).toNatClampNeg) v1) 1))) + (1 : Int32)).toNatClampNeg) v2) rfl (1) (by decide) (vp_lit (by decide)) dX10_hindrance_91 ?_
    refine g_aload_n C 0 dX10_hindrance_92 rfl ?_
    refine g_iconst C (0 : Int32) dX10_hindrance_93 ci_0 ?_
    refine Mp_undos C dX10_hindrance_94 ?_
    refine g_aload_n C 0 dX10_hindrance_97 rfl ?_
    refine Mg_now C dX10_hindrance_98 ?_
    refine g_iconst C (1 : Int32) dX10_hindrance_101 ci_1 ?_
    refine Ma_now C (f := upd (upd (upd (R 0) (((25 : Int32) + ((2 : Int32) * (R 0 1))).toNatClampNeg) v1) ((((25 : Int32) + ((2 : Int32) * ((upd (R 0) (((25 : Int32) + ((2 : Int32) * (R 0 1))).toNatClampNeg) v1) 1))) + (1 : Int32)).toNatClampNeg) v2) 1 (((upd (upd (R 0) (((25 : Int32) + ((2 : Int32) * (R 0 1))).toNatClampNeg) v1) ((((25 : Int32) + ((2 : Int32) * ((upd (R 0) (((25 : Int32) + ((2 : Int32) * (R 0 1))).toNatClampNeg) v1) 1))) + (1 : Int32)).toNatClampNeg) v2) 1) + (1 : Int32))) rfl (1) (by decide) (vp_lit (by decide)) dX10_hindrance_102 ?_
    refine g_iconst C (1 : Int32) dX10_hindrance_103 ci_1 ?_
    refine g_isub C dX10_hindrance_104 ?_
    exact hret _ _ _ _ ⟨_, _, _, rfl, h⟩ rfl dX10_hindrance_105
  · have h := h.2 c1
    refine g_bipush C (-3 : Int32) dX10_hindrance_43 cb_m3 ?_
    exact hret _ _ _ _ ⟨_, _, _, rfl, h⟩ rfl dX10_hindrance_45
def qM_hindrance (F : FT) (R : RT) (J : JT) (a1 : Int32) (a2 : Int32) (K : Int32 → FT → RT → JT → Prop) : Prop :=
  qM_in F R J a1.toInt64 (1 : Int64) (9 : Int64) (fun r1 F1 R1 J1 => (r1 = 0 → (K (-1 : Int32) F1 R1 J1)) ∧ (¬ r1 = 0 → ((a2 = (-4 : Int32) → (qM_hindrance_32 F1 R1 J1 a1 a2 K)) ∧ (¬ a2 = (-4 : Int32) → (qM_in F1 R1 J1 a2.toInt64 (0 : Int64) (3 : Int64) (fun r4 F4 R4 J4 => (¬ r4 = 0 → (qM_hindrance_32 F4 R4 J4 a1 a2 K)) ∧ (r4 = 0 → (K (-1 : Int32) F4 R4 J4))))))))
set_option maxHeartbeats 4000000 in
set_option maxRecDepth 100000 in
theorem bM_hindrance {X : XT} {ka : Nat → ClassId} {ad : Nat → Nat} (C : Cx X cX10_hindrance 3 RX10 (some .int) ka 2) {K : Int32 → FT → RT → JT → Prop} (hret : RetI X cX10_hindrance .int 0 0 (fun z w => ∃ F R J, w = wM ad ka F R J ∧ K z F R J)) (F : FT) (R : RT) (J : JT) (a1 : Int32) (a2 : Int32) (h : qM_hindrance F R J a1 a2 K) : G X 0 0 (wM ad ka F R J) 0 [(0, .ref (ad 20)), (1, .int a1), (2, .int a2)] [] := by
  unfold qM_hindrance at h
  refine g_iload_n C 1 dX10_hindrance_0 rfl ?_
  refine g_i2l C dX10_hindrance_1 ?_
  refine g_lconst C (1 : Int64) dX10_hindrance_2 rfl ?_
  refine g_ldc2 C (gw_of tw4_139 rfl) dX10_hindrance_3 ?_
  refine g_callSi0 C (kM_in (xL X) (xD X) ka ad _ _ _ _ _ _ _ h) siX10_in (gw_of tw4_136 rfl) (by decide) rfl rfl (Nat.le_of_ble_eq_true rfl) z00 dX10_hindrance_6 (fun r1 w hw => ?_)
  obtain ⟨F1, R1, J1, rfl, h⟩ := hw
  refine g_if_eq C 30 dX10_hindrance_9 (by decide) (fun c2 => ?_) (fun c2 => ?_)
  · have h := h.1 c2
    refine g_iconst C (-1 : Int32) dX10_hindrance_30 ci_m1 ?_
    exact hret _ _ _ _ ⟨_, _, _, rfl, h⟩ rfl dX10_hindrance_31
  · have h := h.2 c2
    refine g_iload_n C 2 dX10_hindrance_12 rfl ?_
    refine g_bipush C (-4 : Int32) dX10_hindrance_13 cb_m4 ?_
    refine g_icmp_eq C 32 dX10_hindrance_15 (by decide) (fun c3 => ?_) (fun c3 => ?_)
    · have h := h.1 c3
      exact g_lv [0, 1, 2] rfl (lM_hindrance_32 C hret _ _ _ _ _ h)
    · have h := h.2 c3
      refine g_iload_n C 2 dX10_hindrance_18 rfl ?_
      refine g_i2l C dX10_hindrance_19 ?_
      refine g_lconst C (0 : Int64) dX10_hindrance_20 rfl ?_
      refine g_ldc2 C (gw_of tw4_168 rfl) dX10_hindrance_21 ?_
      refine g_callSi0 C (kM_in (xL X) (xD X) ka ad _ _ _ _ _ _ _ h) siX10_in (gw_of tw4_136 rfl) (by decide) rfl rfl (Nat.le_of_ble_eq_true rfl) z00 dX10_hindrance_24 (fun r4 w hw => ?_)
      obtain ⟨F4, R4, J4, rfl, h⟩ := hw
      refine g_if_ne C 32 dX10_hindrance_27 (by decide) (fun c5 => ?_) (fun c5 => ?_)
      · have h := h.1 c5
        exact g_lv [0, 1, 2] rfl (lM_hindrance_32 C hret _ _ _ _ _ h)
      · have h := h.2 c5
        refine g_iconst C (-1 : Int32) dX10_hindrance_30 ci_m1 ?_
        exact hret _ _ _ _ ⟨_, _, _, rfl, h⟩ rfl dX10_hindrance_31
set_option maxHeartbeats 4000000 in
set_option maxRecDepth 100000 in
theorem kM_hindrance (l : Launch) (D : va_G) (ka : Nat → ClassId) (ad : Nat → Nat) (F : FT) (R : RT) (J : JT) (a1 : Int32) (a2 : Int32) (K : Int32 → FT → RT → JT → Prop) (h : qM_hindrance F R J a1 a2 K) : MI l D ka yX10_hindrance cX10_hindrance 3 (some .int) 2 0 0 [.ref (ad 20), .int a1, .int a2] (wM ad ka F R J) (fun z w => ∃ F R J, w = wM ad ka F R J ∧ K z F R J) := MI_of (by decide) (Nat.le_of_ble_eq_true rfl) (fun X C _ hret => bM_hindrance C hret F R J a1 a2 h)
set_option maxHeartbeats 4000000 in
set_option maxRecDepth 100000 in
theorem miX10_hindrance : MInf yX10_hindrance cX10_hindrance 3 (some .int) 2 := ⟨(gw_of tw4_165 rfl), (gw_of tw4_166 rfl), (gw_of tw1_6 rfl), (gw_of tw4_167 rfl), by decide +kernel, by decide⟩

def qM_oath (F : FT) (R : RT) (J : JT) (a1 : Int32) (a2 : Int32) (K : Int32 → FT → RT → JT → Prop) : Prop :=
  qM_in F R J a1.toInt64 (0 : Int64) (3 : Int64) (fun r1 F1 R1 J1 => (r1 = 0 → (K (-1 : Int32) F1 R1 J1)) ∧ (¬ r1 = 0 → (qM_in F1 R1 J1 a2.toInt64 (0 : Int64) (1 : Int64) (fun r3 F3 R3 J3 => (¬ r3 = 0 → ((¬ a2 = (1 : Int32) → (K (((R3 0 11) >>> (a1 &&& 31)) &&& (1 : Int32)) F3 (va_up R3 0 (upd (R3 0) 11 ((R3 0 11) &&& (((1 : Int32) <<< (a1 &&& 31)) ^^^ (-1 : Int32))))) J3)) ∧ (a2 = (1 : Int32) → (K (((R3 0 11) >>> (a1 &&& 31)) &&& (1 : Int32)) F3 (va_up R3 0 (upd (R3 0) 11 ((R3 0 11) ||| ((1 : Int32) <<< (a1 &&& 31))))) J3)))) ∧ (r3 = 0 → (K (-1 : Int32) F3 R3 J3))))))
set_option maxHeartbeats 4000000 in
set_option maxRecDepth 100000 in
theorem bM_oath {X : XT} {ka : Nat → ClassId} {ad : Nat → Nat} (C : Cx X cX10_oath 4 RX10 (some .int) ka 2) {K : Int32 → FT → RT → JT → Prop} (hret : RetI X cX10_oath .int 0 0 (fun z w => ∃ F R J, w = wM ad ka F R J ∧ K z F R J)) (F : FT) (R : RT) (J : JT) (a1 : Int32) (a2 : Int32) (h : qM_oath F R J a1 a2 K) : G X 0 0 (wM ad ka F R J) 0 [(0, .ref (ad 20)), (1, .int a1), (2, .int a2)] [] := by
  unfold qM_oath at h
  refine g_iload_n C 1 dX10_oath_0 rfl ?_
  refine g_i2l C dX10_oath_1 ?_
  refine g_lconst C (0 : Int64) dX10_oath_2 rfl ?_
  refine g_ldc2 C (gw_of tw4_168 rfl) dX10_oath_3 ?_
  refine g_callSi0 C (kM_in (xL X) (xD X) ka ad _ _ _ _ _ _ _ h) siX10_in (gw_of tw4_136 rfl) (by decide) rfl rfl (Nat.le_of_ble_eq_true rfl) z00 dX10_oath_6 (fun r1 w hw => ?_)
  obtain ⟨F1, R1, J1, rfl, h⟩ := hw
  refine g_if_eq C 22 dX10_oath_9 (by decide) (fun c2 => ?_) (fun c2 => ?_)
  · have h := h.1 c2
    refine g_iconst C (-1 : Int32) dX10_oath_22 ci_m1 ?_
    exact hret _ _ _ _ ⟨_, _, _, rfl, h⟩ rfl dX10_oath_23
  · have h := h.2 c2
    refine g_iload_n C 2 dX10_oath_12 rfl ?_
    refine g_i2l C dX10_oath_13 ?_
    refine g_lconst C (0 : Int64) dX10_oath_14 rfl ?_
    refine g_lconst C (1 : Int64) dX10_oath_15 rfl ?_
    refine g_callSi0 C (kM_in (xL X) (xD X) ka ad _ _ _ _ _ _ _ h) siX10_in (gw_of tw4_136 rfl) (by decide) rfl rfl (Nat.le_of_ble_eq_true rfl) z00 dX10_oath_16 (fun r3 w hw => ?_)
    obtain ⟨F3, R3, J3, rfl, h⟩ := hw
    refine g_if_ne C 24 dX10_oath_19 (by decide) (fun c4 => ?_) (fun c4 => ?_)
    · have h := h.1 c4
      refine g_aload_n C 0 dX10_oath_24 rfl ?_
      refine Mg_now C dX10_oath_25 ?_
      refine g_bipush C (11 : Int32) dX10_oath_28 cb_11 ?_
      refine Ma_now C (f := R3 0) rfl (11) (by decide) (vp_lit (by decide)) dX10_oath_30 ?_
      refine g_iload_n C 1 dX10_oath_31 rfl ?_
      refine g_ishr C dX10_oath_32 ?_
      refine g_iconst C (1 : Int32) dX10_oath_33 ci_1 ?_
      refine g_iand C dX10_oath_34 ?_
      refine g_istore_n C [(3, .int (((R3 0 11) >>> (a1 &&& 31)) &&& (1 : Int32))), (0, .ref (ad 20)), (1, .int a1), (2, .int a2)] dX10_oath_35 (by decide) rfl ?_
      refine g_aload_n C 1 dX10_oath_36 rfl ?_
      refine Mg_now C dX10_oath_37 ?_
      refine g_bipush C (11 : Int32) dX10_oath_40 cb_11 ?_
      refine g_iload_n C 3 dX10_oath_42 rfl ?_
      refine g_iconst C (1 : Int32) dX10_oath_43 ci_1 ?_
      refine g_icmp_ne C 61 dX10_oath_44 (by decide) (fun c5 => ?_) (fun c5 => ?_)
      · have h := h.1 c5
        refine g_aload_n C 1 dX10_oath_61 rfl ?_
        refine Mg_now C dX10_oath_62 ?_
        refine g_bipush C (11 : Int32) dX10_oath_65 cb_11 ?_
        refine Ma_now C (f := R3 0) rfl (11) (by decide) (vp_lit (by decide)) dX10_oath_67 ?_
        refine g_iconst C (1 : Int32) dX10_oath_68 ci_1 ?_
        refine g_iload_n C 2 dX10_oath_69 rfl ?_
        refine g_ishl C dX10_oath_70 ?_
        refine g_iconst C (-1 : Int32) dX10_oath_71 ci_m1 ?_
        refine g_ixor C dX10_oath_72 ?_
        refine g_iand C dX10_oath_73 ?_
        refine Ms_now C (f := R3 0) rfl (11) (by decide) (vp_lit (by decide)) dX10_oath_74 ?_
        refine g_iload_n C 0 dX10_oath_75 rfl ?_
        exact hret _ _ _ _ ⟨_, _, _, rfl, h⟩ rfl dX10_oath_76
      · have h := h.2 c5
        refine g_aload_n C 1 dX10_oath_47 rfl ?_
        refine Mg_now C dX10_oath_48 ?_
        refine g_bipush C (11 : Int32) dX10_oath_51 cb_11 ?_
        refine Ma_now C (f := R3 0) rfl (11) (by decide) (vp_lit (by decide)) dX10_oath_53 ?_
        refine g_iconst C (1 : Int32) dX10_oath_54 ci_1 ?_
        refine g_iload_n C 2 dX10_oath_55 rfl ?_
        refine g_ishl C dX10_oath_56 ?_
        refine g_ior C dX10_oath_57 ?_
        refine g_goto C 74 dX10_oath_58 (by decide) ?_
        refine Ms_now C (f := R3 0) rfl (11) (by decide) (vp_lit (by decide)) dX10_oath_74 ?_
        refine g_iload_n C 0 dX10_oath_75 rfl ?_
        exact hret _ _ _ _ ⟨_, _, _, rfl, h⟩ rfl dX10_oath_76
    · have h := h.2 c4
      refine g_iconst C (-1 : Int32) dX10_oath_22 ci_m1 ?_
      exact hret _ _ _ _ ⟨_, _, _, rfl, h⟩ rfl dX10_oath_23
set_option maxHeartbeats 4000000 in
set_option maxRecDepth 100000 in
theorem kM_oath (l : Launch) (D : va_G) (ka : Nat → ClassId) (ad : Nat → Nat) (F : FT) (R : RT) (J : JT) (a1 : Int32) (a2 : Int32) (K : Int32 → FT → RT → JT → Prop) (h : qM_oath F R J a1 a2 K) : MI l D ka yX10_oath cX10_oath 4 (some .int) 2 0 0 [.ref (ad 20), .int a1, .int a2] (wM ad ka F R J) (fun z w => ∃ F R J, w = wM ad ka F R J ∧ K z F R J) := MI_of (by decide) (Nat.le_of_ble_eq_true rfl) (fun X C _ hret => bM_oath C hret F R J a1 a2 h)
set_option maxHeartbeats 4000000 in
set_option maxRecDepth 100000 in
theorem miX10_oath : MInf yX10_oath cX10_oath 4 (some .int) 2 := ⟨(gw_of tw4_170 rfl), (gw_of tw4_171 rfl), (gw_of tw1_6 rfl), (gw_of tw4_172 rfl), by decide +kernel, by decide⟩

def qM_count (F : FT) (R : RT) (J : JT) (a1 : Int32) (K : Int32 → FT → RT → JT → Prop) : Prop :=
  qM_in F R J a1.toInt64 (0 : Int64) (11 : Int64) (fun r1 F1 R1 J1 => (r1 = 0 → ((¬ a1 = (12 : Int32) → (K (-1 : Int32) F1 R1 J1)) ∧ (a1 = (12 : Int32) → (K (F1 9) F1 R1 J1)))) ∧ (¬ r1 = 0 → ((vp_in a1 37) ∧ (K (R1 0 a1.toNatClampNeg) F1 R1 J1))))
set_option maxHeartbeats 4000000 in
set_option maxRecDepth 100000 in
theorem bM_count {X : XT} {ka : Nat → ClassId} {ad : Nat → Nat} (C : Cx X cX10_count 2 RX10 (some .int) ka 2) {K : Int32 → FT → RT → JT → Prop} (hret : RetI X cX10_count .int 0 0 (fun z w => ∃ F R J, w = wM ad ka F R J ∧ K z F R J)) (F : FT) (R : RT) (J : JT) (a1 : Int32) (h : qM_count F R J a1 K) : G X 0 0 (wM ad ka F R J) 0 [(0, .ref (ad 20)), (1, .int a1)] [] := by
  unfold qM_count at h
  refine g_iload_n C 1 dX10_count_0 rfl ?_
  refine g_i2l C dX10_count_1 ?_
  refine g_lconst C (0 : Int64) dX10_count_2 rfl ?_
  refine g_ldc2 C (gw_of tw4_177 rfl) dX10_count_3 ?_
  refine g_callSi0 C (kM_in (xL X) (xD X) ka ad _ _ _ _ _ _ _ h) siX10_in (gw_of tw4_136 rfl) (by decide) rfl rfl (Nat.le_of_ble_eq_true rfl) z00 dX10_count_6 (fun r1 w hw => ?_)
  obtain ⟨F1, R1, J1, rfl, h⟩ := hw
  refine g_if_eq C 21 dX10_count_9 (by decide) (fun c2 => ?_) (fun c2 => ?_)
  · have h := h.1 c2
    refine g_iload_n C 1 dX10_count_21 rfl ?_
    refine g_bipush C (12 : Int32) dX10_count_22 cb_12 ?_
    refine g_icmp_ne C 34 dX10_count_24 (by decide) (fun c3 => ?_) (fun c3 => ?_)
    · have h := h.1 c3
      refine g_iconst C (-1 : Int32) dX10_count_34 ci_m1 ?_
      exact hret _ _ _ _ ⟨_, _, _, rfl, h⟩ rfl dX10_count_35
    · have h := h.2 c3
      refine g_aload_n C 0 dX10_count_27 rfl ?_
      refine Mg_undos C (v := F1 9) rfl dX10_count_28 ?_
      refine g_goto C 35 dX10_count_31 (by decide) ?_
      exact hret _ _ _ _ ⟨_, _, _, rfl, h⟩ rfl dX10_count_35
  · have h := h.2 c2
    refine g_aload_n C 0 dX10_count_12 rfl ?_
    refine Mg_now C dX10_count_13 ?_
    refine g_iload_n C 1 dX10_count_16 rfl ?_
    refine Ma_now C (f := R1 0) rfl _ rfl h.1 dX10_count_17 ?_
    have h := h.2
    refine g_goto C 35 dX10_count_18 (by decide) ?_
    exact hret _ _ _ _ ⟨_, _, _, rfl, h⟩ rfl dX10_count_35
set_option maxHeartbeats 4000000 in
set_option maxRecDepth 100000 in
theorem kM_count (l : Launch) (D : va_G) (ka : Nat → ClassId) (ad : Nat → Nat) (F : FT) (R : RT) (J : JT) (a1 : Int32) (K : Int32 → FT → RT → JT → Prop) (h : qM_count F R J a1 K) : MI l D ka yX10_count cX10_count 2 (some .int) 2 0 0 [.ref (ad 20), .int a1] (wM ad ka F R J) (fun z w => ∃ F R J, w = wM ad ka F R J ∧ K z F R J) := MI_of (by decide) (Nat.le_of_ble_eq_true rfl) (fun X C _ hret => bM_count C hret F R J a1 h)
set_option maxHeartbeats 4000000 in
set_option maxRecDepth 100000 in
theorem miX10_count : MInf yX10_count cX10_count 2 (some .int) 1 := ⟨(gw_of tw4_174 rfl), (gw_of tw4_175 rfl), (gw_of tw1_6 rfl), (gw_of tw4_176 rfl), by decide +kernel, by decide⟩

def qM_type (F : FT) (R : RT) (J : JT) (a1 : Int32) (K : Int32 → FT → RT → JT → Prop) : Prop :=
  qM_in F R J a1.toInt64 (32 : Int64) (126 : Int64) (fun r1 F1 R1 J1 => (¬ r1 = 0 → ((¬ (F1 4) = (60 : Int32) → ((vp_in (F1 4) 60) ∧ (K ((F1 4) + (1 : Int32)) (upd F1 4 ((F1 4) + (1 : Int32))) (va_up R1 3 (upd (R1 3) ((F1 4).toNatClampNeg) a1)) J1))) ∧ ((F1 4) = (60 : Int32) → (K (-3 : Int32) F1 R1 J1)))) ∧ (r1 = 0 → (K (-1 : Int32) F1 R1 J1)))
set_option maxHeartbeats 4000000 in
set_option maxRecDepth 100000 in
theorem bM_type {X : XT} {ka : Nat → ClassId} {ad : Nat → Nat} (C : Cx X cX10_type 2 RX10 (some .int) ka 2) {K : Int32 → FT → RT → JT → Prop} (hret : RetI X cX10_type .int 0 0 (fun z w => ∃ F R J, w = wM ad ka F R J ∧ K z F R J)) (F : FT) (R : RT) (J : JT) (a1 : Int32) (h : qM_type F R J a1 K) : G X 0 0 (wM ad ka F R J) 0 [(0, .ref (ad 20)), (1, .int a1)] [] := by
  unfold qM_type at h
  refine g_iload_n C 1 dX10_type_0 rfl ?_
  refine g_i2l C dX10_type_1 ?_
  refine g_ldc2 C (gw_of tw4_182 rfl) dX10_type_2 ?_
  refine g_ldc2 C (gw_of tw4_183 rfl) dX10_type_5 ?_
  refine g_callSi0 C (kM_in (xL X) (xD X) ka ad _ _ _ _ _ _ _ h) siX10_in (gw_of tw4_136 rfl) (by decide) rfl rfl (Nat.le_of_ble_eq_true rfl) z00 dX10_type_8 (fun r1 w hw => ?_)
  obtain ⟨F1, R1, J1, rfl, h⟩ := hw
  refine g_if_ne C 16 dX10_type_11 (by decide) (fun c2 => ?_) (fun c2 => ?_)
  · have h := h.1 c2
    refine g_aload_n C 0 dX10_type_16 rfl ?_
    refine Mg_typed C (v := F1 4) rfl dX10_type_17 ?_
    refine g_bipush C (60 : Int32) dX10_type_20 cb_60 ?_
    refine g_icmp_ne C 28 dX10_type_22 (by decide) (fun c3 => ?_) (fun c3 => ?_)
    · have h := h.1 c3
      refine g_aload_n C 0 dX10_type_28 rfl ?_
      refine Mg_tape C dX10_type_29 ?_
      refine g_aload_n C 0 dX10_type_32 rfl ?_
      refine Mg_typed C (v := F1 4) rfl dX10_type_33 ?_
      refine g_iload_n C 1 dX10_type_36 rfl ?_
      refine Ms_tape C (f := R1 3) rfl _ rfl h.1 dX10_type_37 ?_
      have h := h.2
      refine g_aload_n C 0 dX10_type_38 rfl ?_
      refine g_dup C dX10_type_39 rfl ?_
      refine Mg_typed C (v := F1 4) rfl dX10_type_40 ?_
      refine g_iconst C (1 : Int32) dX10_type_43 ci_1 ?_
      refine g_iadd C dX10_type_44 ?_
      refine Mp_typed C dX10_type_45 ?_
      refine g_aload_n C 0 dX10_type_48 rfl ?_
      refine Mg_typed C (v := (F1 4) + (1 : Int32)) rfl dX10_type_49 ?_
      exact hret _ _ _ _ ⟨_, _, _, rfl, h⟩ rfl dX10_type_52
    · have h := h.2 c3
      refine g_bipush C (-3 : Int32) dX10_type_25 cb_m3 ?_
      exact hret _ _ _ _ ⟨_, _, _, rfl, h⟩ rfl dX10_type_27
  · have h := h.2 c2
    refine g_iconst C (-1 : Int32) dX10_type_14 ci_m1 ?_
    exact hret _ _ _ _ ⟨_, _, _, rfl, h⟩ rfl dX10_type_15
set_option maxHeartbeats 4000000 in
set_option maxRecDepth 100000 in
theorem kM_type (l : Launch) (D : va_G) (ka : Nat → ClassId) (ad : Nat → Nat) (F : FT) (R : RT) (J : JT) (a1 : Int32) (K : Int32 → FT → RT → JT → Prop) (h : qM_type F R J a1 K) : MI l D ka yX10_type cX10_type 2 (some .int) 2 0 0 [.ref (ad 20), .int a1] (wM ad ka F R J) (fun z w => ∃ F R J, w = wM ad ka F R J ∧ K z F R J) := MI_of (by decide) (Nat.le_of_ble_eq_true rfl) (fun X C _ hret => bM_type C hret F R J a1 h)
set_option maxHeartbeats 4000000 in
set_option maxRecDepth 100000 in
theorem miX10_type : MInf yX10_type cX10_type 2 (some .int) 1 := ⟨(gw_of tw4_179 rfl), (gw_of tw4_180 rfl), (gw_of tw1_6 rfl), (gw_of tw4_181 rfl), by decide +kernel, by decide⟩
end
