-- ===== PART A: goes FIRST, ahead of the names: the tables' words, and 'selects' of the private methods out of them =====
/-- a private method of a class that the tables say can be made, by its rows of tables_1 -/
def lw_okq (q : MethodName × Nat) : Prop := (q.1.cls ≠ "java/lang/invoke/MethodHandle" ∧ q.1.cls ≠ "java/lang/invoke/VarHandle") ∧ Cond.instantiable q.1.cls q.2 ∈ tables_1 ∧ Cond.privateMethod q.1 ∈ tables_1 ∧ Cond.instanceMethod q.1 ∈ tables_1
theorem lw_p0 : lw_okq (⟨"GroundTents", "finding", "(I)I"⟩, 9) := ⟨⟨by decide +kernel, by decide +kernel⟩, List.mem_of_getElem? (i := 17) (by decide +kernel), List.mem_of_getElem? (i := 202) (by decide +kernel), List.mem_of_getElem? (i := 203) (by decide +kernel)⟩
theorem lw_p1 : lw_okq (⟨"GroundTents$Camp", "springAt", "(I)I"⟩, 7) := ⟨⟨by decide +kernel, by decide +kernel⟩, List.mem_of_getElem? (i := 25) (by decide +kernel), List.mem_of_getElem? (i := 211) (by decide +kernel), List.mem_of_getElem? (i := 212) (by decide +kernel)⟩
theorem lw_p2 : lw_okq (⟨"GroundTents$Camp", "setSpring", "(II)V"⟩, 7) := ⟨⟨by decide +kernel, by decide +kernel⟩, List.mem_of_getElem? (i := 25) (by decide +kernel), List.mem_of_getElem? (i := 215) (by decide +kernel), List.mem_of_getElem? (i := 216) (by decide +kernel)⟩
theorem lw_p3 : lw_okq (⟨"GroundTents$Camp", "tentsOver", "(I)I"⟩, 7) := ⟨⟨by decide +kernel, by decide +kernel⟩, List.mem_of_getElem? (i := 25) (by decide +kernel), List.mem_of_getElem? (i := 223) (by decide +kernel), List.mem_of_getElem? (i := 224) (by decide +kernel)⟩
theorem lw_p4 : lw_okq (⟨"GroundTents$Tent", "isPitched", "()Z"⟩, 4) := ⟨⟨by decide +kernel, by decide +kernel⟩, List.mem_of_getElem? (i := 35) (by decide +kernel), List.mem_of_getElem? (i := 227) (by decide +kernel), List.mem_of_getElem? (i := 228) (by decide +kernel)⟩
theorem lw_p5 : lw_okq (⟨"GroundTents$Camp", "steepnessAt", "(I)I"⟩, 7) := ⟨⟨by decide +kernel, by decide +kernel⟩, List.mem_of_getElem? (i := 25) (by decide +kernel), List.mem_of_getElem? (i := 240) (by decide +kernel), List.mem_of_getElem? (i := 241) (by decide +kernel)⟩
theorem lw_p6 : lw_okq (⟨"GroundTents$Camp", "climbBetween", "(II)I"⟩, 7) := ⟨⟨by decide +kernel, by decide +kernel⟩, List.mem_of_getElem? (i := 25) (by decide +kernel), List.mem_of_getElem? (i := 247) (by decide +kernel), List.mem_of_getElem? (i := 248) (by decide +kernel)⟩
theorem lw_p7 : lw_okq (⟨"GroundTents$Camp", "addTent", "(I)V"⟩, 7) := ⟨⟨by decide +kernel, by decide +kernel⟩, List.mem_of_getElem? (i := 25) (by decide +kernel), List.mem_of_getElem? (i := 264) (by decide +kernel), List.mem_of_getElem? (i := 265) (by decide +kernel)⟩
theorem lw_p8 : lw_okq (⟨"GroundTents$Tent", "renew", "(I)V"⟩, 4) := ⟨⟨by decide +kernel, by decide +kernel⟩, List.mem_of_getElem? (i := 35) (by decide +kernel), List.mem_of_getElem? (i := 268) (by decide +kernel), List.mem_of_getElem? (i := 269) (by decide +kernel)⟩
theorem lw_p9 : lw_okq (⟨"GroundTents", "isTent", "(I)Z"⟩, 9) := ⟨⟨by decide +kernel, by decide +kernel⟩, List.mem_of_getElem? (i := 17) (by decide +kernel), List.mem_of_getElem? (i := 277) (by decide +kernel), List.mem_of_getElem? (i := 278) (by decide +kernel)⟩
theorem lw_p10 : lw_okq (⟨"GroundTents$Tent", "trait", "(I)I"⟩, 4) := ⟨⟨by decide +kernel, by decide +kernel⟩, List.mem_of_getElem? (i := 35) (by decide +kernel), List.mem_of_getElem? (i := 281) (by decide +kernel), List.mem_of_getElem? (i := 282) (by decide +kernel)⟩
theorem lw_p11 : lw_okq (⟨"GroundTents$Tent", "wear", "()I"⟩, 4) := ⟨⟨by decide +kernel, by decide +kernel⟩, List.mem_of_getElem? (i := 35) (by decide +kernel), List.mem_of_getElem? (i := 285) (by decide +kernel), List.mem_of_getElem? (i := 286) (by decide +kernel)⟩
theorem lw_p12 : lw_okq (⟨"GroundTents$Tent", "setTrait", "(II)V"⟩, 4) := ⟨⟨by decide +kernel, by decide +kernel⟩, List.mem_of_getElem? (i := 35) (by decide +kernel), List.mem_of_getElem? (i := 299) (by decide +kernel), List.mem_of_getElem? (i := 300) (by decide +kernel)⟩
theorem lw_p13 : lw_okq (⟨"GroundTents$Tent", "forget", "()I"⟩, 4) := ⟨⟨by decide +kernel, by decide +kernel⟩, List.mem_of_getElem? (i := 35) (by decide +kernel), List.mem_of_getElem? (i := 307) (by decide +kernel), List.mem_of_getElem? (i := 308) (by decide +kernel)⟩
theorem lw_p14 : lw_okq (⟨"GroundTents$Camp", "passDays", "(I)V"⟩, 7) := ⟨⟨by decide +kernel, by decide +kernel⟩, List.mem_of_getElem? (i := 25) (by decide +kernel), List.mem_of_getElem? (i := 316) (by decide +kernel), List.mem_of_getElem? (i := 317) (by decide +kernel)⟩
theorem lw_p15 : lw_okq (⟨"GroundTents$Camp", "passDay", "()V"⟩, 7) := ⟨⟨by decide +kernel, by decide +kernel⟩, List.mem_of_getElem? (i := 25) (by decide +kernel), List.mem_of_getElem? (i := 320) (by decide +kernel), List.mem_of_getElem? (i := 321) (by decide +kernel)⟩
def lw_privs_1 : List (MethodName × Nat) := [(⟨"GroundTents", "finding", "(I)I"⟩, 9), (⟨"GroundTents$Camp", "springAt", "(I)I"⟩, 7), (⟨"GroundTents$Camp", "setSpring", "(II)V"⟩, 7), (⟨"GroundTents$Camp", "tentsOver", "(I)I"⟩, 7), (⟨"GroundTents$Tent", "isPitched", "()Z"⟩, 4), (⟨"GroundTents$Camp", "steepnessAt", "(I)I"⟩, 7), (⟨"GroundTents$Camp", "climbBetween", "(II)I"⟩, 7), (⟨"GroundTents$Camp", "addTent", "(I)V"⟩, 7), (⟨"GroundTents$Tent", "renew", "(I)V"⟩, 4), (⟨"GroundTents", "isTent", "(I)Z"⟩, 9), (⟨"GroundTents$Tent", "trait", "(I)I"⟩, 4), (⟨"GroundTents$Tent", "wear", "()I"⟩, 4), (⟨"GroundTents$Tent", "setTrait", "(II)V"⟩, 4), (⟨"GroundTents$Tent", "forget", "()I"⟩, 4), (⟨"GroundTents$Camp", "passDays", "(I)V"⟩, 7), (⟨"GroundTents$Camp", "passDay", "()V"⟩, 7)]
theorem lw_r1 : ∀ q ∈ lw_privs_1, lw_okq q := List.forall_mem_cons.mpr ⟨lw_p0, List.forall_mem_cons.mpr ⟨lw_p1, List.forall_mem_cons.mpr ⟨lw_p2, List.forall_mem_cons.mpr ⟨lw_p3, List.forall_mem_cons.mpr ⟨lw_p4, List.forall_mem_cons.mpr ⟨lw_p5, List.forall_mem_cons.mpr ⟨lw_p6, List.forall_mem_cons.mpr ⟨lw_p7, List.forall_mem_cons.mpr ⟨lw_p8, List.forall_mem_cons.mpr ⟨lw_p9, List.forall_mem_cons.mpr ⟨lw_p10, List.forall_mem_cons.mpr ⟨lw_p11, List.forall_mem_cons.mpr ⟨lw_p12, List.forall_mem_cons.mpr ⟨lw_p13, List.forall_mem_cons.mpr ⟨lw_p14, List.forall_mem_cons.mpr ⟨lw_p15, fun _ h => absurd h List.not_mem_nil⟩⟩⟩⟩⟩⟩⟩⟩⟩⟩⟩⟩⟩⟩⟩⟩
theorem lw_p16 : lw_okq (⟨"GroundTents$Camp", "pressAndTake", "(LGroundTents$Tent;)V"⟩, 7) := ⟨⟨by decide +kernel, by decide +kernel⟩, List.mem_of_getElem? (i := 25) (by decide +kernel), List.mem_of_getElem? (i := 324) (by decide +kernel), List.mem_of_getElem? (i := 325) (by decide +kernel)⟩
theorem lw_p17 : lw_okq (⟨"GroundTents$Tent", "pressed", "(II)I"⟩, 4) := ⟨⟨by decide +kernel, by decide +kernel⟩, List.mem_of_getElem? (i := 35) (by decide +kernel), List.mem_of_getElem? (i := 328) (by decide +kernel), List.mem_of_getElem? (i := 329) (by decide +kernel)⟩
theorem lw_p18 : lw_okq (⟨"GroundTents$Tent", "taken", "(II)I"⟩, 4) := ⟨⟨by decide +kernel, by decide +kernel⟩, List.mem_of_getElem? (i := 35) (by decide +kernel), List.mem_of_getElem? (i := 338) (by decide +kernel), List.mem_of_getElem? (i := 339) (by decide +kernel)⟩
theorem lw_p19 : lw_okq (⟨"GroundTents$Tent", "wearOut", "()V"⟩, 4) := ⟨⟨by decide +kernel, by decide +kernel⟩, List.mem_of_getElem? (i := 35) (by decide +kernel), List.mem_of_getElem? (i := 342) (by decide +kernel), List.mem_of_getElem? (i := 343) (by decide +kernel)⟩
theorem lw_p20 : lw_okq (⟨"GroundTents$Camp", "heightSum", "()I"⟩, 7) := ⟨⟨by decide +kernel, by decide +kernel⟩, List.mem_of_getElem? (i := 25) (by decide +kernel), List.mem_of_getElem? (i := 347) (by decide +kernel), List.mem_of_getElem? (i := 348) (by decide +kernel)⟩
theorem lw_p21 : lw_okq (⟨"GroundTents$Camp", "pitchedSet", "()I"⟩, 7) := ⟨⟨by decide +kernel, by decide +kernel⟩, List.mem_of_getElem? (i := 25) (by decide +kernel), List.mem_of_getElem? (i := 355) (by decide +kernel), List.mem_of_getElem? (i := 356) (by decide +kernel)⟩
theorem lw_p22 : lw_okq (⟨"GroundTents$Camp", "wornSum", "()I"⟩, 7) := ⟨⟨by decide +kernel, by decide +kernel⟩, List.mem_of_getElem? (i := 25) (by decide +kernel), List.mem_of_getElem? (i := 359) (by decide +kernel), List.mem_of_getElem? (i := 360) (by decide +kernel)⟩
theorem lw_p23 : lw_okq (⟨"GroundTents$Camp", "relief", "()I"⟩, 7) := ⟨⟨by decide +kernel, by decide +kernel⟩, List.mem_of_getElem? (i := 25) (by decide +kernel), List.mem_of_getElem? (i := 363) (by decide +kernel), List.mem_of_getElem? (i := 364) (by decide +kernel)⟩
theorem lw_p24 : lw_okq (⟨"GroundTents$Flock", "stepsBetween", "(LGroundTents$Camp;III)I"⟩, 4) := ⟨⟨by decide +kernel, by decide +kernel⟩, List.mem_of_getElem? (i := 96) (by decide +kernel), List.mem_of_getElem? (i := 372) (by decide +kernel), List.mem_of_getElem? (i := 373) (by decide +kernel)⟩
theorem lw_p25 : lw_okq (⟨"GroundTents$Flock", "roam", "(LGroundTents$Camp;II)V"⟩, 4) := ⟨⟨by decide +kernel, by decide +kernel⟩, List.mem_of_getElem? (i := 96) (by decide +kernel), List.mem_of_getElem? (i := 376) (by decide +kernel), List.mem_of_getElem? (i := 377) (by decide +kernel)⟩
theorem lw_p26 : lw_okq (⟨"GroundTents$Flock", "leastClimb", "(LGroundTents$Camp;II)I"⟩, 4) := ⟨⟨by decide +kernel, by decide +kernel⟩, List.mem_of_getElem? (i := 96) (by decide +kernel), List.mem_of_getElem? (i := 387) (by decide +kernel), List.mem_of_getElem? (i := 388) (by decide +kernel)⟩
theorem lw_p27 : lw_okq (⟨"GroundTents$Flock", "isSettled", "(I)Z"⟩, 4) := ⟨⟨by decide +kernel, by decide +kernel⟩, List.mem_of_getElem? (i := 96) (by decide +kernel), List.mem_of_getElem? (i := 391) (by decide +kernel), List.mem_of_getElem? (i := 392) (by decide +kernel)⟩
theorem lw_p28 : lw_okq (⟨"GroundTents$Flock", "easiest", "()I"⟩, 4) := ⟨⟨by decide +kernel, by decide +kernel⟩, List.mem_of_getElem? (i := 96) (by decide +kernel), List.mem_of_getElem? (i := 395) (by decide +kernel), List.mem_of_getElem? (i := 396) (by decide +kernel)⟩
theorem lw_p29 : lw_okq (⟨"GroundTents$Flock", "reachedSet", "()I"⟩, 4) := ⟨⟨by decide +kernel, by decide +kernel⟩, List.mem_of_getElem? (i := 96) (by decide +kernel), List.mem_of_getElem? (i := 406) (by decide +kernel), List.mem_of_getElem? (i := 407) (by decide +kernel)⟩
theorem lw_p30 : lw_okq (⟨"GroundTents$Flock", "nearestOf", "(I)I"⟩, 4) := ⟨⟨by decide +kernel, by decide +kernel⟩, List.mem_of_getElem? (i := 96) (by decide +kernel), List.mem_of_getElem? (i := 414) (by decide +kernel), List.mem_of_getElem? (i := 415) (by decide +kernel)⟩
theorem lw_p31 : lw_okq (⟨"GroundTents$Camp", "becomeLike", "(LGroundTents$Camp;)V"⟩, 7) := ⟨⟨by decide +kernel, by decide +kernel⟩, List.mem_of_getElem? (i := 25) (by decide +kernel), List.mem_of_getElem? (i := 422) (by decide +kernel), List.mem_of_getElem? (i := 423) (by decide +kernel)⟩
def lw_privs_2 : List (MethodName × Nat) := [(⟨"GroundTents$Camp", "pressAndTake", "(LGroundTents$Tent;)V"⟩, 7), (⟨"GroundTents$Tent", "pressed", "(II)I"⟩, 4), (⟨"GroundTents$Tent", "taken", "(II)I"⟩, 4), (⟨"GroundTents$Tent", "wearOut", "()V"⟩, 4), (⟨"GroundTents$Camp", "heightSum", "()I"⟩, 7), (⟨"GroundTents$Camp", "pitchedSet", "()I"⟩, 7), (⟨"GroundTents$Camp", "wornSum", "()I"⟩, 7), (⟨"GroundTents$Camp", "relief", "()I"⟩, 7), (⟨"GroundTents$Flock", "stepsBetween", "(LGroundTents$Camp;III)I"⟩, 4), (⟨"GroundTents$Flock", "roam", "(LGroundTents$Camp;II)V"⟩, 4), (⟨"GroundTents$Flock", "leastClimb", "(LGroundTents$Camp;II)I"⟩, 4), (⟨"GroundTents$Flock", "isSettled", "(I)Z"⟩, 4), (⟨"GroundTents$Flock", "easiest", "()I"⟩, 4), (⟨"GroundTents$Flock", "reachedSet", "()I"⟩, 4), (⟨"GroundTents$Flock", "nearestOf", "(I)I"⟩, 4), (⟨"GroundTents$Camp", "becomeLike", "(LGroundTents$Camp;)V"⟩, 7)]
theorem lw_r2 : ∀ q ∈ lw_privs_2, lw_okq q := List.forall_mem_cons.mpr ⟨lw_p16, List.forall_mem_cons.mpr ⟨lw_p17, List.forall_mem_cons.mpr ⟨lw_p18, List.forall_mem_cons.mpr ⟨lw_p19, List.forall_mem_cons.mpr ⟨lw_p20, List.forall_mem_cons.mpr ⟨lw_p21, List.forall_mem_cons.mpr ⟨lw_p22, List.forall_mem_cons.mpr ⟨lw_p23, List.forall_mem_cons.mpr ⟨lw_p24, List.forall_mem_cons.mpr ⟨lw_p25, List.forall_mem_cons.mpr ⟨lw_p26, List.forall_mem_cons.mpr ⟨lw_p27, List.forall_mem_cons.mpr ⟨lw_p28, List.forall_mem_cons.mpr ⟨lw_p29, List.forall_mem_cons.mpr ⟨lw_p30, List.forall_mem_cons.mpr ⟨lw_p31, fun _ h => absurd h List.not_mem_nil⟩⟩⟩⟩⟩⟩⟩⟩⟩⟩⟩⟩⟩⟩⟩⟩
theorem lw_p32 : lw_okq (⟨"GroundTents$Tent", "becomeLike", "(LGroundTents$Tent;)V"⟩, 4) := ⟨⟨by decide +kernel, by decide +kernel⟩, List.mem_of_getElem? (i := 35) (by decide +kernel), List.mem_of_getElem? (i := 429) (by decide +kernel), List.mem_of_getElem? (i := 430) (by decide +kernel)⟩
theorem lw_p33 : lw_okq (⟨"GroundTents$Camp", "liesAs", "([I)Z"⟩, 7) := ⟨⟨by decide +kernel, by decide +kernel⟩, List.mem_of_getElem? (i := 25) (by decide +kernel), List.mem_of_getElem? (i := 448) (by decide +kernel), List.mem_of_getElem? (i := 449) (by decide +kernel)⟩
theorem lw_p34 : lw_okq (⟨"GroundTents$Camp", "greatestGap", "(LGroundTents$Tent;)I"⟩, 7) := ⟨⟨by decide +kernel, by decide +kernel⟩, List.mem_of_getElem? (i := 25) (by decide +kernel), List.mem_of_getElem? (i := 457) (by decide +kernel), List.mem_of_getElem? (i := 458) (by decide +kernel)⟩
theorem lw_p35 : lw_okq (⟨"GroundTents$Camp", "gap", "(LGroundTents$Tent;II)I"⟩, 7) := ⟨⟨by decide +kernel, by decide +kernel⟩, List.mem_of_getElem? (i := 25) (by decide +kernel), List.mem_of_getElem? (i := 461) (by decide +kernel), List.mem_of_getElem? (i := 462) (by decide +kernel)⟩
theorem lw_p36 : lw_okq (⟨"GroundTents$Camp", "unlikeness", "(LGroundTents$Tent;I)I"⟩, 7) := ⟨⟨by decide +kernel, by decide +kernel⟩, List.mem_of_getElem? (i := 25) (by decide +kernel), List.mem_of_getElem? (i := 470) (by decide +kernel), List.mem_of_getElem? (i := 471) (by decide +kernel)⟩
theorem lw_p37 : lw_okq (⟨"GroundTents", "sumAfterBoth", "(III)I"⟩, 9) := ⟨⟨by decide +kernel, by decide +kernel⟩, List.mem_of_getElem? (i := 17) (by decide +kernel), List.mem_of_getElem? (i := 490) (by decide +kernel), List.mem_of_getElem? (i := 491) (by decide +kernel)⟩
theorem lw_p38 : lw_okq (⟨"GroundTents", "supposeAlone", "(II)V"⟩, 9) := ⟨⟨by decide +kernel, by decide +kernel⟩, List.mem_of_getElem? (i := 17) (by decide +kernel), List.mem_of_getElem? (i := 494) (by decide +kernel), List.mem_of_getElem? (i := 495) (by decide +kernel)⟩
theorem lw_p39 : lw_okq (⟨"GroundTents$Camp", "pitchAlone", "(II)V"⟩, 7) := ⟨⟨by decide +kernel, by decide +kernel⟩, List.mem_of_getElem? (i := 25) (by decide +kernel), List.mem_of_getElem? (i := 498) (by decide +kernel), List.mem_of_getElem? (i := 499) (by decide +kernel)⟩
theorem lw_p40 : lw_okq (⟨"GroundTents$Tent", "keepsNear", "(II)Z"⟩, 4) := ⟨⟨by decide +kernel, by decide +kernel⟩, List.mem_of_getElem? (i := 35) (by decide +kernel), List.mem_of_getElem? (i := 506) (by decide +kernel), List.mem_of_getElem? (i := 507) (by decide +kernel)⟩
theorem lw_p41 : lw_okq (⟨"GroundTents", "lackOf", "(I)I"⟩, 9) := ⟨⟨by decide +kernel, by decide +kernel⟩, List.mem_of_getElem? (i := 17) (by decide +kernel), List.mem_of_getElem? (i := 515) (by decide +kernel), List.mem_of_getElem? (i := 516) (by decide +kernel)⟩
theorem lw_p42 : lw_okq (⟨"GroundTents$Sheet", "isMissing", "()Z"⟩, 3) := ⟨⟨by decide +kernel, by decide +kernel⟩, List.mem_of_getElem? (i := 142) (by decide +kernel), List.mem_of_getElem? (i := 522) (by decide +kernel), List.mem_of_getElem? (i := 523) (by decide +kernel)⟩
theorem lw_p43 : lw_okq (⟨"GroundTents$Sheet", "tells", "([I)Z"⟩, 3) := ⟨⟨by decide +kernel, by decide +kernel⟩, List.mem_of_getElem? (i := 142) (by decide +kernel), List.mem_of_getElem? (i := 526) (by decide +kernel), List.mem_of_getElem? (i := 527) (by decide +kernel)⟩
theorem lw_p44 : lw_okq (⟨"GroundTents$Camp", "draw", "()I"⟩, 7) := ⟨⟨by decide +kernel, by decide +kernel⟩, List.mem_of_getElem? (i := 25) (by decide +kernel), List.mem_of_getElem? (i := 538) (by decide +kernel), List.mem_of_getElem? (i := 539) (by decide +kernel)⟩
theorem lw_p45 : lw_okq (⟨"GroundTents$Camp", "dryPitches", "()I"⟩, 7) := ⟨⟨by decide +kernel, by decide +kernel⟩, List.mem_of_getElem? (i := 25) (by decide +kernel), List.mem_of_getElem? (i := 547) (by decide +kernel), List.mem_of_getElem? (i := 548) (by decide +kernel)⟩
theorem lw_p46 : lw_okq (⟨"GroundTents$Tape", "append", "(I)V"⟩, 6) := ⟨⟨by decide +kernel, by decide +kernel⟩, List.mem_of_getElem? (i := 115) (by decide +kernel), List.mem_of_getElem? (i := 564) (by decide +kernel), List.mem_of_getElem? (i := 565) (by decide +kernel)⟩
theorem lw_p47 : lw_okq (⟨"GroundTents$Tape", "readText", "(LGroundTents$Camp;)I"⟩, 6) := ⟨⟨by decide +kernel, by decide +kernel⟩, List.mem_of_getElem? (i := 115) (by decide +kernel), List.mem_of_getElem? (i := 576) (by decide +kernel), List.mem_of_getElem? (i := 577) (by decide +kernel)⟩
def lw_privs_3 : List (MethodName × Nat) := [(⟨"GroundTents$Tent", "becomeLike", "(LGroundTents$Tent;)V"⟩, 4), (⟨"GroundTents$Camp", "liesAs", "([I)Z"⟩, 7), (⟨"GroundTents$Camp", "greatestGap", "(LGroundTents$Tent;)I"⟩, 7), (⟨"GroundTents$Camp", "gap", "(LGroundTents$Tent;II)I"⟩, 7), (⟨"GroundTents$Camp", "unlikeness", "(LGroundTents$Tent;I)I"⟩, 7), (⟨"GroundTents", "sumAfterBoth", "(III)I"⟩, 9), (⟨"GroundTents", "supposeAlone", "(II)V"⟩, 9), (⟨"GroundTents$Camp", "pitchAlone", "(II)V"⟩, 7), (⟨"GroundTents$Tent", "keepsNear", "(II)Z"⟩, 4), (⟨"GroundTents", "lackOf", "(I)I"⟩, 9), (⟨"GroundTents$Sheet", "isMissing", "()Z"⟩, 3), (⟨"GroundTents$Sheet", "tells", "([I)Z"⟩, 3), (⟨"GroundTents$Camp", "draw", "()I"⟩, 7), (⟨"GroundTents$Camp", "dryPitches", "()I"⟩, 7), (⟨"GroundTents$Tape", "append", "(I)V"⟩, 6), (⟨"GroundTents$Tape", "readText", "(LGroundTents$Camp;)I"⟩, 6)]
theorem lw_r3 : ∀ q ∈ lw_privs_3, lw_okq q := List.forall_mem_cons.mpr ⟨lw_p32, List.forall_mem_cons.mpr ⟨lw_p33, List.forall_mem_cons.mpr ⟨lw_p34, List.forall_mem_cons.mpr ⟨lw_p35, List.forall_mem_cons.mpr ⟨lw_p36, List.forall_mem_cons.mpr ⟨lw_p37, List.forall_mem_cons.mpr ⟨lw_p38, List.forall_mem_cons.mpr ⟨lw_p39, List.forall_mem_cons.mpr ⟨lw_p40, List.forall_mem_cons.mpr ⟨lw_p41, List.forall_mem_cons.mpr ⟨lw_p42, List.forall_mem_cons.mpr ⟨lw_p43, List.forall_mem_cons.mpr ⟨lw_p44, List.forall_mem_cons.mpr ⟨lw_p45, List.forall_mem_cons.mpr ⟨lw_p46, List.forall_mem_cons.mpr ⟨lw_p47, fun _ h => absurd h List.not_mem_nil⟩⟩⟩⟩⟩⟩⟩⟩⟩⟩⟩⟩⟩⟩⟩⟩
theorem lw_p48 : lw_okq (⟨"GroundTents$Tape", "nextToken", "()V"⟩, 6) := ⟨⟨by decide +kernel, by decide +kernel⟩, List.mem_of_getElem? (i := 115) (by decide +kernel), List.mem_of_getElem? (i := 580) (by decide +kernel), List.mem_of_getElem? (i := 581) (by decide +kernel)⟩
theorem lw_p49 : lw_okq (⟨"GroundTents$Tape", "sortAt", "(I)I"⟩, 6) := ⟨⟨by decide +kernel, by decide +kernel⟩, List.mem_of_getElem? (i := 115) (by decide +kernel), List.mem_of_getElem? (i := 584) (by decide +kernel), List.mem_of_getElem? (i := 585) (by decide +kernel)⟩
theorem lw_p50 : lw_okq (⟨"GroundTents$Tape", "numberAtHand", "()I"⟩, 6) := ⟨⟨by decide +kernel, by decide +kernel⟩, List.mem_of_getElem? (i := 115) (by decide +kernel), List.mem_of_getElem? (i := 588) (by decide +kernel), List.mem_of_getElem? (i := 589) (by decide +kernel)⟩
theorem lw_p51 : lw_okq (⟨"GroundTents$Tape", "readItem", "(LGroundTents$Camp;)Z"⟩, 6) := ⟨⟨by decide +kernel, by decide +kernel⟩, List.mem_of_getElem? (i := 115) (by decide +kernel), List.mem_of_getElem? (i := 592) (by decide +kernel), List.mem_of_getElem? (i := 593) (by decide +kernel)⟩
theorem lw_p52 : lw_okq (⟨"GroundTents$Tape", "isWord", "(Ljava/lang/String;)Z"⟩, 6) := ⟨⟨by decide +kernel, by decide +kernel⟩, List.mem_of_getElem? (i := 115) (by decide +kernel), List.mem_of_getElem? (i := 606) (by decide +kernel), List.mem_of_getElem? (i := 607) (by decide +kernel)⟩
theorem lw_p53 : lw_okq (⟨"GroundTents$Tape", "readTent", "(LGroundTents$Camp;I)Z"⟩, 6) := ⟨⟨by decide +kernel, by decide +kernel⟩, List.mem_of_getElem? (i := 115) (by decide +kernel), List.mem_of_getElem? (i := 658) (by decide +kernel), List.mem_of_getElem? (i := 659) (by decide +kernel)⟩
theorem lw_p54 : lw_okq (⟨"GroundTents$Tape", "readPitch", "(LGroundTents$Tent;)Z"⟩, 6) := ⟨⟨by decide +kernel, by decide +kernel⟩, List.mem_of_getElem? (i := 115) (by decide +kernel), List.mem_of_getElem? (i := 663) (by decide +kernel), List.mem_of_getElem? (i := 664) (by decide +kernel)⟩
theorem lw_p55 : lw_okq (⟨"GroundTents$Tape", "isNumberTo", "(I)Z"⟩, 6) := ⟨⟨by decide +kernel, by decide +kernel⟩, List.mem_of_getElem? (i := 115) (by decide +kernel), List.mem_of_getElem? (i := 668) (by decide +kernel), List.mem_of_getElem? (i := 669) (by decide +kernel)⟩
theorem lw_p56 : lw_okq (⟨"GroundTents$Tape", "readWorn", "(LGroundTents$Tent;)Z"⟩, 6) := ⟨⟨by decide +kernel, by decide +kernel⟩, List.mem_of_getElem? (i := 115) (by decide +kernel), List.mem_of_getElem? (i := 673) (by decide +kernel), List.mem_of_getElem? (i := 674) (by decide +kernel)⟩
theorem lw_p57 : lw_okq (⟨"GroundTents$Tape", "readFelt", "(LGroundTents$Tent;)Z"⟩, 6) := ⟨⟨by decide +kernel, by decide +kernel⟩, List.mem_of_getElem? (i := 115) (by decide +kernel), List.mem_of_getElem? (i := 678) (by decide +kernel), List.mem_of_getElem? (i := 679) (by decide +kernel)⟩
theorem lw_p58 : lw_okq (⟨"GroundTents$Tape", "readHeight", "(LGroundTents$Camp;)Z"⟩, 6) := ⟨⟨by decide +kernel, by decide +kernel⟩, List.mem_of_getElem? (i := 115) (by decide +kernel), List.mem_of_getElem? (i := 684) (by decide +kernel), List.mem_of_getElem? (i := 685) (by decide +kernel)⟩
theorem lw_p59 : lw_okq (⟨"GroundTents$Tape", "readSpring", "(LGroundTents$Camp;I)Z"⟩, 6) := ⟨⟨by decide +kernel, by decide +kernel⟩, List.mem_of_getElem? (i := 115) (by decide +kernel), List.mem_of_getElem? (i := 689) (by decide +kernel), List.mem_of_getElem? (i := 690) (by decide +kernel)⟩
theorem lw_p60 : lw_okq (⟨"GroundTents$Sheet", "renew", "(II)V"⟩, 3) := ⟨⟨by decide +kernel, by decide +kernel⟩, List.mem_of_getElem? (i := 142) (by decide +kernel), List.mem_of_getElem? (i := 714) (by decide +kernel), List.mem_of_getElem? (i := 715) (by decide +kernel)⟩
theorem lw_p61 : lw_okq (⟨"GroundTents$Sheet", "put", "(II)V"⟩, 3) := ⟨⟨by decide +kernel, by decide +kernel⟩, List.mem_of_getElem? (i := 142) (by decide +kernel), List.mem_of_getElem? (i := 723) (by decide +kernel), List.mem_of_getElem? (i := 724) (by decide +kernel)⟩
theorem lw_p62 : lw_okq (⟨"GroundTents$Sheet", "hasRun", "(II)Z"⟩, 3) := ⟨⟨by decide +kernel, by decide +kernel⟩, List.mem_of_getElem? (i := 142) (by decide +kernel), List.mem_of_getElem? (i := 731) (by decide +kernel), List.mem_of_getElem? (i := 732) (by decide +kernel)⟩
theorem lw_p63 : lw_okq (⟨"GroundTents$Camp", "isStep", "(III)Z"⟩, 7) := ⟨⟨by decide +kernel, by decide +kernel⟩, List.mem_of_getElem? (i := 25) (by decide +kernel), List.mem_of_getElem? (i := 744) (by decide +kernel), List.mem_of_getElem? (i := 745) (by decide +kernel)⟩
def lw_privs_4 : List (MethodName × Nat) := [(⟨"GroundTents$Tape", "nextToken", "()V"⟩, 6), (⟨"GroundTents$Tape", "sortAt", "(I)I"⟩, 6), (⟨"GroundTents$Tape", "numberAtHand", "()I"⟩, 6), (⟨"GroundTents$Tape", "readItem", "(LGroundTents$Camp;)Z"⟩, 6), (⟨"GroundTents$Tape", "isWord", "(Ljava/lang/String;)Z"⟩, 6), (⟨"GroundTents$Tape", "readTent", "(LGroundTents$Camp;I)Z"⟩, 6), (⟨"GroundTents$Tape", "readPitch", "(LGroundTents$Tent;)Z"⟩, 6), (⟨"GroundTents$Tape", "isNumberTo", "(I)Z"⟩, 6), (⟨"GroundTents$Tape", "readWorn", "(LGroundTents$Tent;)Z"⟩, 6), (⟨"GroundTents$Tape", "readFelt", "(LGroundTents$Tent;)Z"⟩, 6), (⟨"GroundTents$Tape", "readHeight", "(LGroundTents$Camp;)Z"⟩, 6), (⟨"GroundTents$Tape", "readSpring", "(LGroundTents$Camp;I)Z"⟩, 6), (⟨"GroundTents$Sheet", "renew", "(II)V"⟩, 3), (⟨"GroundTents$Sheet", "put", "(II)V"⟩, 3), (⟨"GroundTents$Sheet", "hasRun", "(II)Z"⟩, 3), (⟨"GroundTents$Camp", "isStep", "(III)Z"⟩, 7)]
theorem lw_r4 : ∀ q ∈ lw_privs_4, lw_okq q := List.forall_mem_cons.mpr ⟨lw_p48, List.forall_mem_cons.mpr ⟨lw_p49, List.forall_mem_cons.mpr ⟨lw_p50, List.forall_mem_cons.mpr ⟨lw_p51, List.forall_mem_cons.mpr ⟨lw_p52, List.forall_mem_cons.mpr ⟨lw_p53, List.forall_mem_cons.mpr ⟨lw_p54, List.forall_mem_cons.mpr ⟨lw_p55, List.forall_mem_cons.mpr ⟨lw_p56, List.forall_mem_cons.mpr ⟨lw_p57, List.forall_mem_cons.mpr ⟨lw_p58, List.forall_mem_cons.mpr ⟨lw_p59, List.forall_mem_cons.mpr ⟨lw_p60, List.forall_mem_cons.mpr ⟨lw_p61, List.forall_mem_cons.mpr ⟨lw_p62, List.forall_mem_cons.mpr ⟨lw_p63, fun _ h => absurd h List.not_mem_nil⟩⟩⟩⟩⟩⟩⟩⟩⟩⟩⟩⟩⟩⟩⟩⟩
theorem lw_p64 : lw_okq (⟨"GroundTents$Camp", "spotsHeld", "()I"⟩, 7) := ⟨⟨by decide +kernel, by decide +kernel⟩, List.mem_of_getElem? (i := 25) (by decide +kernel), List.mem_of_getElem? (i := 770) (by decide +kernel), List.mem_of_getElem? (i := 771) (by decide +kernel)⟩
theorem lw_p65 : lw_okq (⟨"GroundTentsModel", "becomes", "(II)I"⟩, 16) := ⟨⟨by decide +kernel, by decide +kernel⟩, List.mem_of_getElem? (i := 778) (by decide +kernel), List.mem_of_getElem? (i := 848) (by decide +kernel), List.mem_of_getElem? (i := 849) (by decide +kernel)⟩
theorem lw_p66 : lw_okq (⟨"GroundTentsModel", "finds", "(I)I"⟩, 16) := ⟨⟨by decide +kernel, by decide +kernel⟩, List.mem_of_getElem? (i := 778) (by decide +kernel), List.mem_of_getElem? (i := 852) (by decide +kernel), List.mem_of_getElem? (i := 853) (by decide +kernel)⟩
theorem lw_p67 : lw_okq (⟨"GroundTentsModel", "hasSpring", "(I)Z"⟩, 16) := ⟨⟨by decide +kernel, by decide +kernel⟩, List.mem_of_getElem? (i := 778) (by decide +kernel), List.mem_of_getElem? (i := 861) (by decide +kernel), List.mem_of_getElem? (i := 862) (by decide +kernel)⟩
theorem lw_p68 : lw_okq (⟨"GroundTentsModel", "springs", "(II)V"⟩, 16) := ⟨⟨by decide +kernel, by decide +kernel⟩, List.mem_of_getElem? (i := 778) (by decide +kernel), List.mem_of_getElem? (i := 865) (by decide +kernel), List.mem_of_getElem? (i := 866) (by decide +kernel)⟩
theorem lw_p69 : lw_okq (⟨"GroundTentsModel", "tentsOn", "(I)I"⟩, 16) := ⟨⟨by decide +kernel, by decide +kernel⟩, List.mem_of_getElem? (i := 778) (by decide +kernel), List.mem_of_getElem? (i := 874) (by decide +kernel), List.mem_of_getElem? (i := 875) (by decide +kernel)⟩
theorem lw_p70 : lw_okq (⟨"GroundTentsModel", "its", "(II)I"⟩, 16) := ⟨⟨by decide +kernel, by decide +kernel⟩, List.mem_of_getElem? (i := 778) (by decide +kernel), List.mem_of_getElem? (i := 878) (by decide +kernel), List.mem_of_getElem? (i := 879) (by decide +kernel)⟩
theorem lw_p71 : lw_okq (⟨"GroundTentsModel", "covers", "(II)Z"⟩, 16) := ⟨⟨by decide +kernel, by decide +kernel⟩, List.mem_of_getElem? (i := 778) (by decide +kernel), List.mem_of_getElem? (i := 882) (by decide +kernel), List.mem_of_getElem? (i := 883) (by decide +kernel)⟩
theorem lw_p72 : lw_okq (⟨"GroundTentsModel", "steepest", "(I)I"⟩, 16) := ⟨⟨by decide +kernel, by decide +kernel⟩, List.mem_of_getElem? (i := 778) (by decide +kernel), List.mem_of_getElem? (i := 889) (by decide +kernel), List.mem_of_getElem? (i := 890) (by decide +kernel)⟩
theorem lw_p73 : lw_okq (⟨"GroundTentsModel", "adds", "(I)I"⟩, 16) := ⟨⟨by decide +kernel, by decide +kernel⟩, List.mem_of_getElem? (i := 778) (by decide +kernel), List.mem_of_getElem? (i := 906) (by decide +kernel), List.mem_of_getElem? (i := 907) (by decide +kernel)⟩
theorem lw_p74 : lw_okq (⟨"GroundTentsModel", "sets", "(III)V"⟩, 16) := ⟨⟨by decide +kernel, by decide +kernel⟩, List.mem_of_getElem? (i := 778) (by decide +kernel), List.mem_of_getElem? (i := 910) (by decide +kernel), List.mem_of_getElem? (i := 911) (by decide +kernel)⟩
theorem lw_p75 : lw_okq (⟨"GroundTentsModel", "isTent", "(I)Z"⟩, 16) := ⟨⟨by decide +kernel, by decide +kernel⟩, List.mem_of_getElem? (i := 778) (by decide +kernel), List.mem_of_getElem? (i := 918) (by decide +kernel), List.mem_of_getElem? (i := 919) (by decide +kernel)⟩
theorem lw_p76 : lw_okq (⟨"GroundTentsModel", "wears", "(I)I"⟩, 16) := ⟨⟨by decide +kernel, by decide +kernel⟩, List.mem_of_getElem? (i := 778) (by decide +kernel), List.mem_of_getElem? (i := 923) (by decide +kernel), List.mem_of_getElem? (i := 924) (by decide +kernel)⟩
theorem lw_p77 : lw_okq (⟨"GroundTentsModel", "days", "(I)V"⟩, 16) := ⟨⟨by decide +kernel, by decide +kernel⟩, List.mem_of_getElem? (i := 778) (by decide +kernel), List.mem_of_getElem? (i := 947) (by decide +kernel), List.mem_of_getElem? (i := 948) (by decide +kernel)⟩
theorem lw_p78 : lw_okq (⟨"GroundTentsModel", "aDay", "()V"⟩, 16) := ⟨⟨by decide +kernel, by decide +kernel⟩, List.mem_of_getElem? (i := 778) (by decide +kernel), List.mem_of_getElem? (i := 951) (by decide +kernel), List.mem_of_getElem? (i := 952) (by decide +kernel)⟩
theorem lw_p79 : lw_okq (⟨"GroundTentsModel", "pressesOn", "(II)V"⟩, 16) := ⟨⟨by decide +kernel, by decide +kernel⟩, List.mem_of_getElem? (i := 778) (by decide +kernel), List.mem_of_getElem? (i := 955) (by decide +kernel), List.mem_of_getElem? (i := 956) (by decide +kernel)⟩
def lw_privs_5 : List (MethodName × Nat) := [(⟨"GroundTents$Camp", "spotsHeld", "()I"⟩, 7), (⟨"GroundTentsModel", "becomes", "(II)I"⟩, 16), (⟨"GroundTentsModel", "finds", "(I)I"⟩, 16), (⟨"GroundTentsModel", "hasSpring", "(I)Z"⟩, 16), (⟨"GroundTentsModel", "springs", "(II)V"⟩, 16), (⟨"GroundTentsModel", "tentsOn", "(I)I"⟩, 16), (⟨"GroundTentsModel", "its", "(II)I"⟩, 16), (⟨"GroundTentsModel", "covers", "(II)Z"⟩, 16), (⟨"GroundTentsModel", "steepest", "(I)I"⟩, 16), (⟨"GroundTentsModel", "adds", "(I)I"⟩, 16), (⟨"GroundTentsModel", "sets", "(III)V"⟩, 16), (⟨"GroundTentsModel", "isTent", "(I)Z"⟩, 16), (⟨"GroundTentsModel", "wears", "(I)I"⟩, 16), (⟨"GroundTentsModel", "days", "(I)V"⟩, 16), (⟨"GroundTentsModel", "aDay", "()V"⟩, 16), (⟨"GroundTentsModel", "pressesOn", "(II)V"⟩, 16)]
theorem lw_r5 : ∀ q ∈ lw_privs_5, lw_okq q := List.forall_mem_cons.mpr ⟨lw_p64, List.forall_mem_cons.mpr ⟨lw_p65, List.forall_mem_cons.mpr ⟨lw_p66, List.forall_mem_cons.mpr ⟨lw_p67, List.forall_mem_cons.mpr ⟨lw_p68, List.forall_mem_cons.mpr ⟨lw_p69, List.forall_mem_cons.mpr ⟨lw_p70, List.forall_mem_cons.mpr ⟨lw_p71, List.forall_mem_cons.mpr ⟨lw_p72, List.forall_mem_cons.mpr ⟨lw_p73, List.forall_mem_cons.mpr ⟨lw_p74, List.forall_mem_cons.mpr ⟨lw_p75, List.forall_mem_cons.mpr ⟨lw_p76, List.forall_mem_cons.mpr ⟨lw_p77, List.forall_mem_cons.mpr ⟨lw_p78, List.forall_mem_cons.mpr ⟨lw_p79, fun _ h => absurd h List.not_mem_nil⟩⟩⟩⟩⟩⟩⟩⟩⟩⟩⟩⟩⟩⟩⟩⟩
theorem lw_p80 : lw_okq (⟨"GroundTentsModel", "heights", "()I"⟩, 16) := ⟨⟨by decide +kernel, by decide +kernel⟩, List.mem_of_getElem? (i := 778) (by decide +kernel), List.mem_of_getElem? (i := 969) (by decide +kernel), List.mem_of_getElem? (i := 970) (by decide +kernel)⟩
theorem lw_p81 : lw_okq (⟨"GroundTentsModel", "pitched", "()I"⟩, 16) := ⟨⟨by decide +kernel, by decide +kernel⟩, List.mem_of_getElem? (i := 778) (by decide +kernel), List.mem_of_getElem? (i := 977) (by decide +kernel), List.mem_of_getElem? (i := 978) (by decide +kernel)⟩
theorem lw_p82 : lw_okq (⟨"GroundTentsModel", "allWorn", "()I"⟩, 16) := ⟨⟨by decide +kernel, by decide +kernel⟩, List.mem_of_getElem? (i := 778) (by decide +kernel), List.mem_of_getElem? (i := 981) (by decide +kernel), List.mem_of_getElem? (i := 982) (by decide +kernel)⟩
theorem lw_p83 : lw_okq (⟨"GroundTentsModel", "span", "()I"⟩, 16) := ⟨⟨by decide +kernel, by decide +kernel⟩, List.mem_of_getElem? (i := 778) (by decide +kernel), List.mem_of_getElem? (i := 985) (by decide +kernel), List.mem_of_getElem? (i := 986) (by decide +kernel)⟩
theorem lw_p84 : lw_okq (⟨"GroundTentsModel", "walk", "(II)V"⟩, 16) := ⟨⟨by decide +kernel, by decide +kernel⟩, List.mem_of_getElem? (i := 778) (by decide +kernel), List.mem_of_getElem? (i := 996) (by decide +kernel), List.mem_of_getElem? (i := 997) (by decide +kernel)⟩
theorem lw_p85 : lw_okq (⟨"GroundTentsModel", "canStep", "(III)Z"⟩, 16) := ⟨⟨by decide +kernel, by decide +kernel⟩, List.mem_of_getElem? (i := 778) (by decide +kernel), List.mem_of_getElem? (i := 1000) (by decide +kernel), List.mem_of_getElem? (i := 1001) (by decide +kernel)⟩
theorem lw_p86 : lw_okq (⟨"GroundTentsModel", "lends", "()V"⟩, 16) := ⟨⟨by decide +kernel, by decide +kernel⟩, List.mem_of_getElem? (i := 778) (by decide +kernel), List.mem_of_getElem? (i := 1021) (by decide +kernel), List.mem_of_getElem? (i := 1022) (by decide +kernel)⟩
theorem lw_p87 : lw_okq (⟨"GroundTentsModel", "laysBack", "()V"⟩, 16) := ⟨⟨by decide +kernel, by decide +kernel⟩, List.mem_of_getElem? (i := 778) (by decide +kernel), List.mem_of_getElem? (i := 1028) (by decide +kernel), List.mem_of_getElem? (i := 1029) (by decide +kernel)⟩
theorem lw_p88 : lw_okq (⟨"GroundTentsModel", "isThrough", "(III)Z"⟩, 16) := ⟨⟨by decide +kernel, by decide +kernel⟩, List.mem_of_getElem? (i := 778) (by decide +kernel), List.mem_of_getElem? (i := 1040) (by decide +kernel), List.mem_of_getElem? (i := 1041) (by decide +kernel)⟩
theorem lw_p89 : lw_okq (⟨"GroundTentsModel", "orNone", "(II)I"⟩, 16) := ⟨⟨by decide +kernel, by decide +kernel⟩, List.mem_of_getElem? (i := 778) (by decide +kernel), List.mem_of_getElem? (i := 1044) (by decide +kernel), List.mem_of_getElem? (i := 1045) (by decide +kernel)⟩
theorem lw_p90 : lw_okq (⟨"GroundTentsModel", "leavesAll", "()Z"⟩, 16) := ⟨⟨by decide +kernel, by decide +kernel⟩, List.mem_of_getElem? (i := 778) (by decide +kernel), List.mem_of_getElem? (i := 1052) (by decide +kernel), List.mem_of_getElem? (i := 1053) (by decide +kernel)⟩
theorem lw_p91 : lw_okq (⟨"GroundTentsModel", "isLying", "(II)Z"⟩, 16) := ⟨⟨by decide +kernel, by decide +kernel⟩, List.mem_of_getElem? (i := 778) (by decide +kernel), List.mem_of_getElem? (i := 1060) (by decide +kernel), List.mem_of_getElem? (i := 1061) (by decide +kernel)⟩
theorem lw_p92 : lw_okq (⟨"GroundTentsModel", "unlikeBy", "(II)I"⟩, 16) := ⟨⟨by decide +kernel, by decide +kernel⟩, List.mem_of_getElem? (i := 778) (by decide +kernel), List.mem_of_getElem? (i := 1071) (by decide +kernel), List.mem_of_getElem? (i := 1072) (by decide +kernel)⟩
theorem lw_p93 : lw_okq (⟨"GroundTentsModel", "heightsBy", "(III)I"⟩, 16) := ⟨⟨by decide +kernel, by decide +kernel⟩, List.mem_of_getElem? (i := 778) (by decide +kernel), List.mem_of_getElem? (i := 1091) (by decide +kernel), List.mem_of_getElem? (i := 1092) (by decide +kernel)⟩
theorem lw_p94 : lw_okq (⟨"GroundTentsModel", "alone", "(II)V"⟩, 16) := ⟨⟨by decide +kernel, by decide +kernel⟩, List.mem_of_getElem? (i := 778) (by decide +kernel), List.mem_of_getElem? (i := 1095) (by decide +kernel), List.mem_of_getElem? (i := 1096) (by decide +kernel)⟩
theorem lw_p95 : lw_okq (⟨"GroundTentsModel", "isOut", "(III)Z"⟩, 16) := ⟨⟨by decide +kernel, by decide +kernel⟩, List.mem_of_getElem? (i := 778) (by decide +kernel), List.mem_of_getElem? (i := 1103) (by decide +kernel), List.mem_of_getElem? (i := 1104) (by decide +kernel)⟩
def lw_privs_6 : List (MethodName × Nat) := [(⟨"GroundTentsModel", "heights", "()I"⟩, 16), (⟨"GroundTentsModel", "pitched", "()I"⟩, 16), (⟨"GroundTentsModel", "allWorn", "()I"⟩, 16), (⟨"GroundTentsModel", "span", "()I"⟩, 16), (⟨"GroundTentsModel", "walk", "(II)V"⟩, 16), (⟨"GroundTentsModel", "canStep", "(III)Z"⟩, 16), (⟨"GroundTentsModel", "lends", "()V"⟩, 16), (⟨"GroundTentsModel", "laysBack", "()V"⟩, 16), (⟨"GroundTentsModel", "isThrough", "(III)Z"⟩, 16), (⟨"GroundTentsModel", "orNone", "(II)I"⟩, 16), (⟨"GroundTentsModel", "leavesAll", "()Z"⟩, 16), (⟨"GroundTentsModel", "isLying", "(II)Z"⟩, 16), (⟨"GroundTentsModel", "unlikeBy", "(II)I"⟩, 16), (⟨"GroundTentsModel", "heightsBy", "(III)I"⟩, 16), (⟨"GroundTentsModel", "alone", "(II)V"⟩, 16), (⟨"GroundTentsModel", "isOut", "(III)Z"⟩, 16)]
theorem lw_r6 : ∀ q ∈ lw_privs_6, lw_okq q := List.forall_mem_cons.mpr ⟨lw_p80, List.forall_mem_cons.mpr ⟨lw_p81, List.forall_mem_cons.mpr ⟨lw_p82, List.forall_mem_cons.mpr ⟨lw_p83, List.forall_mem_cons.mpr ⟨lw_p84, List.forall_mem_cons.mpr ⟨lw_p85, List.forall_mem_cons.mpr ⟨lw_p86, List.forall_mem_cons.mpr ⟨lw_p87, List.forall_mem_cons.mpr ⟨lw_p88, List.forall_mem_cons.mpr ⟨lw_p89, List.forall_mem_cons.mpr ⟨lw_p90, List.forall_mem_cons.mpr ⟨lw_p91, List.forall_mem_cons.mpr ⟨lw_p92, List.forall_mem_cons.mpr ⟨lw_p93, List.forall_mem_cons.mpr ⟨lw_p94, List.forall_mem_cons.mpr ⟨lw_p95, fun _ h => absurd h List.not_mem_nil⟩⟩⟩⟩⟩⟩⟩⟩⟩⟩⟩⟩⟩⟩⟩⟩
theorem lw_p96 : lw_okq (⟨"GroundTentsModel", "lacksTent", "(II)I"⟩, 16) := ⟨⟨by decide +kernel, by decide +kernel⟩, List.mem_of_getElem? (i := 778) (by decide +kernel), List.mem_of_getElem? (i := 1111) (by decide +kernel), List.mem_of_getElem? (i := 1112) (by decide +kernel)⟩
theorem lw_p97 : lw_okq (⟨"GroundTentsModel", "lacks", "(I)I"⟩, 16) := ⟨⟨by decide +kernel, by decide +kernel⟩, List.mem_of_getElem? (i := 778) (by decide +kernel), List.mem_of_getElem? (i := 1115) (by decide +kernel), List.mem_of_getElem? (i := 1116) (by decide +kernel)⟩
theorem lw_p98 : lw_okq (⟨"GroundTentsModel", "isSo", "(II)Z"⟩, 16) := ⟨⟨by decide +kernel, by decide +kernel⟩, List.mem_of_getElem? (i := 778) (by decide +kernel), List.mem_of_getElem? (i := 1122) (by decide +kernel), List.mem_of_getElem? (i := 1123) (by decide +kernel)⟩
theorem lw_p99 : lw_okq (⟨"GroundTentsModel", "draw", "()I"⟩, 16) := ⟨⟨by decide +kernel, by decide +kernel⟩, List.mem_of_getElem? (i := 778) (by decide +kernel), List.mem_of_getElem? (i := 1135) (by decide +kernel), List.mem_of_getElem? (i := 1136) (by decide +kernel)⟩
theorem lw_p100 : lw_okq (⟨"GroundTentsModel", "dryPitches", "()I"⟩, 16) := ⟨⟨by decide +kernel, by decide +kernel⟩, List.mem_of_getElem? (i := 778) (by decide +kernel), List.mem_of_getElem? (i := 1144) (by decide +kernel), List.mem_of_getElem? (i := 1145) (by decide +kernel)⟩
theorem lw_p101 : lw_okq (⟨"GroundTentsModel", "next", "()V"⟩, 16) := ⟨⟨by decide +kernel, by decide +kernel⟩, List.mem_of_getElem? (i := 778) (by decide +kernel), List.mem_of_getElem? (i := 1165) (by decide +kernel), List.mem_of_getElem? (i := 1166) (by decide +kernel)⟩
theorem lw_p102 : lw_okq (⟨"GroundTentsModel", "isByte", "(III)Z"⟩, 16) := ⟨⟨by decide +kernel, by decide +kernel⟩, List.mem_of_getElem? (i := 778) (by decide +kernel), List.mem_of_getElem? (i := 1169) (by decide +kernel), List.mem_of_getElem? (i := 1170) (by decide +kernel)⟩
theorem lw_p103 : lw_okq (⟨"GroundTentsModel", "item", "()V"⟩, 16) := ⟨⟨by decide +kernel, by decide +kernel⟩, List.mem_of_getElem? (i := 778) (by decide +kernel), List.mem_of_getElem? (i := 1173) (by decide +kernel), List.mem_of_getElem? (i := 1174) (by decide +kernel)⟩
theorem lw_p104 : lw_okq (⟨"GroundTentsModel", "kindHere", "()I"⟩, 16) := ⟨⟨by decide +kernel, by decide +kernel⟩, List.mem_of_getElem? (i := 778) (by decide +kernel), List.mem_of_getElem? (i := 1177) (by decide +kernel), List.mem_of_getElem? (i := 1178) (by decide +kernel)⟩
theorem lw_p105 : lw_okq (⟨"GroundTentsModel", "isWord", "(Ljava/lang/String;)Z"⟩, 16) := ⟨⟨by decide +kernel, by decide +kernel⟩, List.mem_of_getElem? (i := 778) (by decide +kernel), List.mem_of_getElem? (i := 1182) (by decide +kernel), List.mem_of_getElem? (i := 1183) (by decide +kernel)⟩
theorem lw_p106 : lw_okq (⟨"GroundTentsModel", "tentTold", "(I)V"⟩, 16) := ⟨⟨by decide +kernel, by decide +kernel⟩, List.mem_of_getElem? (i := 778) (by decide +kernel), List.mem_of_getElem? (i := 1194) (by decide +kernel), List.mem_of_getElem? (i := 1195) (by decide +kernel)⟩
theorem lw_p107 : lw_okq (⟨"GroundTentsModel", "must", "(Z)V"⟩, 16) := ⟨⟨by decide +kernel, by decide +kernel⟩, List.mem_of_getElem? (i := 778) (by decide +kernel), List.mem_of_getElem? (i := 1198) (by decide +kernel), List.mem_of_getElem? (i := 1199) (by decide +kernel)⟩
theorem lw_p108 : lw_okq (⟨"GroundTentsModel", "takes", "(Ljava/lang/String;)Z"⟩, 16) := ⟨⟨by decide +kernel, by decide +kernel⟩, List.mem_of_getElem? (i := 778) (by decide +kernel), List.mem_of_getElem? (i := 1203) (by decide +kernel), List.mem_of_getElem? (i := 1204) (by decide +kernel)⟩
theorem lw_p109 : lw_okq (⟨"GroundTentsModel", "numberRead", "(II)I"⟩, 16) := ⟨⟨by decide +kernel, by decide +kernel⟩, List.mem_of_getElem? (i := 778) (by decide +kernel), List.mem_of_getElem? (i := 1207) (by decide +kernel), List.mem_of_getElem? (i := 1208) (by decide +kernel)⟩
theorem lw_p110 : lw_okq (⟨"GroundTentsModel", "springTold", "(I)V"⟩, 16) := ⟨⟨by decide +kernel, by decide +kernel⟩, List.mem_of_getElem? (i := 778) (by decide +kernel), List.mem_of_getElem? (i := 1215) (by decide +kernel), List.mem_of_getElem? (i := 1216) (by decide +kernel)⟩
theorem lw_p111 : lw_okq (⟨"GroundTentsModel", "goesOn", "(III)Z"⟩, 16) := ⟨⟨by decide +kernel, by decide +kernel⟩, List.mem_of_getElem? (i := 778) (by decide +kernel), List.mem_of_getElem? (i := 1259) (by decide +kernel), List.mem_of_getElem? (i := 1260) (by decide +kernel)⟩
def lw_privs_7 : List (MethodName × Nat) := [(⟨"GroundTentsModel", "lacksTent", "(II)I"⟩, 16), (⟨"GroundTentsModel", "lacks", "(I)I"⟩, 16), (⟨"GroundTentsModel", "isSo", "(II)Z"⟩, 16), (⟨"GroundTentsModel", "draw", "()I"⟩, 16), (⟨"GroundTentsModel", "dryPitches", "()I"⟩, 16), (⟨"GroundTentsModel", "next", "()V"⟩, 16), (⟨"GroundTentsModel", "isByte", "(III)Z"⟩, 16), (⟨"GroundTentsModel", "item", "()V"⟩, 16), (⟨"GroundTentsModel", "kindHere", "()I"⟩, 16), (⟨"GroundTentsModel", "isWord", "(Ljava/lang/String;)Z"⟩, 16), (⟨"GroundTentsModel", "tentTold", "(I)V"⟩, 16), (⟨"GroundTentsModel", "must", "(Z)V"⟩, 16), (⟨"GroundTentsModel", "takes", "(Ljava/lang/String;)Z"⟩, 16), (⟨"GroundTentsModel", "numberRead", "(II)I"⟩, 16), (⟨"GroundTentsModel", "springTold", "(I)V"⟩, 16), (⟨"GroundTentsModel", "goesOn", "(III)Z"⟩, 16)]
theorem lw_r7 : ∀ q ∈ lw_privs_7, lw_okq q := List.forall_mem_cons.mpr ⟨lw_p96, List.forall_mem_cons.mpr ⟨lw_p97, List.forall_mem_cons.mpr ⟨lw_p98, List.forall_mem_cons.mpr ⟨lw_p99, List.forall_mem_cons.mpr ⟨lw_p100, List.forall_mem_cons.mpr ⟨lw_p101, List.forall_mem_cons.mpr ⟨lw_p102, List.forall_mem_cons.mpr ⟨lw_p103, List.forall_mem_cons.mpr ⟨lw_p104, List.forall_mem_cons.mpr ⟨lw_p105, List.forall_mem_cons.mpr ⟨lw_p106, List.forall_mem_cons.mpr ⟨lw_p107, List.forall_mem_cons.mpr ⟨lw_p108, List.forall_mem_cons.mpr ⟨lw_p109, List.forall_mem_cons.mpr ⟨lw_p110, List.forall_mem_cons.mpr ⟨lw_p111, fun _ h => absurd h List.not_mem_nil⟩⟩⟩⟩⟩⟩⟩⟩⟩⟩⟩⟩⟩⟩⟩⟩
theorem lw_p112 : lw_okq (⟨"GroundTentsModel", "held", "()I"⟩, 16) := ⟨⟨by decide +kernel, by decide +kernel⟩, List.mem_of_getElem? (i := 778) (by decide +kernel), List.mem_of_getElem? (i := 1282) (by decide +kernel), List.mem_of_getElem? (i := 1283) (by decide +kernel)⟩
def lw_privs_8 : List (MethodName × Nat) := [(⟨"GroundTentsModel", "held", "()I"⟩, 16)]
theorem lw_r8 : ∀ q ∈ lw_privs_8, lw_okq q := List.forall_mem_cons.mpr ⟨lw_p112, fun _ h => absurd h List.not_mem_nil⟩
def lw_privs : List (MethodName × Nat) := lw_privs_1 ++ (lw_privs_2 ++ (lw_privs_3 ++ (lw_privs_4 ++ (lw_privs_5 ++ (lw_privs_6 ++ (lw_privs_7 ++ (lw_privs_8)))))))
def lw_tbl : List Cond := k2_sels lw_privs ++ tables_1
theorem lw_privs_ok : ∀ q ∈ lw_privs, lw_okq q := by
  show ∀ q ∈ lw_privs_1 ++ (lw_privs_2 ++ (lw_privs_3 ++ (lw_privs_4 ++ (lw_privs_5 ++ (lw_privs_6 ++ (lw_privs_7 ++ (lw_privs_8))))))), lw_okq q
  exact List.forall_mem_append.mpr ⟨lw_r1, List.forall_mem_append.mpr ⟨lw_r2, List.forall_mem_append.mpr ⟨lw_r3, List.forall_mem_append.mpr ⟨lw_r4, List.forall_mem_append.mpr ⟨lw_r5, List.forall_mem_append.mpr ⟨lw_r6, List.forall_mem_append.mpr ⟨lw_r7, lw_r8⟩⟩⟩⟩⟩⟩⟩
-- ===== end of PART A; then your names; then what follows =====
def RX0 : String := "GroundTents$Camp"
def TX0 : u_T := fun k => match k with
  | 0 => ("GroundTents$Camp", "heights", "[I", true)
  | 1 => ("GroundTents$Camp", "spots", "[I", true)
  | 2 => ("GroundTents$Camp", "tents", "[LGroundTents$Tent;", true)
  | 3 => ("GroundTents$Camp", "size", "I", false)
  | 4 => ("GroundTents$Camp", "springs", "I", false)
  | 5 => ("GroundTents$Camp", "day", "I", false)
  | _ => ("GroundTents$Camp", "z", "I", false)
def tyX0 : Nat → FieldType := fun k => match k with
  | 0 => .array .int
  | 1 => .array .int
  | 2 => .array (.object "GroundTents$Tent")
  | 3 => .int
  | 4 => .int
  | 5 => .int
  | _ => .int
abbrev wsX00 : List Cond := u_ws RX0 TX0 7
theorem nmX0 : ∀ a, a < 7 → ∀ b, b < 7 → a ≠ b → (TX0 a).2.1 ≠ (TX0 b).2.1 := by decide +kernel
theorem tyX0_ok : ∀ k, k < 7 → parseFieldDescriptor (TX0 k).2.2.1 = some (tyX0 k) := by decide +kernel
abbrev cX0_init : ByteArray := prog_2_method_1_code
def yX0_init : MethodName := ⟨RX0, "<init>", "()V"⟩
abbrev cX0_becomeLike : ByteArray := prog_2_method_2_code
def yX0_becomeLike : MethodName := ⟨RX0, "becomeLike", "(LGroundTents$Camp;)V"⟩
abbrev cX0_addTent : ByteArray := prog_2_method_3_code
def yX0_addTent : MethodName := ⟨RX0, "addTent", "(I)V"⟩
abbrev cX0_pitchAlone : ByteArray := prog_2_method_4_code
def yX0_pitchAlone : MethodName := ⟨RX0, "pitchAlone", "(II)V"⟩
abbrev cX0_draw : ByteArray := prog_2_method_5_code
def yX0_draw : MethodName := ⟨RX0, "draw", "()I"⟩
abbrev cX0_passDays : ByteArray := prog_2_method_6_code
def yX0_passDays : MethodName := ⟨RX0, "passDays", "(I)V"⟩
abbrev cX0_passDay : ByteArray := prog_2_method_7_code
def yX0_passDay : MethodName := ⟨RX0, "passDay", "()V"⟩
abbrev cX0_pressAndTake : ByteArray := prog_2_method_8_code
def yX0_pressAndTake : MethodName := ⟨RX0, "pressAndTake", "(LGroundTents$Tent;)V"⟩
abbrev cX0_springAt : ByteArray := prog_2_method_9_code
def yX0_springAt : MethodName := ⟨RX0, "springAt", "(I)I"⟩
abbrev cX0_setSpring : ByteArray := prog_2_method_10_code
def yX0_setSpring : MethodName := ⟨RX0, "setSpring", "(II)V"⟩
abbrev cX0_tentsOver : ByteArray := prog_2_method_11_code
def yX0_tentsOver : MethodName := ⟨RX0, "tentsOver", "(I)I"⟩
abbrev cX0_cellsUnder : ByteArray := prog_2_method_12_code
def yX0_cellsUnder : MethodName := ⟨RX0, "cellsUnder", "(I)I"⟩
abbrev cX0_dryPitches : ByteArray := prog_2_method_13_code
def yX0_dryPitches : MethodName := ⟨RX0, "dryPitches", "()I"⟩
abbrev cX0_steepnessAt : ByteArray := prog_2_method_14_code
def yX0_steepnessAt : MethodName := ⟨RX0, "steepnessAt", "(I)I"⟩
abbrev cX0_climbBetween : ByteArray := prog_2_method_15_code
def yX0_climbBetween : MethodName := ⟨RX0, "climbBetween", "(II)I"⟩
abbrev cX0_isStep : ByteArray := prog_2_method_16_code
def yX0_isStep : MethodName := ⟨RX0, "isStep", "(III)Z"⟩
abbrev cX0_heightSum : ByteArray := prog_2_method_17_code
def yX0_heightSum : MethodName := ⟨RX0, "heightSum", "()I"⟩
abbrev cX0_relief : ByteArray := prog_2_method_18_code
def yX0_relief : MethodName := ⟨RX0, "relief", "()I"⟩
abbrev cX0_liesAs : ByteArray := prog_2_method_19_code
def yX0_liesAs : MethodName := ⟨RX0, "liesAs", "([I)Z"⟩
abbrev cX0_pitchedSet : ByteArray := prog_2_method_20_code
def yX0_pitchedSet : MethodName := ⟨RX0, "pitchedSet", "()I"⟩
abbrev cX0_wornSum : ByteArray := prog_2_method_21_code
def yX0_wornSum : MethodName := ⟨RX0, "wornSum", "()I"⟩
abbrev cX0_spotsHeld : ByteArray := prog_2_method_22_code
def yX0_spotsHeld : MethodName := ⟨RX0, "spotsHeld", "()I"⟩
abbrev cX0_gap : ByteArray := prog_2_method_23_code
def yX0_gap : MethodName := ⟨RX0, "gap", "(LGroundTents$Tent;II)I"⟩
abbrev cX0_unlikeness : ByteArray := prog_2_method_24_code
def yX0_unlikeness : MethodName := ⟨RX0, "unlikeness", "(LGroundTents$Tent;I)I"⟩
abbrev cX0_greatestGap : ByteArray := prog_2_method_25_code
def yX0_greatestGap : MethodName := ⟨RX0, "greatestGap", "(LGroundTents$Tent;)I"⟩
def RX1 : String := "GroundTents$Flock"
def TX1 : u_T := fun k => match k with
  | 0 => ("GroundTents$Flock", "steps", "[I", true)
  | 1 => ("GroundTents$Flock", "queue", "[I", true)
  | 2 => ("GroundTents$Flock", "needs", "[I", true)
  | _ => ("GroundTents$Flock", "settled", "I", false)
def tyX1 : Nat → FieldType := fun k => match k with
  | 0 => .array .int
  | 1 => .array .int
  | 2 => .array .int
  | _ => .int
abbrev wsX10 : List Cond := u_ws RX1 TX1 4
theorem nmX1 : ∀ a, a < 4 → ∀ b, b < 4 → a ≠ b → (TX1 a).2.1 ≠ (TX1 b).2.1 := by decide +kernel
theorem tyX1_ok : ∀ k, k < 4 → parseFieldDescriptor (TX1 k).2.2.1 = some (tyX1 k) := by decide +kernel
abbrev cX1_init : ByteArray := prog_3_method_1_code
def yX1_init : MethodName := ⟨RX1, "<init>", "()V"⟩
abbrev cX1_stepsBetween : ByteArray := prog_3_method_2_code
def yX1_stepsBetween : MethodName := ⟨RX1, "stepsBetween", "(LGroundTents$Camp;III)I"⟩
abbrev cX1_roam : ByteArray := prog_3_method_3_code
def yX1_roam : MethodName := ⟨RX1, "roam", "(LGroundTents$Camp;II)V"⟩
abbrev cX1_reachedSet : ByteArray := prog_3_method_4_code
def yX1_reachedSet : MethodName := ⟨RX1, "reachedSet", "()I"⟩
abbrev cX1_nearestOf : ByteArray := prog_3_method_5_code
def yX1_nearestOf : MethodName := ⟨RX1, "nearestOf", "(I)I"⟩
abbrev cX1_leastClimb : ByteArray := prog_3_method_6_code
def yX1_leastClimb : MethodName := ⟨RX1, "leastClimb", "(LGroundTents$Camp;II)I"⟩
abbrev cX1_isSettled : ByteArray := prog_3_method_7_code
def yX1_isSettled : MethodName := ⟨RX1, "isSettled", "(I)Z"⟩
abbrev cX1_easiest : ByteArray := prog_3_method_8_code
def yX1_easiest : MethodName := ⟨RX1, "easiest", "()I"⟩
def RX2 : String := "GroundTents$Sheet"
def TX2 : u_T := fun k => match k with
  | 0 => ("GroundTents$Sheet", "bits", "I", false)
  | 1 => ("GroundTents$Sheet", "size", "I", false)
  | _ => ("GroundTents$Sheet", "numbers", "[I", true)
def tyX2 : Nat → FieldType := fun k => match k with
  | 0 => .int
  | 1 => .int
  | _ => .array .int
abbrev wsX20 : List Cond := u_ws RX2 TX2 3
theorem nmX2 : ∀ a, a < 3 → ∀ b, b < 3 → a ≠ b → (TX2 a).2.1 ≠ (TX2 b).2.1 := by decide +kernel
theorem tyX2_ok : ∀ k, k < 3 → parseFieldDescriptor (TX2 k).2.2.1 = some (tyX2 k) := by decide +kernel
abbrev cX2_init : ByteArray := prog_4_method_1_code
def yX2_init : MethodName := ⟨RX2, "<init>", "()V"⟩
abbrev cX2_isMissing : ByteArray := prog_4_method_2_code
def yX2_isMissing : MethodName := ⟨RX2, "isMissing", "()Z"⟩
abbrev cX2_renew : ByteArray := prog_4_method_3_code
def yX2_renew : MethodName := ⟨RX2, "renew", "(II)V"⟩
abbrev cX2_put : ByteArray := prog_4_method_4_code
def yX2_put : MethodName := ⟨RX2, "put", "(II)V"⟩
abbrev cX2_hasRun : ByteArray := prog_4_method_5_code
def yX2_hasRun : MethodName := ⟨RX2, "hasRun", "(II)Z"⟩
abbrev cX2_tells : ByteArray := prog_4_method_6_code
def yX2_tells : MethodName := ⟨RX2, "tells", "([I)Z"⟩
def RX3 : String := "GroundTents$Tape"
def TX3 : u_T := fun k => match k with
  | 0 => ("GroundTents$Tape", "bytes", "[I", true)
  | 1 => ("GroundTents$Tape", "length", "I", false)
  | 2 => ("GroundTents$Tape", "sort", "I", false)
  | 3 => ("GroundTents$Tape", "begin", "I", false)
  | 4 => ("GroundTents$Tape", "end", "I", false)
  | _ => ("GroundTents$Tape", "value", "I", false)
def tyX3 : Nat → FieldType := fun k => match k with
  | 0 => .array .int
  | 1 => .int
  | 2 => .int
  | 3 => .int
  | 4 => .int
  | _ => .int
abbrev wsX30 : List Cond := u_ws RX3 TX3 6
theorem nmX3 : ∀ a, a < 6 → ∀ b, b < 6 → a ≠ b → (TX3 a).2.1 ≠ (TX3 b).2.1 := by decide +kernel
theorem tyX3_ok : ∀ k, k < 6 → parseFieldDescriptor (TX3 k).2.2.1 = some (tyX3 k) := by decide +kernel
abbrev cX3_init : ByteArray := prog_5_method_1_code
def yX3_init : MethodName := ⟨RX3, "<init>", "()V"⟩
abbrev cX3_append : ByteArray := prog_5_method_2_code
def yX3_append : MethodName := ⟨RX3, "append", "(I)V"⟩
abbrev cX3_readText : ByteArray := prog_5_method_3_code
def yX3_readText : MethodName := ⟨RX3, "readText", "(LGroundTents$Camp;)I"⟩
abbrev cX3_readItem : ByteArray := prog_5_method_4_code
def yX3_readItem : MethodName := ⟨RX3, "readItem", "(LGroundTents$Camp;)Z"⟩
abbrev cX3_nameOf : ByteArray := prog_5_method_5_code
def yX3_nameOf : MethodName := ⟨RX3, "nameOf", "(I)Ljava/lang/String;"⟩
abbrev cX3_readTent : ByteArray := prog_5_method_6_code
def yX3_readTent : MethodName := ⟨RX3, "readTent", "(LGroundTents$Camp;I)Z"⟩
abbrev cX3_readPitch : ByteArray := prog_5_method_7_code
def yX3_readPitch : MethodName := ⟨RX3, "readPitch", "(LGroundTents$Tent;)Z"⟩
abbrev cX3_readWorn : ByteArray := prog_5_method_8_code
def yX3_readWorn : MethodName := ⟨RX3, "readWorn", "(LGroundTents$Tent;)Z"⟩
abbrev cX3_readFelt : ByteArray := prog_5_method_9_code
def yX3_readFelt : MethodName := ⟨RX3, "readFelt", "(LGroundTents$Tent;)Z"⟩
abbrev cX3_readHeight : ByteArray := prog_5_method_10_code
def yX3_readHeight : MethodName := ⟨RX3, "readHeight", "(LGroundTents$Camp;)Z"⟩
abbrev cX3_readSpring : ByteArray := prog_5_method_11_code
def yX3_readSpring : MethodName := ⟨RX3, "readSpring", "(LGroundTents$Camp;I)Z"⟩
abbrev cX3_isNumberTo : ByteArray := prog_5_method_12_code
def yX3_isNumberTo : MethodName := ⟨RX3, "isNumberTo", "(I)Z"⟩
abbrev cX3_isWord : ByteArray := prog_5_method_13_code
def yX3_isWord : MethodName := ⟨RX3, "isWord", "(Ljava/lang/String;)Z"⟩
abbrev cX3_nextToken : ByteArray := prog_5_method_14_code
def yX3_nextToken : MethodName := ⟨RX3, "nextToken", "()V"⟩
abbrev cX3_sortAt : ByteArray := prog_5_method_15_code
def yX3_sortAt : MethodName := ⟨RX3, "sortAt", "(I)I"⟩
abbrev cX3_numberAtHand : ByteArray := prog_5_method_16_code
def yX3_numberAtHand : MethodName := ⟨RX3, "numberAtHand", "()I"⟩
def RX4 : String := "GroundTents$Tent"
def TX4 : u_T := fun k => match k with
  | 0 => ("GroundTents$Tent", "kind", "I", false)
  | 1 => ("GroundTents$Tent", "pitch", "I", false)
  | 2 => ("GroundTents$Tent", "worn", "I", false)
  | _ => ("GroundTents$Tent", "felt", "[I", true)
def tyX4 : Nat → FieldType := fun k => match k with
  | 0 => .int
  | 1 => .int
  | 2 => .int
  | _ => .array .int
abbrev wsX40 : List Cond := u_ws RX4 TX4 4
theorem nmX4 : ∀ a, a < 4 → ∀ b, b < 4 → a ≠ b → (TX4 a).2.1 ≠ (TX4 b).2.1 := by decide +kernel
theorem tyX4_ok : ∀ k, k < 4 → parseFieldDescriptor (TX4 k).2.2.1 = some (tyX4 k) := by decide +kernel
abbrev cX4_init : ByteArray := prog_6_method_1_code
def yX4_init : MethodName := ⟨RX4, "<init>", "()V"⟩
abbrev cX4_renew : ByteArray := prog_6_method_2_code
def yX4_renew : MethodName := ⟨RX4, "renew", "(I)V"⟩
abbrev cX4_becomeLike : ByteArray := prog_6_method_3_code
def yX4_becomeLike : MethodName := ⟨RX4, "becomeLike", "(LGroundTents$Tent;)V"⟩
abbrev cX4_isPitched : ByteArray := prog_6_method_4_code
def yX4_isPitched : MethodName := ⟨RX4, "isPitched", "()Z"⟩
abbrev cX4_trait : ByteArray := prog_6_method_5_code
def yX4_trait : MethodName := ⟨RX4, "trait", "(I)I"⟩
abbrev cX4_mayBecome : ByteArray := prog_6_method_6_code
def yX4_mayBecome : MethodName := ⟨RX4, "mayBecome", "(II)Z"⟩
abbrev cX4_setTrait : ByteArray := prog_6_method_7_code
def yX4_setTrait : MethodName := ⟨RX4, "setTrait", "(II)V"⟩
abbrev cX4_forget : ByteArray := prog_6_method_8_code
def yX4_forget : MethodName := ⟨RX4, "forget", "()I"⟩
abbrev cX4_keepsNear : ByteArray := prog_6_method_9_code
def yX4_keepsNear : MethodName := ⟨RX4, "keepsNear", "(II)Z"⟩
abbrev cX4_wearOut : ByteArray := prog_6_method_10_code
def yX4_wearOut : MethodName := ⟨RX4, "wearOut", "()V"⟩
abbrev cX4_wear : ByteArray := prog_6_method_11_code
def yX4_wear : MethodName := ⟨RX4, "wear", "()I"⟩
abbrev cX4_pressed : ByteArray := prog_6_method_12_code
def yX4_pressed : MethodName := ⟨RX4, "pressed", "(II)I"⟩
abbrev cX4_patchedPress : ByteArray := prog_6_method_13_code
def yX4_patchedPress : MethodName := ⟨RX4, "patchedPress", "(II)I"⟩
abbrev cX4_taken : ByteArray := prog_6_method_14_code
def yX4_taken : MethodName := ⟨RX4, "taken", "(II)I"⟩
abbrev cX4_isUnder : ByteArray := prog_6_method_15_code
def yX4_isUnder : MethodName := ⟨RX4, "isUnder", "(II)Z"⟩
abbrev cX4_kindAbove : ByteArray := prog_6_method_16_code
def yX4_kindAbove : MethodName := ⟨RX4, "kindAbove", "(I)I"⟩
def RX5 : String := "GroundTents"
def TX5 : u_T := fun k => match k with
  | 0 => ("GroundTents", "camp", "LGroundTents$Camp;", true)
  | 1 => ("GroundTents", "image", "LGroundTents$Camp;", true)
  | 2 => ("GroundTents", "trial", "LGroundTents$Camp;", true)
  | 3 => ("GroundTents", "flock", "LGroundTents$Flock;", true)
  | 4 => ("GroundTents", "tape", "LGroundTents$Tape;", true)
  | 5 => ("GroundTents", "sheets", "[LGroundTents$Sheet;", true)
  | 6 => ("GroundTents", "found", "[I", true)
  | 7 => ("GroundTents", "earlier", "[I", true)
  | _ => ("GroundTents", "imageKept", "Z", false)
def tyX5 : Nat → FieldType := fun k => match k with
  | 0 => .object "GroundTents$Camp"
  | 1 => .object "GroundTents$Camp"
  | 2 => .object "GroundTents$Camp"
  | 3 => .object "GroundTents$Flock"
  | 4 => .object "GroundTents$Tape"
  | 5 => .array (.object "GroundTents$Sheet")
  | 6 => .array .int
  | 7 => .array .int
  | _ => .boolean
abbrev wsX50 : List Cond := u_ws RX5 TX5 9
theorem nmX5 : ∀ a, a < 9 → ∀ b, b < 9 → a ≠ b → (TX5 a).2.1 ≠ (TX5 b).2.1 := by decide +kernel
theorem tyX5_ok : ∀ k, k < 9 → parseFieldDescriptor (TX5 k).2.2.1 = some (tyX5 k) := by decide +kernel
abbrev cX5_init : ByteArray := prog_1_method_1_code
def yX5_init : MethodName := ⟨RX5, "<init>", "()V"⟩
abbrev cX5_height : ByteArray := prog_1_method_2_code
def yX5_height : MethodName := ⟨RX5, "height", "(II)I"⟩
abbrev cX5_spring : ByteArray := prog_1_method_3_code
def yX5_spring : MethodName := ⟨RX5, "spring", "(II)I"⟩
abbrev cX5_cell : ByteArray := prog_1_method_4_code
def yX5_cell : MethodName := ⟨RX5, "cell", "(II)I"⟩
abbrev cX5_tent : ByteArray := prog_1_method_5_code
def yX5_tent : MethodName := ⟨RX5, "tent", "(I)I"⟩
abbrev cX5_of : ByteArray := prog_1_method_6_code
def yX5_of : MethodName := ⟨RX5, "of", "(II)I"⟩
abbrev cX5_change : ByteArray := prog_1_method_7_code
def yX5_change : MethodName := ⟨RX5, "change", "(III)I"⟩
abbrev cX5_beat : ByteArray := prog_1_method_8_code
def yX5_beat : MethodName := ⟨RX5, "beat", "(I)I"⟩
abbrev cX5_go : ByteArray := prog_1_method_9_code
def yX5_go : MethodName := ⟨RX5, "go", "(I)I"⟩
abbrev cX5_now : ByteArray := prog_1_method_10_code
def yX5_now : MethodName := ⟨RX5, "now", "(I)I"⟩
abbrev cX5_way : ByteArray := prog_1_method_11_code
def yX5_way : MethodName := ⟨RX5, "way", "(III)I"⟩
abbrev cX5_climb : ByteArray := prog_1_method_12_code
def yX5_climb : MethodName := ⟨RX5, "climb", "(II)I"⟩
abbrev cX5_reach : ByteArray := prog_1_method_13_code
def yX5_reach : MethodName := ⟨RX5, "reach", "(II)I"⟩
abbrev cX5_drink : ByteArray := prog_1_method_14_code
def yX5_drink : MethodName := ⟨RX5, "drink", "(II)I"⟩
abbrev cX5_ahead : ByteArray := prog_1_method_15_code
def yX5_ahead : MethodName := ⟨RX5, "ahead", "(II)I"⟩
abbrev cX5_felt : ByteArray := prog_1_method_16_code
def yX5_felt : MethodName := ⟨RX5, "felt", "(III)I"⟩
abbrev cX5_when : ByteArray := prog_1_method_17_code
def yX5_when : MethodName := ⟨RX5, "when", "(III)I"⟩
abbrev cX5_settles : ByteArray := prog_1_method_18_code
def yX5_settles : MethodName := ⟨RX5, "settles", "()I"⟩
abbrev cX5_lies : ByteArray := prog_1_method_19_code
def yX5_lies : MethodName := ⟨RX5, "lies", "(II)I"⟩
abbrev cX5_unlike : ByteArray := prog_1_method_20_code
def yX5_unlike : MethodName := ⟨RX5, "unlike", "(II)I"⟩
abbrev cX5_home : ByteArray := prog_1_method_21_code
def yX5_home : MethodName := ⟨RX5, "home", "(I)I"⟩
abbrev cX5_pitchFor : ByteArray := prog_1_method_22_code
def yX5_pitchFor : MethodName := ⟨RX5, "pitchFor", "(IIII)I"⟩
abbrev cX5_kindFor : ByteArray := prog_1_method_23_code
def yX5_kindFor : MethodName := ⟨RX5, "kindFor", "(II)I"⟩
abbrev cX5_first : ByteArray := prog_1_method_24_code
def yX5_first : MethodName := ⟨RX5, "first", "(III)I"⟩
abbrev cX5_out : ByteArray := prog_1_method_25_code
def yX5_out : MethodName := ⟨RX5, "out", "(IIII)I"⟩
abbrev cX5_fits : ByteArray := prog_1_method_26_code
def yX5_fits : MethodName := ⟨RX5, "fits", "(II)I"⟩
abbrev cX5_kinds : ByteArray := prog_1_method_27_code
def yX5_kinds : MethodName := ⟨RX5, "kinds", "(II)I"⟩
abbrev cX5_nomads : ByteArray := prog_1_method_28_code
def yX5_nomads : MethodName := ⟨RX5, "nomads", "(I)I"⟩
abbrev cX5_odds : ByteArray := prog_1_method_29_code
def yX5_odds : MethodName := ⟨RX5, "odds", "(II)J"⟩
abbrev cX5_seed : ByteArray := prog_1_method_30_code
def yX5_seed : MethodName := ⟨RX5, "seed", "(I)I"⟩
abbrev cX5_feed : ByteArray := prog_1_method_31_code
def yX5_feed : MethodName := ⟨RX5, "feed", "(II)I"⟩
abbrev cX5_wipe : ByteArray := prog_1_method_32_code
def yX5_wipe : MethodName := ⟨RX5, "wipe", "()I"⟩
abbrev cX5_text : ByteArray := prog_1_method_33_code
def yX5_text : MethodName := ⟨RX5, "text", "()I"⟩
abbrev cX5_hold : ByteArray := prog_1_method_34_code
def yX5_hold : MethodName := ⟨RX5, "hold", "(II)I"⟩
abbrev cX5_as : ByteArray := prog_1_method_35_code
def yX5_as : MethodName := ⟨RX5, "as", "(II)I"⟩
abbrev cX5_sheet : ByteArray := prog_1_method_36_code
def yX5_sheet : MethodName := ⟨RX5, "sheet", "(III)I"⟩
abbrev cX5_write : ByteArray := prog_1_method_37_code
def yX5_write : MethodName := ⟨RX5, "write", "(III)I"⟩
abbrev cX5_copy : ByteArray := prog_1_method_38_code
def yX5_copy : MethodName := ⟨RX5, "copy", "(IIIII)I"⟩
abbrev cX5_load : ByteArray := prog_1_method_39_code
def yX5_load : MethodName := ⟨RX5, "load", "(I)I"⟩
abbrev cX5_judge : ByteArray := prog_1_method_40_code
def yX5_judge : MethodName := ⟨RX5, "judge", "(II)I"⟩
abbrev cX5_image : ByteArray := prog_1_method_41_code
def yX5_image : MethodName := ⟨RX5, "image", "()I"⟩
abbrev cX5_undo : ByteArray := prog_1_method_42_code
def yX5_undo : MethodName := ⟨RX5, "undo", "()I"⟩
abbrev cX5_tear : ByteArray := prog_1_method_43_code
def yX5_tear : MethodName := ⟨RX5, "tear", "()I"⟩
abbrev cX5_count : ByteArray := prog_1_method_44_code
def yX5_count : MethodName := ⟨RX5, "count", "(I)I"⟩
abbrev cX5_status : ByteArray := prog_1_method_45_code
def yX5_status : MethodName := ⟨RX5, "status", "(I)I"⟩
abbrev cX5_finding : ByteArray := prog_1_method_46_code
def yX5_finding : MethodName := ⟨RX5, "finding", "(I)I"⟩
abbrev cX5_within : ByteArray := prog_1_method_47_code
def yX5_within : MethodName := ⟨RX5, "within", "(III)Z"⟩
abbrev cX5_isCell : ByteArray := prog_1_method_48_code
def yX5_isCell : MethodName := ⟨RX5, "isCell", "(I)Z"⟩
abbrev cX5_isPitch : ByteArray := prog_1_method_49_code
def yX5_isPitch : MethodName := ⟨RX5, "isPitch", "(I)Z"⟩
abbrev cX5_isKind : ByteArray := prog_1_method_50_code
def yX5_isKind : MethodName := ⟨RX5, "isKind", "(I)Z"⟩
abbrev cX5_isSheet : ByteArray := prog_1_method_51_code
def yX5_isSheet : MethodName := ⟨RX5, "isSheet", "(I)Z"⟩
abbrev cX5_isMeasure : ByteArray := prog_1_method_52_code
def yX5_isMeasure : MethodName := ⟨RX5, "isMeasure", "(I)Z"⟩
abbrev cX5_isTent : ByteArray := prog_1_method_53_code
def yX5_isTent : MethodName := ⟨RX5, "isTent", "(I)Z"⟩
abbrev cX5_lackOf : ByteArray := prog_1_method_54_code
def yX5_lackOf : MethodName := ⟨RX5, "lackOf", "(I)I"⟩
abbrev cX5_supposeAlone : ByteArray := prog_1_method_55_code
def yX5_supposeAlone : MethodName := ⟨RX5, "supposeAlone", "(II)V"⟩
abbrev cX5_sumAfterBoth : ByteArray := prog_1_method_56_code
def yX5_sumAfterBoth : MethodName := ⟨RX5, "sumAfterBoth", "(III)I"⟩
abbrev cX5_power : ByteArray := prog_1_method_57_code
def yX5_power : MethodName := ⟨RX5, "power", "(JI)J"⟩
abbrev cX5_cellUnder : ByteArray := prog_1_method_58_code
def yX5_cellUnder : MethodName := ⟨RX5, "cellUnder", "(II)I"⟩
abbrev cX5_neighbour : ByteArray := prog_1_method_59_code
def yX5_neighbour : MethodName := ⟨RX5, "neighbour", "(II)I"⟩
def RX6 : String := "GroundTentsModel"
def TX6 : u_T := fun k => match k with
  | 0 => ("GroundTentsModel", "s", "[I", true)
  | 1 => ("GroundTentsModel", "kept", "[I", true)
  | 2 => ("GroundTentsModel", "aside", "[I", true)
  | 3 => ("GroundTentsModel", "isKept", "Z", false)
  | 4 => ("GroundTentsModel", "found", "[I", true)
  | 5 => ("GroundTentsModel", "far", "[I", true)
  | 6 => ("GroundTentsModel", "before", "[I", true)
  | 7 => ("GroundTentsModel", "tape", "[I", true)
  | 8 => ("GroundTentsModel", "taped", "I", false)
  | 9 => ("GroundTentsModel", "from", "I", false)
  | 10 => ("GroundTentsModel", "to", "I", false)
  | 11 => ("GroundTentsModel", "isWrong", "Z", false)
  | 12 => ("GroundTentsModel", "bitsOf", "[I", true)
  | 13 => ("GroundTentsModel", "sizeOf", "[I", true)
  | 14 => ("GroundTentsModel", "number", "[I", true)
  | _ => ("GroundTentsModel", "moved", "[I", true)
def tyX6 : Nat → FieldType := fun k => match k with
  | 0 => .array .int
  | 1 => .array .int
  | 2 => .array .int
  | 3 => .boolean
  | 4 => .array .int
  | 5 => .array .int
  | 6 => .array .int
  | 7 => .array .int
  | 8 => .int
  | 9 => .int
  | 10 => .int
  | 11 => .boolean
  | 12 => .array .int
  | 13 => .array .int
  | 14 => .array .int
  | _ => .array .int
abbrev wsX60 : List Cond := u_ws RX6 TX6 16
theorem nmX6 : ∀ a, a < 16 → ∀ b, b < 16 → a ≠ b → (TX6 a).2.1 ≠ (TX6 b).2.1 := by decide +kernel
theorem tyX6_ok : ∀ k, k < 16 → parseFieldDescriptor (TX6 k).2.2.1 = some (tyX6 k) := by decide +kernel
abbrev cX6_init : ByteArray := prog_8_method_1_code
def yX6_init : MethodName := ⟨RX6, "<init>", "()V"⟩
abbrev cX6_finds : ByteArray := prog_8_method_2_code
def yX6_finds : MethodName := ⟨RX6, "finds", "(I)I"⟩
abbrev cX6_in : ByteArray := prog_8_method_3_code
def yX6_in : MethodName := ⟨RX6, "in", "(JJJ)Z"⟩
abbrev cX6_become : ByteArray := prog_8_method_4_code
def yX6_become : MethodName := ⟨RX6, "become", "([I[I)V"⟩
abbrev cX6_lends : ByteArray := prog_8_method_5_code
def yX6_lends : MethodName := ⟨RX6, "lends", "()V"⟩
abbrev cX6_laysBack : ByteArray := prog_8_method_6_code
def yX6_laysBack : MethodName := ⟨RX6, "laysBack", "()V"⟩
abbrev cX6_isTent : ByteArray := prog_8_method_7_code
def yX6_isTent : MethodName := ⟨RX6, "isTent", "(I)Z"⟩
abbrev cX6_isCell : ByteArray := prog_8_method_8_code
def yX6_isCell : MethodName := ⟨RX6, "isCell", "(I)Z"⟩
abbrev cX6_isPitch : ByteArray := prog_8_method_9_code
def yX6_isPitch : MethodName := ⟨RX6, "isPitch", "(I)Z"⟩
abbrev cX6_isHigh : ByteArray := prog_8_method_10_code
def yX6_isHigh : MethodName := ⟨RX6, "isHigh", "(I)Z"⟩
abbrev cX6_held : ByteArray := prog_8_method_11_code
def yX6_held : MethodName := ⟨RX6, "held", "(I)I"⟩
abbrev cX6_its : ByteArray := prog_8_method_12_code
def yX6_its : MethodName := ⟨RX6, "its", "(II)I"⟩
abbrev cX6_sets : ByteArray := prog_8_method_13_code
def yX6_sets : MethodName := ⟨RX6, "sets", "(III)V"⟩
abbrev cX6_becomes : ByteArray := prog_8_method_14_code
def yX6_becomes : MethodName := ⟨RX6, "becomes", "(II)I"⟩
abbrev cX6_cellOf : ByteArray := prog_8_method_15_code
def yX6_cellOf : MethodName := ⟨RX6, "cellOf", "(II)I"⟩
abbrev cX6_areBeside : ByteArray := prog_8_method_16_code
def yX6_areBeside : MethodName := ⟨RX6, "areBeside", "(II)Z"⟩
abbrev cX6_aboveOf : ByteArray := prog_8_method_17_code
def yX6_aboveOf : MethodName := ⟨RX6, "aboveOf", "(I)I"⟩
abbrev cX6_isUnder : ByteArray := prog_8_method_18_code
def yX6_isUnder : MethodName := ⟨RX6, "isUnder", "(II)Z"⟩
abbrev cX6_isKind : ByteArray := prog_8_method_19_code
def yX6_isKind : MethodName := ⟨RX6, "isKind", "(I)Z"⟩
abbrev cX6_presses : ByteArray := prog_8_method_20_code
def yX6_presses : MethodName := ⟨RX6, "presses", "(III)I"⟩
abbrev cX6_takes : ByteArray := prog_8_method_21_code
def yX6_takes : MethodName := ⟨RX6, "takes", "(IIII)I"⟩
abbrev cX6_wears : ByteArray := prog_8_method_22_code
def yX6_wears : MethodName := ⟨RX6, "wears", "(I)I"⟩
abbrev cX6_adds : ByteArray := prog_8_method_23_code
def yX6_adds : MethodName := ⟨RX6, "adds", "(I)I"⟩
abbrev cX6_height : ByteArray := prog_8_method_24_code
def yX6_height : MethodName := ⟨RX6, "height", "(II)I"⟩
abbrev cX6_springs : ByteArray := prog_8_method_25_code
def yX6_springs : MethodName := ⟨RX6, "springs", "(II)V"⟩
abbrev cX6_hasSpring : ByteArray := prog_8_method_26_code
def yX6_hasSpring : MethodName := ⟨RX6, "hasSpring", "(I)Z"⟩
abbrev cX6_spring : ByteArray := prog_8_method_27_code
def yX6_spring : MethodName := ⟨RX6, "spring", "(II)I"⟩
abbrev cX6_covers : ByteArray := prog_8_method_28_code
def yX6_covers : MethodName := ⟨RX6, "covers", "(II)Z"⟩
abbrev cX6_tentsOn : ByteArray := prog_8_method_29_code
def yX6_tentsOn : MethodName := ⟨RX6, "tentsOn", "(I)I"⟩
abbrev cX6_steepest : ByteArray := prog_8_method_30_code
def yX6_steepest : MethodName := ⟨RX6, "steepest", "(I)I"⟩
abbrev cX6_cell : ByteArray := prog_8_method_31_code
def yX6_cell : MethodName := ⟨RX6, "cell", "(II)I"⟩
abbrev cX6_tent : ByteArray := prog_8_method_32_code
def yX6_tent : MethodName := ⟨RX6, "tent", "(I)I"⟩
abbrev cX6_of : ByteArray := prog_8_method_33_code
def yX6_of : MethodName := ⟨RX6, "of", "(II)I"⟩
abbrev cX6_mayBe : ByteArray := prog_8_method_34_code
def yX6_mayBe : MethodName := ⟨RX6, "mayBe", "(II)Z"⟩
abbrev cX6_change : ByteArray := prog_8_method_35_code
def yX6_change : MethodName := ⟨RX6, "change", "(III)I"⟩
abbrev cX6_beat : ByteArray := prog_8_method_36_code
def yX6_beat : MethodName := ⟨RX6, "beat", "(I)I"⟩
abbrev cX6_pressesOn : ByteArray := prog_8_method_37_code
def yX6_pressesOn : MethodName := ⟨RX6, "pressesOn", "(II)V"⟩
abbrev cX6_aDay : ByteArray := prog_8_method_38_code
def yX6_aDay : MethodName := ⟨RX6, "aDay", "()V"⟩
abbrev cX6_days : ByteArray := prog_8_method_39_code
def yX6_days : MethodName := ⟨RX6, "days", "(I)V"⟩
abbrev cX6_heights : ByteArray := prog_8_method_40_code
def yX6_heights : MethodName := ⟨RX6, "heights", "()I"⟩
abbrev cX6_go : ByteArray := prog_8_method_41_code
def yX6_go : MethodName := ⟨RX6, "go", "(I)I"⟩
abbrev cX6_ones : ByteArray := prog_8_method_42_code
def yX6_ones : MethodName := ⟨RX6, "ones", "(I)I"⟩
abbrev cX6_pitched : ByteArray := prog_8_method_43_code
def yX6_pitched : MethodName := ⟨RX6, "pitched", "()I"⟩
abbrev cX6_allWorn : ByteArray := prog_8_method_44_code
def yX6_allWorn : MethodName := ⟨RX6, "allWorn", "()I"⟩
abbrev cX6_span : ByteArray := prog_8_method_45_code
def yX6_span : MethodName := ⟨RX6, "span", "()I"⟩
abbrev cX6_now : ByteArray := prog_8_method_46_code
def yX6_now : MethodName := ⟨RX6, "now", "(I)I"⟩
abbrev cX6_canStep : ByteArray := prog_8_method_47_code
def yX6_canStep : MethodName := ⟨RX6, "canStep", "(III)Z"⟩
abbrev cX6_walk : ByteArray := prog_8_method_48_code
def yX6_walk : MethodName := ⟨RX6, "walk", "(II)V"⟩
abbrev cX6_areWay : ByteArray := prog_8_method_49_code
def yX6_areWay : MethodName := ⟨RX6, "areWay", "(III)Z"⟩
abbrev cX6_way : ByteArray := prog_8_method_50_code
def yX6_way : MethodName := ⟨RX6, "way", "(III)I"⟩
abbrev cX6_climb : ByteArray := prog_8_method_51_code
def yX6_climb : MethodName := ⟨RX6, "climb", "(II)I"⟩
abbrev cX6_reach : ByteArray := prog_8_method_52_code
def yX6_reach : MethodName := ⟨RX6, "reach", "(II)I"⟩
abbrev cX6_drink : ByteArray := prog_8_method_53_code
def yX6_drink : MethodName := ⟨RX6, "drink", "(II)I"⟩
abbrev cX6_ahead : ByteArray := prog_8_method_54_code
def yX6_ahead : MethodName := ⟨RX6, "ahead", "(II)I"⟩
abbrev cX6_felt : ByteArray := prog_8_method_55_code
def yX6_felt : MethodName := ⟨RX6, "felt", "(III)I"⟩
abbrev cX6_orNone : ByteArray := prog_8_method_56_code
def yX6_orNone : MethodName := ⟨RX6, "orNone", "(II)I"⟩
abbrev cX6_isThrough : ByteArray := prog_8_method_57_code
def yX6_isThrough : MethodName := ⟨RX6, "isThrough", "(III)Z"⟩
abbrev cX6_when : ByteArray := prog_8_method_58_code
def yX6_when : MethodName := ⟨RX6, "when", "(III)I"⟩
abbrev cX6_leavesAll : ByteArray := prog_8_method_59_code
def yX6_leavesAll : MethodName := ⟨RX6, "leavesAll", "()Z"⟩
abbrev cX6_settles : ByteArray := prog_8_method_60_code
def yX6_settles : MethodName := ⟨RX6, "settles", "()I"⟩
abbrev cX6_isLying : ByteArray := prog_8_method_61_code
def yX6_isLying : MethodName := ⟨RX6, "isLying", "(II)Z"⟩
abbrev cX6_lies : ByteArray := prog_8_method_62_code
def yX6_lies : MethodName := ⟨RX6, "lies", "(II)I"⟩
abbrev cX6_unlikeBy : ByteArray := prog_8_method_63_code
def yX6_unlikeBy : MethodName := ⟨RX6, "unlikeBy", "(II)I"⟩
abbrev cX6_unlike : ByteArray := prog_8_method_64_code
def yX6_unlike : MethodName := ⟨RX6, "unlike", "(II)I"⟩
abbrev cX6_home : ByteArray := prog_8_method_65_code
def yX6_home : MethodName := ⟨RX6, "home", "(I)I"⟩
abbrev cX6_pitchFor : ByteArray := prog_8_method_66_code
def yX6_pitchFor : MethodName := ⟨RX6, "pitchFor", "(IIII)I"⟩
abbrev cX6_kindFor : ByteArray := prog_8_method_67_code
def yX6_kindFor : MethodName := ⟨RX6, "kindFor", "(II)I"⟩
abbrev cX6_alone : ByteArray := prog_8_method_68_code
def yX6_alone : MethodName := ⟨RX6, "alone", "(II)V"⟩
abbrev cX6_heightsBy : ByteArray := prog_8_method_69_code
def yX6_heightsBy : MethodName := ⟨RX6, "heightsBy", "(III)I"⟩
abbrev cX6_first : ByteArray := prog_8_method_70_code
def yX6_first : MethodName := ⟨RX6, "first", "(III)I"⟩
abbrev cX6_isOut : ByteArray := prog_8_method_71_code
def yX6_isOut : MethodName := ⟨RX6, "isOut", "(III)Z"⟩
abbrev cX6_out : ByteArray := prog_8_method_72_code
def yX6_out : MethodName := ⟨RX6, "out", "(IIII)I"⟩
abbrev cX6_isSo : ByteArray := prog_8_method_73_code
def yX6_isSo : MethodName := ⟨RX6, "isSo", "(II)Z"⟩
abbrev cX6_lacksTent : ByteArray := prog_8_method_74_code
def yX6_lacksTent : MethodName := ⟨RX6, "lacksTent", "(II)I"⟩
abbrev cX6_fits : ByteArray := prog_8_method_75_code
def yX6_fits : MethodName := ⟨RX6, "fits", "(II)I"⟩
abbrev cX6_kinds : ByteArray := prog_8_method_76_code
def yX6_kinds : MethodName := ⟨RX6, "kinds", "(II)I"⟩
abbrev cX6_draw : ByteArray := prog_8_method_77_code
def yX6_draw : MethodName := ⟨RX6, "draw", "()I"⟩
abbrev cX6_nomads : ByteArray := prog_8_method_78_code
def yX6_nomads : MethodName := ⟨RX6, "nomads", "(I)I"⟩
abbrev cX6_dryPitches : ByteArray := prog_8_method_79_code
def yX6_dryPitches : MethodName := ⟨RX6, "dryPitches", "()I"⟩
abbrev cX6_odds : ByteArray := prog_8_method_80_code
def yX6_odds : MethodName := ⟨RX6, "odds", "(II)J"⟩
abbrev cX6_seed : ByteArray := prog_8_method_81_code
def yX6_seed : MethodName := ⟨RX6, "seed", "(I)I"⟩
abbrev cX6_feed : ByteArray := prog_8_method_82_code
def yX6_feed : MethodName := ⟨RX6, "feed", "(II)I"⟩
abbrev cX6_wipe : ByteArray := prog_8_method_83_code
def yX6_wipe : MethodName := ⟨RX6, "wipe", "()I"⟩
abbrev cX6_isByte : ByteArray := prog_8_method_84_code
def yX6_isByte : MethodName := ⟨RX6, "isByte", "(III)Z"⟩
abbrev cX6_next : ByteArray := prog_8_method_85_code
def yX6_next : MethodName := ⟨RX6, "next", "()V"⟩
abbrev cX6_isWord : ByteArray := prog_8_method_86_code
def yX6_isWord : MethodName := ⟨RX6, "isWord", "(Ljava/lang/String;)Z"⟩
abbrev cX6_must : ByteArray := prog_8_method_87_code
def yX6_must : MethodName := ⟨RX6, "must", "(Z)V"⟩
abbrev cX6_takes_ : ByteArray := prog_8_method_88_code
def yX6_takes_ : MethodName := ⟨RX6, "takes", "(Ljava/lang/String;)Z"⟩
abbrev cX6_numberRead : ByteArray := prog_8_method_89_code
def yX6_numberRead : MethodName := ⟨RX6, "numberRead", "(II)I"⟩
abbrev cX6_kindHere : ByteArray := prog_8_method_90_code
def yX6_kindHere : MethodName := ⟨RX6, "kindHere", "()I"⟩
abbrev cX6_tentTold : ByteArray := prog_8_method_91_code
def yX6_tentTold : MethodName := ⟨RX6, "tentTold", "(I)V"⟩
abbrev cX6_springTold : ByteArray := prog_8_method_92_code
def yX6_springTold : MethodName := ⟨RX6, "springTold", "(I)V"⟩
abbrev cX6_item : ByteArray := prog_8_method_93_code
def yX6_item : MethodName := ⟨RX6, "item", "()V"⟩
abbrev cX6_text : ByteArray := prog_8_method_94_code
def yX6_text : MethodName := ⟨RX6, "text", "()I"⟩
abbrev cX6_isSpot : ByteArray := prog_8_method_95_code
def yX6_isSpot : MethodName := ⟨RX6, "isSpot", "(I)Z"⟩
abbrev cX6_hold : ByteArray := prog_8_method_96_code
def yX6_hold : MethodName := ⟨RX6, "hold", "(II)I"⟩
abbrev cX6_as : ByteArray := prog_8_method_97_code
def yX6_as : MethodName := ⟨RX6, "as", "(II)I"⟩
abbrev cX6_isSheet : ByteArray := prog_8_method_98_code
def yX6_isSheet : MethodName := ⟨RX6, "isSheet", "(I)Z"⟩
abbrev cX6_sheet : ByteArray := prog_8_method_99_code
def yX6_sheet : MethodName := ⟨RX6, "sheet", "(III)I"⟩
abbrev cX6_lacks : ByteArray := prog_8_method_100_code
def yX6_lacks : MethodName := ⟨RX6, "lacks", "(I)I"⟩
abbrev cX6_write : ByteArray := prog_8_method_101_code
def yX6_write : MethodName := ⟨RX6, "write", "(III)I"⟩
abbrev cX6_copy : ByteArray := prog_8_method_102_code
def yX6_copy : MethodName := ⟨RX6, "copy", "(IIIII)I"⟩
abbrev cX6_load : ByteArray := prog_8_method_103_code
def yX6_load : MethodName := ⟨RX6, "load", "(I)I"⟩
abbrev cX6_goesOn : ByteArray := prog_8_method_104_code
def yX6_goesOn : MethodName := ⟨RX6, "goesOn", "(III)Z"⟩
abbrev cX6_judge : ByteArray := prog_8_method_105_code
def yX6_judge : MethodName := ⟨RX6, "judge", "(II)I"⟩
abbrev cX6_image : ByteArray := prog_8_method_106_code
def yX6_image : MethodName := ⟨RX6, "image", "()I"⟩
abbrev cX6_undo : ByteArray := prog_8_method_107_code
def yX6_undo : MethodName := ⟨RX6, "undo", "()I"⟩
abbrev cX6_tear : ByteArray := prog_8_method_108_code
def yX6_tear : MethodName := ⟨RX6, "tear", "()I"⟩
abbrev cX6_held_ : ByteArray := prog_8_method_109_code
def yX6_held_ : MethodName := ⟨RX6, "held", "()I"⟩
abbrev cX6_count : ByteArray := prog_8_method_110_code
def yX6_count : MethodName := ⟨RX6, "count", "(I)I"⟩
abbrev cX6_status : ByteArray := prog_8_method_111_code
def yX6_status : MethodName := ⟨RX6, "status", "(I)I"⟩
def RJ6 : String := "java/lang/Integer"
abbrev cJ6_bitCount_0f7a4 : ByteArray := prog_9_method_49_code
def yJ6_bitCount_0f7a4 : MethodName := ⟨RJ6, "bitCount", "(I)I"⟩
def RJ9 : String := "java/lang/Math"
abbrev cJ9_abs_0f7a4 : ByteArray := prog_10_method_59_code
def yJ9_abs_0f7a4 : MethodName := ⟨RJ9, "abs", "(I)I"⟩
abbrev cJ9_max_7cf53 : ByteArray := prog_10_method_65_code
def yJ9_max_7cf53 : MethodName := ⟨RJ9, "max", "(II)I"⟩
abbrev cJ9_min_7cf53 : ByteArray := prog_10_method_69_code
def yJ9_min_7cf53 : MethodName := ⟨RJ9, "min", "(II)I"⟩
def RJ0 : String := "java/lang/String"
abbrev cJ0_length_8abf5 : ByteArray := prog_11_method_54_code
def yJ0_length_8abf5 : MethodName := ⟨RJ0, "length", "()I"⟩
abbrev cJ0_charAt_5068e : ByteArray := prog_11_method_56_code
def yJ0_charAt_5068e : MethodName := ⟨RJ0, "charAt", "(I)C"⟩
abbrev cJ0_coder_7d493 : ByteArray := prog_11_method_152_code
def yJ0_coder_7d493 : MethodName := ⟨RJ0, "coder", "()B"⟩
abbrev cJ0_isLatin1_aae02 : ByteArray := prog_11_method_154_code
def yJ0_isLatin1_aae02 : MethodName := ⟨RJ0, "isLatin1", "()Z"⟩
abbrev cJ0_checkIndex_df160 : ByteArray := prog_11_method_155_code
def yJ0_checkIndex_df160 : MethodName := ⟨RJ0, "checkIndex", "(II)V"⟩
def RJ1 : String := "java/lang/StringLatin1"
abbrev cJ1_charAt_3b067 : ByteArray := prog_12_method_2_code
def yJ1_charAt_3b067 : MethodName := ⟨RJ1, "charAt", "([BI)C"⟩
def RJ2 : String := "java/lang/StringUTF16"
abbrev cJ2_getChar_3b067 : ByteArray := prog_13_method_5_code
def yJ2_getChar_3b067 : MethodName := ⟨RJ2, "getChar", "([BI)C"⟩
abbrev cJ2_length_9d52b : ByteArray := prog_13_method_6_code
def yJ2_length_9d52b : MethodName := ⟨RJ2, "length", "([B)I"⟩
abbrev cJ2_charAt_3b067 : ByteArray := prog_13_method_83_code
def yJ2_charAt_3b067 : MethodName := ⟨RJ2, "charAt", "([BI)C"⟩
abbrev cJ2_checkIndex_2214a : ByteArray := prog_13_method_91_code
def yJ2_checkIndex_2214a : MethodName := ⟨RJ2, "checkIndex", "(I[B)V"⟩
def RJ10 : String := "java/lang/System"
def RJ7 : String := "java/util/Arrays"
abbrev cJ7_fill_53178 : ByteArray := prog_15_method_103_code
def yJ7_fill_53178 : MethodName := ⟨RJ7, "fill", "([II)V"⟩
def RJ3 : String := "jdk/internal/util/Preconditions"
abbrev cJ3_checkIndex_8e157 : ByteArray := prog_16_method_11_code
def yJ3_checkIndex_8e157 : MethodName := ⟨RJ3, "checkIndex", "(IILjava/util/function/BiFunction;)I"⟩
def RL : String := "GroundTentsLaw"
abbrev cL_law : ByteArray := code
def yL_law : MethodName := ⟨RL, "law", "([I)Z"⟩
abbrev vwCl : List vw_C := [(RX0, TX0, 7), (RX1, TX1, 4), (RX2, TX2, 3), (RX3, TX3, 6), (RX4, TX4, 4), (RX5, TX5, 9), (RX6, TX6, 16)]
