section
-- ===== PART A: goes FIRST, ahead of the names: the tables' words, and 'selects' of the private methods out of them =====
/-- a private method of a class that the tables say can be made, by its rows of tables_1 -/
def lw_okq (q : MethodName × Nat) : Prop := (q.1.cls ≠ "java/lang/invoke/MethodHandle" ∧ q.1.cls ≠ "java/lang/invoke/VarHandle") ∧ Cond.instantiable q.1.cls q.2 ∈ tables_1 ∧ Cond.privateMethod q.1 ∈ tables_1 ∧ Cond.instanceMethod q.1 ∈ tables_1
theorem lw_p0 : lw_okq (⟨"GroundTents", "finding", "(I)I"⟩, 9) := ⟨⟨by decide +kernel, by decide +kernel⟩, List.mem_of_getElem? (i := 17) (by decide +kernel), List.mem_of_getElem? (i := 202) (by decide +kernel), List.mem_of_getElem? (i := 203) (by decide +kernel)⟩
theorem lw_p1 : lw_okq (⟨"GroundTents$Camp", "springAt", "(I)I"⟩, 7) := ⟨⟨by decide +kernel, by decide +kernel⟩, List.mem_of_getElem? (i := 25) (by decide +kernel), List.mem_of_getElem? (i := 211) (by decide +kernel), List.mem_of_getElem? (i := 212) (by decide +kernel)⟩
theorem lw_p2 : lw_okq (⟨"GroundTents$Camp", "setSpring", "(II)V"⟩, 7) := ⟨⟨by decide +kernel, by decide +kernel⟩, List.mem_of_getElem? (i := 25) (by decide +kernel), List.mem_of_getElem? (i := 215) (by decide +kernel), List.mem_of_getElem? (i := 216) (by decide +kernel)⟩
theorem lw_p3 : lw_okq (⟨"GroundTents$Camp", "tentsOver", "(I)I"⟩, 7) := ⟨⟨by decide +kernel, by decide +kernel⟩, List.mem_of_getElem? (i := 25) (by decide +kernel), List.mem_of_getElem? (i := 223) (by decide +kernel), List.mem_of_getElem? (i := 224) (by decide +kernel)⟩
theorem lw_p4 : lw_okq (⟨"GroundTents$Tent", "isPitched", "()Z"⟩, 4) := ⟨⟨by decide +kernel, by decide +kernel⟩, List.mem_of_getElem? (i := 35) (by decide +kernel), List.mem_of_getElem? (i := 227) (by decide +kernel), List.mem_of_getElem? (i := 228) (by decide +kernel)⟩
theorem lw_p5 : lw_okq (⟨"GroundTents$Camp", "steepnessAt", "(I)I"⟩, 7) := ⟨⟨by decide +kernel, by decide +kernel⟩, List.mem_of_getElem? (i := 25) (by decide +kernel), List.mem_of_getElem? (i := 240) (by decide +kernel), List.mem_of_getElem? (i := 241) (by decide +kernel)⟩
theorem lw_p6 : lw_okq (⟨"GroundTents$Camp", "climbBetween", "(II)I"⟩, 7) := ⟨⟨by decide +kernel, by decide +kernel⟩, List.mem_of_getElem? (i := 25) (by decide +kernel), List.mem_of_getElem? (i := 247) (by decide +kernel), List.mem_of_getElem? (i := 248) (by decide +kernel)⟩
theorem lw_p7 : lw_okq (⟨"GroundTents$Camp", "addTent", "(I)V"⟩, 7) := ⟨⟨by decide +kernel, by decide +kernel⟩, List.mem_of_getElem? (i := 25) (by decide +kernel), List.mem_of_getElem? (i := 264) (by decide +kernel), List.mem_of_getElem? (i := 265) (by decide +kernel)⟩
theorem lw_p8 : lw_okq (⟨"GroundTents$Tent", "renew", "(I)V"⟩, 4) := ⟨⟨by decide +kernel, by decide +kernel⟩, List.mem_of_getElem? (i := 35) (by decide +kernel), List.mem_of_getElem? (i := 268) (by decide +kernel), List.mem_of_getElem? (i := 269) (by decide +kernel)⟩
theorem lw_p9 : lw_okq (⟨"GroundTents", "isTent", "(I)Z"⟩, 9) := ⟨⟨by decide +kernel, by decide +kernel⟩, List.mem_of_getElem? (i := 17) (by decide +kernel), List.mem_of_getElem? (i := 277) (by decide +kernel), List.mem_of_getElem? (i := 278) (by decide +kernel)⟩
theorem lw_p10 : lw_okq (⟨"GroundTents$Tent", "trait", "(I)I"⟩, 4) := ⟨⟨by decide +kernel, by decide +kernel⟩, List.mem_of_getElem? (i := 35) (by decide +kernel), List.mem_of_getElem? (i := 281) (by decide +kernel), List.mem_of_getElem? (i := 282) (by decide +kernel)⟩
theorem lw_p11 : lw_okq (⟨"GroundTents$Tent", "wear", "()I"⟩, 4) := ⟨⟨by decide +kernel, by decide +kernel⟩, List.mem_of_getElem? (i := 35) (by decide +kernel), List.mem_of_getElem? (i := 285) (by decide +kernel), List.mem_of_getElem? (i := 286) (by decide +kernel)⟩
theorem lw_p12 : lw_okq (⟨"GroundTents$Tent", "setTrait", "(II)V"⟩, 4) := ⟨⟨by decide +kernel, by decide +kernel⟩, List.mem_of_getElem? (i := 35) (by decide +kernel), List.mem_of_getElem? (i := 299) (by decide +kernel), List.mem_of_getElem? (i := 300) (by decide +kernel)⟩
theorem lw_p13 : lw_okq (⟨"GroundTents$Tent", "forget", "()I"⟩, 4) := ⟨⟨by decide +kernel, by decide +kernel⟩, List.mem_of_getElem? (i := 35) (by decide +kernel), List.mem_of_getElem? (i := 307) (by decide +kernel), List.mem_of_getElem? (i := 308) (by decide +kernel)⟩
theorem lw_p14 : lw_okq (⟨"GroundTents$Camp", "passDays", "(I)V"⟩, 7) := ⟨⟨by decide +kernel, by decide +kernel⟩, List.mem_of_getElem? (i := 25) (by decide +kernel), List.mem_of_getElem? (i := 316) (by decide +kernel), List.mem_of_getElem? (i := 317) (by decide +kernel)⟩
theorem lw_p15 : lw_okq (⟨"GroundTents$Camp", "passDay", "()V"⟩, 7) := ⟨⟨by decide +kernel, by decide +kernel⟩, List.mem_of_getElem? (i := 25) (by decide +kernel), List.mem_of_getElem? (i := 320) (by decide +kernel), List.mem_of_getElem? (i := 321) (by decide +kernel)⟩
def lw_privs_1 : List (MethodName × Nat) := [(⟨"GroundTents", "finding", "(I)I"⟩, 9), (⟨"GroundTents$Camp", "springAt", "(I)I"⟩, 7), (⟨"GroundTents$Camp", "setSpring", "(II)V"⟩, 7), (⟨"GroundTents$Camp", "tentsOver", "(I)I"⟩, 7), (⟨"GroundTents$Tent", "isPitched", "()Z"⟩, 4), (⟨"GroundTents$Camp", "steepnessAt", "(I)I"⟩, 7), (⟨"GroundTents$Camp", "climbBetween", "(II)I"⟩, 7), (⟨"GroundTents$Camp", "addTent", "(I)V"⟩, 7), (⟨"GroundTents$Tent", "renew", "(I)V"⟩, 4), (⟨"GroundTents", "isTent", "(I)Z"⟩, 9), (⟨"GroundTents$Tent", "trait", "(I)I"⟩, 4), (⟨"GroundTents$Tent", "wear", "()I"⟩, 4), (⟨"GroundTents$Tent", "setTrait", "(II)V"⟩, 4), (⟨"GroundTents$Tent", "forget", "()I"⟩, 4), (⟨"GroundTents$Camp", "passDays", "(I)V"⟩, 7), (⟨"GroundTents$Camp", "passDay", "()V"⟩, 7)]
theorem lw_r1 : ∀ q ∈ lw_privs_1, lw_okq q := List.forall_mem_cons.mpr ⟨lw_p0, List.forall_mem_cons.mpr ⟨lw_p1, List.forall_mem_cons.mpr ⟨lw_p2, List.forall_mem_cons.mpr ⟨lw_p3, List.forall_mem_cons.mpr ⟨lw_p4, List.forall_mem_cons.mpr ⟨lw_p5, List.forall_mem_cons.mpr ⟨lw_p6, List.forall_mem_cons.mpr ⟨lw_p7, List.forall_mem_cons.mpr ⟨lw_p8, List.forall_mem_cons.mpr ⟨lw_p9, List.forall_mem_cons.mpr ⟨lw_p10, List.forall_mem_cons.mpr ⟨lw_p11, List.forall_mem_cons.mpr ⟨lw_p12, List.forall_mem_cons.mpr ⟨lw_p13, List.forall_mem_cons.mpr ⟨lw_p14, List.forall_mem_cons.mpr ⟨lw_p15, fun _ h => absurd h List.not_mem_nil⟩⟩⟩⟩⟩⟩⟩⟩⟩⟩⟩⟩⟩⟩⟩⟩
theorem lw_p16 : lw_okq (⟨"GroundTents$Camp", "pressAndTake", "(LGroundTents$Tent;)V"⟩, 7) := ⟨⟨by decide +kernel, by decide +kernel⟩, List.mem_of_getElem? (i := 25) (by decide +kernel), List.mem_of_getElem? (i := 324) (by decide +kernel), List.mem_of_getElem? (i := 325) (by decide +kernel)⟩
theorem lw_p17 : lw_okq (⟨"GroundTents$Tent", "pressed", "(II)I"⟩, 4) := ⟨⟨by decide +kernel, by decide +kernel⟩, List.mem_of_getElem? (i := 35) (by decide +kernel), List.mem_of_getElem? (i := 328) (by decide +kernel), List.mem_of_getElem? (i := 329) (by decide +kernel)⟩
theorem lw_p18 : lw_okq (⟨"GroundTents$Tent", "taken", "(II)I"⟩, 4) := ⟨⟨by decide +kernel, by decide +kernel⟩, List.mem_of_getElem? (i := 35) (by decide +kernel), List.mem_of_getElem? (i := 338) (by decide +kernel), List.mem_of_getElem? (i := 339) (by decide +kernel)⟩
theorem lw_p19 : lw_okq (⟨"GroundTents$Tent", "wearOut", "()V"⟩, 4) := ⟨⟨by decide +kernel, by decide +kernel⟩, List.mem_of_getElem? (i := 35) (by decide +kernel), List.mem_of_getElem? (i := 342) (by decide +kernel), List.mem_of_getElem? (i := 343) (by decide +kernel)⟩
theorem lw_p20 : lw_okq (⟨"GroundTents$Camp", "heightSum", "()I"⟩, 7) := ⟨⟨by decide +kernel, by decide +kernel⟩, List.mem_of_getElem? (i := 25) (by decide +kernel), List.mem_of_getElem? (i := 347) (by decide +kernel), List.mem_of_getElem? (i := 348) (by decide +kernel)⟩
theorem lw_p21 : lw_okq (⟨"GroundTents$Camp", "pitchedSet", "()I"⟩, 7) := ⟨⟨by decide +kernel, by decide +kernel⟩, List.mem_of_getElem? (i := 25) (by decide +kernel), List.mem_of_getElem? (i := 355) (by decide +kernel), List.mem_of_getElem? (i := 356) (by decide +kernel)⟩
theorem lw_p22 : lw_okq (⟨"GroundTents$Camp", "wornSum", "()I"⟩, 7) := ⟨⟨by decide +kernel, by decide +kernel⟩, List.mem_of_getElem? (i := 25) (by decide +kernel), List.mem_of_getElem? (i := 359) (by decide +kernel), List.mem_of_getElem? (i := 360) (by decide +kernel)⟩
theorem lw_p23 : lw_okq (⟨"GroundTents$Camp", "relief", "()I"⟩, 7) := ⟨⟨by decide +kernel, by decide +kernel⟩, List.mem_of_getElem? (i := 25) (by decide +kernel), List.mem_of_getElem? (i := 363) (by decide +kernel), List.mem_of_getElem? (i := 364) (by decide +kernel)⟩
theorem lw_p24 : lw_okq (⟨"GroundTents$Flock", "stepsBetween", "(LGroundTents$Camp;III)I"⟩, 4) := ⟨⟨by decide +kernel, by decide +kernel⟩, List.mem_of_getElem? (i := 96) (by decide +kernel), List.mem_of_getElem? (i := 372) (by decide +kernel), List.mem_of_getElem? (i := 373) (by decide +kernel)⟩
theorem lw_p25 : lw_okq (⟨"GroundTents$Flock", "roam", "(LGroundTents$Camp;II)V"⟩, 4) := ⟨⟨by decide +kernel, by decide +kernel⟩, List.mem_of_getElem? (i := 96) (by decide +kernel), List.mem_of_getElem? (i := 376) (by decide +kernel), List.mem_of_getElem? (i := 377) (by decide +kernel)⟩
theorem lw_p26 : lw_okq (⟨"GroundTents$Flock", "leastClimb", "(LGroundTents$Camp;II)I"⟩, 4) := ⟨⟨by decide +kernel, by decide +kernel⟩, List.mem_of_getElem? (i := 96) (by decide +kernel), List.mem_of_getElem? (i := 387) (by decide +kernel), List.mem_of_getElem? (i := 388) (by decide +kernel)⟩
theorem lw_p27 : lw_okq (⟨"GroundTents$Flock", "isSettled", "(I)Z"⟩, 4) := ⟨⟨by decide +kernel, by decide +kernel⟩, List.mem_of_getElem? (i := 96) (by decide +kernel), List.mem_of_getElem? (i := 391) (by decide +kernel), List.mem_of_getElem? (i := 392) (by decide +kernel)⟩
theorem lw_p28 : lw_okq (⟨"GroundTents$Flock", "easiest", "()I"⟩, 4) := ⟨⟨by decide +kernel, by decide +kernel⟩, List.mem_of_getElem? (i := 96) (by decide +kernel), List.mem_of_getElem? (i := 395) (by decide +kernel), List.mem_of_getElem? (i := 396) (by decide +kernel)⟩
theorem lw_p29 : lw_okq (⟨"GroundTents$Flock", "reachedSet", "()I"⟩, 4) := ⟨⟨by decide +kernel, by decide +kernel⟩, List.mem_of_getElem? (i := 96) (by decide +kernel), List.mem_of_getElem? (i := 406) (by decide +kernel), List.mem_of_getElem? (i := 407) (by decide +kernel)⟩
theorem lw_p30 : lw_okq (⟨"GroundTents$Flock", "nearestOf", "(I)I"⟩, 4) := ⟨⟨by decide +kernel, by decide +kernel⟩, List.mem_of_getElem? (i := 96) (by decide +kernel), List.mem_of_getElem? (i := 414) (by decide +kernel), List.mem_of_getElem? (i := 415) (by decide +kernel)⟩
theorem lw_p31 : lw_okq (⟨"GroundTents$Camp", "becomeLike", "(LGroundTents$Camp;)V"⟩, 7) := ⟨⟨by decide +kernel, by decide +kernel⟩, List.mem_of_getElem? (i := 25) (by decide +kernel), List.mem_of_getElem? (i := 422) (by decide +kernel), List.mem_of_getElem? (i := 423) (by decide +kernel)⟩
def lw_privs_2 : List (MethodName × Nat) := [(⟨"GroundTents$Camp", "pressAndTake", "(LGroundTents$Tent;)V"⟩, 7), (⟨"GroundTents$Tent", "pressed", "(II)I"⟩, 4), (⟨"GroundTents$Tent", "taken", "(II)I"⟩, 4), (⟨"GroundTents$Tent", "wearOut", "()V"⟩, 4), (⟨"GroundTents$Camp", "heightSum", "()I"⟩, 7), (⟨"GroundTents$Camp", "pitchedSet", "()I"⟩, 7), (⟨"GroundTents$Camp", "wornSum", "()I"⟩, 7), (⟨"GroundTents$Camp", "relief", "()I"⟩, 7), (⟨"GroundTents$Flock", "stepsBetween", "(LGroundTents$Camp;III)I"⟩, 4), (⟨"GroundTents$Flock", "roam", "(LGroundTents$Camp;II)V"⟩, 4), (⟨"GroundTents$Flock", "leastClimb", "(LGroundTents$Camp;II)I"⟩, 4), (⟨"GroundTents$Flock", "isSettled", "(I)Z"⟩, 4), (⟨"GroundTents$Flock", "easiest", "()I"⟩, 4), (⟨"GroundTents$Flock", "reachedSet", "()I"⟩, 4), (⟨"GroundTents$Flock", "nearestOf", "(I)I"⟩, 4), (⟨"GroundTents$Camp", "becomeLike", "(LGroundTents$Camp;)V"⟩, 7)]
theorem lw_r2 : ∀ q ∈ lw_privs_2, lw_okq q := List.forall_mem_cons.mpr ⟨lw_p16, List.forall_mem_cons.mpr ⟨lw_p17, List.forall_mem_cons.mpr ⟨lw_p18, List.forall_mem_cons.mpr ⟨lw_p19, List.forall_mem_cons.mpr ⟨lw_p20, List.forall_mem_cons.mpr ⟨lw_p21, List.forall_mem_cons.mpr ⟨lw_p22, List.forall_mem_cons.mpr ⟨lw_p23, List.forall_mem_cons.mpr ⟨lw_p24, List.forall_mem_cons.mpr ⟨lw_p25, List.forall_mem_cons.mpr ⟨lw_p26, List.forall_mem_cons.mpr ⟨lw_p27, List.forall_mem_cons.mpr ⟨lw_p28, List.forall_mem_cons.mpr ⟨lw_p29, List.forall_mem_cons.mpr ⟨lw_p30, List.forall_mem_cons.mpr ⟨lw_p31, fun _ h => absurd h List.not_mem_nil⟩⟩⟩⟩⟩⟩⟩⟩⟩⟩⟩⟩⟩⟩⟩⟩
theorem lw_p32 : lw_okq (⟨"GroundTents$Tent", "becomeLike", "(LGroundTents$Tent;)V"⟩, 4) := ⟨⟨by decide +kernel, by decide +kernel⟩, List.mem_of_getElem? (i := 35) (by decide +kernel), List.mem_of_getElem? (i := 429) (by decide +kernel), List.mem_of_getElem? (i := 430) (by decide +kernel)⟩
theorem lw_p33 : lw_okq (⟨"GroundTents$Camp", "liesAs", "([I)Z"⟩, 7) := ⟨⟨by decide +kernel, by decide +kernel⟩, List.mem_of_getElem? (i := 25) (by decide +kernel), List.mem_of_getElem? (i := 448) (by decide +kernel), List.mem_of_getElem? (i := 449) (by decide +kernel)⟩
theorem lw_p34 : lw_okq (⟨"GroundTents$Camp", "greatestGap", "(LGroundTents$Tent;)I"⟩, 7) := ⟨⟨by decide +kernel, by decide +kernel⟩, List.mem_of_getElem? (i := 25) (by decide +kernel), List.mem_of_getElem? (i := 457) (by decide +kernel), List.mem_of_getElem? (i := 458) (by decide +kernel)⟩
theorem lw_p35 : lw_okq (⟨"GroundTents$Camp", "gap", "(LGroundTents$Tent;II)I"⟩, 7) := ⟨⟨by decide +kernel, by decide +kernel⟩, List.mem_of_getElem? (i := 25) (by decide +kernel), List.mem_of_getElem? (i := 461) (by decide +kernel), List.mem_of_getElem? (i := 462) (by decide +kernel)⟩
theorem lw_p36 : lw_okq (⟨"GroundTents$Camp", "unlikeness", "(LGroundTents$Tent;I)I"⟩, 7) := ⟨⟨by decide +kernel, by decide +kernel⟩, List.mem_of_getElem? (i := 25) (by decide +kernel), List.mem_of_getElem? (i := 470) (by decide +kernel), List.mem_of_getElem? (i := 471) (by decide +kernel)⟩
theorem lw_p37 : lw_okq (⟨"GroundTents", "sumAfterBoth", "(III)I"⟩, 9) := ⟨⟨by decide +kernel, by decide +kernel⟩, List.mem_of_getElem? (i := 17) (by decide +kernel), List.mem_of_getElem? (i := 490) (by decide +kernel), List.mem_of_getElem? (i := 491) (by decide +kernel)⟩
theorem lw_p38 : lw_okq (⟨"GroundTents", "supposeAlone", "(II)V"⟩, 9) := ⟨⟨by decide +kernel, by decide +kernel⟩, List.mem_of_getElem? (i := 17) (by decide +kernel), List.mem_of_getElem? (i := 494) (by decide +kernel), List.mem_of_getElem? (i := 495) (by decide +kernel)⟩
theorem lw_p39 : lw_okq (⟨"GroundTents$Camp", "pitchAlone", "(II)V"⟩, 7) := ⟨⟨by decide +kernel, by decide +kernel⟩, List.mem_of_getElem? (i := 25) (by decide +kernel), List.mem_of_getElem? (i := 498) (by decide +kernel), List.mem_of_getElem? (i := 499) (by decide +kernel)⟩
theorem lw_p40 : lw_okq (⟨"GroundTents$Tent", "keepsNear", "(II)Z"⟩, 4) := ⟨⟨by decide +kernel, by decide +kernel⟩, List.mem_of_getElem? (i := 35) (by decide +kernel), List.mem_of_getElem? (i := 506) (by decide +kernel), List.mem_of_getElem? (i := 507) (by decide +kernel)⟩
theorem lw_p41 : lw_okq (⟨"GroundTents", "lackOf", "(I)I"⟩, 9) := ⟨⟨by decide +kernel, by decide +kernel⟩, List.mem_of_getElem? (i := 17) (by decide +kernel), List.mem_of_getElem? (i := 515) (by decide +kernel), List.mem_of_getElem? (i := 516) (by decide +kernel)⟩
theorem lw_p42 : lw_okq (⟨"GroundTents$Sheet", "isMissing", "()Z"⟩, 3) := ⟨⟨by decide +kernel, by decide +kernel⟩, List.mem_of_getElem? (i := 142) (by decide +kernel), List.mem_of_getElem? (i := 522) (by decide +kernel), List.mem_of_getElem? (i := 523) (by decide +kernel)⟩
theorem lw_p43 : lw_okq (⟨"GroundTents$Sheet", "tells", "([I)Z"⟩, 3) := ⟨⟨by decide +kernel, by decide +kernel⟩, List.mem_of_getElem? (i := 142) (by decide +kernel), List.mem_of_getElem? (i := 526) (by decide +kernel), List.mem_of_getElem? (i := 527) (by decide +kernel)⟩
theorem lw_p44 : lw_okq (⟨"GroundTents$Camp", "draw", "()I"⟩, 7) := ⟨⟨by decide +kernel, by decide +kernel⟩, List.mem_of_getElem? (i := 25) (by decide +kernel), List.mem_of_getElem? (i := 538) (by decide +kernel), List.mem_of_getElem? (i := 539) (by decide +kernel)⟩
theorem lw_p45 : lw_okq (⟨"GroundTents$Camp", "dryPitches", "()I"⟩, 7) := ⟨⟨by decide +kernel, by decide +kernel⟩, List.mem_of_getElem? (i := 25) (by decide +kernel), List.mem_of_getElem? (i := 547) (by decide +kernel), List.mem_of_getElem? (i := 548) (by decide +kernel)⟩
theorem lw_p46 : lw_okq (⟨"GroundTents$Tape", "append", "(I)V"⟩, 6) := ⟨⟨by decide +kernel, by decide +kernel⟩, List.mem_of_getElem? (i := 115) (by decide +kernel), List.mem_of_getElem? (i := 564) (by decide +kernel), List.mem_of_getElem? (i := 565) (by decide +kernel)⟩
theorem lw_p47 : lw_okq (⟨"GroundTents$Tape", "readText", "(LGroundTents$Camp;)I"⟩, 6) := ⟨⟨by decide +kernel, by decide +kernel⟩, List.mem_of_getElem? (i := 115) (by decide +kernel), List.mem_of_getElem? (i := 576) (by decide +kernel), List.mem_of_getElem? (i := 577) (by decide +kernel)⟩
def lw_privs_3 : List (MethodName × Nat) := [(⟨"GroundTents$Tent", "becomeLike", "(LGroundTents$Tent;)V"⟩, 4), (⟨"GroundTents$Camp", "liesAs", "([I)Z"⟩, 7), (⟨"GroundTents$Camp", "greatestGap", "(LGroundTents$Tent;)I"⟩, 7), (⟨"GroundTents$Camp", "gap", "(LGroundTents$Tent;II)I"⟩, 7), (⟨"GroundTents$Camp", "unlikeness", "(LGroundTents$Tent;I)I"⟩, 7), (⟨"GroundTents", "sumAfterBoth", "(III)I"⟩, 9), (⟨"GroundTents", "supposeAlone", "(II)V"⟩, 9), (⟨"GroundTents$Camp", "pitchAlone", "(II)V"⟩, 7), (⟨"GroundTents$Tent", "keepsNear", "(II)Z"⟩, 4), (⟨"GroundTents", "lackOf", "(I)I"⟩, 9), (⟨"GroundTents$Sheet", "isMissing", "()Z"⟩, 3), (⟨"GroundTents$Sheet", "tells", "([I)Z"⟩, 3), (⟨"GroundTents$Camp", "draw", "()I"⟩, 7), (⟨"GroundTents$Camp", "dryPitches", "()I"⟩, 7), (⟨"GroundTents$Tape", "append", "(I)V"⟩, 6), (⟨"GroundTents$Tape", "readText", "(LGroundTents$Camp;)I"⟩, 6)]
theorem lw_r3 : ∀ q ∈ lw_privs_3, lw_okq q := List.forall_mem_cons.mpr ⟨lw_p32, List.forall_mem_cons.mpr ⟨lw_p33, List.forall_mem_cons.mpr ⟨lw_p34, List.forall_mem_cons.mpr ⟨lw_p35, List.forall_mem_cons.mpr ⟨lw_p36, List.forall_mem_cons.mpr ⟨lw_p37, List.forall_mem_cons.mpr ⟨lw_p38, List.forall_mem_cons.mpr ⟨lw_p39, List.forall_mem_cons.mpr ⟨lw_p40, List.forall_mem_cons.mpr ⟨lw_p41, List.forall_mem_cons.mpr ⟨lw_p42, List.forall_mem_cons.mpr ⟨lw_p43, List.forall_mem_cons.mpr ⟨lw_p44, List.forall_mem_cons.mpr ⟨lw_p45, List.forall_mem_cons.mpr ⟨lw_p46, List.forall_mem_cons.mpr ⟨lw_p47, fun _ h => absurd h List.not_mem_nil⟩⟩⟩⟩⟩⟩⟩⟩⟩⟩⟩⟩⟩⟩⟩⟩
theorem lw_p48 : lw_okq (⟨"GroundTents$Tape", "nextToken", "()V"⟩, 6) := ⟨⟨by decide +kernel, by decide +kernel⟩, List.mem_of_getElem? (i := 115) (by decide +kernel), List.mem_of_getElem? (i := 580) (by decide +kernel), List.mem_of_getElem? (i := 581) (by decide +kernel)⟩
theorem lw_p49 : lw_okq (⟨"GroundTents$Tape", "sortAt", "(I)I"⟩, 6) := ⟨⟨by decide +kernel, by decide +kernel⟩, List.mem_of_getElem? (i := 115) (by decide +kernel), List.mem_of_getElem? (i := 584) (by decide +kernel), List.mem_of_getElem? (i := 585) (by decide +kernel)⟩
theorem lw_p50 : lw_okq (⟨"GroundTents$Tape", "numberAtHand", "()I"⟩, 6) := ⟨⟨by decide +kernel, by decide +kernel⟩, List.mem_of_getElem? (i := 115) (by decide +kernel), List.mem_of_getElem? (i := 588) (by decide +kernel), List.mem_of_getElem? (i := 589) (by decide +kernel)⟩
theorem lw_p51 : lw_okq (⟨"GroundTents$Tape", "readItem", "(LGroundTents$Camp;)Z"⟩, 6) := ⟨⟨by decide +kernel, by decide +kernel⟩, List.mem_of_getElem? (i := 115) (by decide +kernel), List.mem_of_getElem? (i := 592) (by decide +kernel), List.mem_of_getElem? (i := 593) (by decide +kernel)⟩
theorem lw_p52 : lw_okq (⟨"GroundTents$Tape", "isWord", "(Ljava/lang/String;)Z"⟩, 6) := ⟨⟨by decide +kernel, by decide +kernel⟩, List.mem_of_getElem? (i := 115) (by decide +kernel), List.mem_of_getElem? (i := 606) (by decide +kernel), List.mem_of_getElem? (i := 607) (by decide +kernel)⟩
theorem lw_p53 : lw_okq (⟨"GroundTents$Tape", "readTent", "(LGroundTents$Camp;I)Z"⟩, 6) := ⟨⟨by decide +kernel, by decide +kernel⟩, List.mem_of_getElem? (i := 115) (by decide +kernel), List.mem_of_getElem? (i := 658) (by decide +kernel), List.mem_of_getElem? (i := 659) (by decide +kernel)⟩
theorem lw_p54 : lw_okq (⟨"GroundTents$Tape", "readPitch", "(LGroundTents$Tent;)Z"⟩, 6) := ⟨⟨by decide +kernel, by decide +kernel⟩, List.mem_of_getElem? (i := 115) (by decide +kernel), List.mem_of_getElem? (i := 663) (by decide +kernel), List.mem_of_getElem? (i := 664) (by decide +kernel)⟩
theorem lw_p55 : lw_okq (⟨"GroundTents$Tape", "isNumberTo", "(I)Z"⟩, 6) := ⟨⟨by decide +kernel, by decide +kernel⟩, List.mem_of_getElem? (i := 115) (by decide +kernel), List.mem_of_getElem? (i := 668) (by decide +kernel), List.mem_of_getElem? (i := 669) (by decide +kernel)⟩
theorem lw_p56 : lw_okq (⟨"GroundTents$Tape", "readWorn", "(LGroundTents$Tent;)Z"⟩, 6) := ⟨⟨by decide +kernel, by decide +kernel⟩, List.mem_of_getElem? (i := 115) (by decide +kernel), List.mem_of_getElem? (i := 673) (by decide +kernel), List.mem_of_getElem? (i := 674) (by decide +kernel)⟩
theorem lw_p57 : lw_okq (⟨"GroundTents$Tape", "readFelt", "(LGroundTents$Tent;)Z"⟩, 6) := ⟨⟨by decide +kernel, by decide +kernel⟩, List.mem_of_getElem? (i := 115) (by decide +kernel), List.mem_of_getElem? (i := 678) (by decide +kernel), List.mem_of_getElem? (i := 679) (by decide +kernel)⟩
theorem lw_p58 : lw_okq (⟨"GroundTents$Tape", "readHeight", "(LGroundTents$Camp;)Z"⟩, 6) := ⟨⟨by decide +kernel, by decide +kernel⟩, List.mem_of_getElem? (i := 115) (by decide +kernel), List.mem_of_getElem? (i := 684) (by decide +kernel), List.mem_of_getElem? (i := 685) (by decide +kernel)⟩
theorem lw_p59 : lw_okq (⟨"GroundTents$Tape", "readSpring", "(LGroundTents$Camp;I)Z"⟩, 6) := ⟨⟨by decide +kernel, by decide +kernel⟩, List.mem_of_getElem? (i := 115) (by decide +kernel), List.mem_of_getElem? (i := 689) (by decide +kernel), List.mem_of_getElem? (i := 690) (by decide +kernel)⟩
theorem lw_p60 : lw_okq (⟨"GroundTents$Sheet", "renew", "(II)V"⟩, 3) := ⟨⟨by decide +kernel, by decide +kernel⟩, List.mem_of_getElem? (i := 142) (by decide +kernel), List.mem_of_getElem? (i := 714) (by decide +kernel), List.mem_of_getElem? (i := 715) (by decide +kernel)⟩
theorem lw_p61 : lw_okq (⟨"GroundTents$Sheet", "put", "(II)V"⟩, 3) := ⟨⟨by decide +kernel, by decide +kernel⟩, List.mem_of_getElem? (i := 142) (by decide +kernel), List.mem_of_getElem? (i := 723) (by decide +kernel), List.mem_of_getElem? (i := 724) (by decide +kernel)⟩
theorem lw_p62 : lw_okq (⟨"GroundTents$Sheet", "hasRun", "(II)Z"⟩, 3) := ⟨⟨by decide +kernel, by decide +kernel⟩, List.mem_of_getElem? (i := 142) (by decide +kernel), List.mem_of_getElem? (i := 731) (by decide +kernel), List.mem_of_getElem? (i := 732) (by decide +kernel)⟩
theorem lw_p63 : lw_okq (⟨"GroundTents$Camp", "isStep", "(III)Z"⟩, 7) := ⟨⟨by decide +kernel, by decide +kernel⟩, List.mem_of_getElem? (i := 25) (by decide +kernel), List.mem_of_getElem? (i := 744) (by decide +kernel), List.mem_of_getElem? (i := 745) (by decide +kernel)⟩
def lw_privs_4 : List (MethodName × Nat) := [(⟨"GroundTents$Tape", "nextToken", "()V"⟩, 6), (⟨"GroundTents$Tape", "sortAt", "(I)I"⟩, 6), (⟨"GroundTents$Tape", "numberAtHand", "()I"⟩, 6), (⟨"GroundTents$Tape", "readItem", "(LGroundTents$Camp;)Z"⟩, 6), (⟨"GroundTents$Tape", "isWord", "(Ljava/lang/String;)Z"⟩, 6), (⟨"GroundTents$Tape", "readTent", "(LGroundTents$Camp;I)Z"⟩, 6), (⟨"GroundTents$Tape", "readPitch", "(LGroundTents$Tent;)Z"⟩, 6), (⟨"GroundTents$Tape", "isNumberTo", "(I)Z"⟩, 6), (⟨"GroundTents$Tape", "readWorn", "(LGroundTents$Tent;)Z"⟩, 6), (⟨"GroundTents$Tape", "readFelt", "(LGroundTents$Tent;)Z"⟩, 6), (⟨"GroundTents$Tape", "readHeight", "(LGroundTents$Camp;)Z"⟩, 6), (⟨"GroundTents$Tape", "readSpring", "(LGroundTents$Camp;I)Z"⟩, 6), (⟨"GroundTents$Sheet", "renew", "(II)V"⟩, 3), (⟨"GroundTents$Sheet", "put", "(II)V"⟩, 3), (⟨"GroundTents$Sheet", "hasRun", "(II)Z"⟩, 3), (⟨"GroundTents$Camp", "isStep", "(III)Z"⟩, 7)]
theorem lw_r4 : ∀ q ∈ lw_privs_4, lw_okq q := List.forall_mem_cons.mpr ⟨lw_p48, List.forall_mem_cons.mpr ⟨lw_p49, List.forall_mem_cons.mpr ⟨lw_p50, List.forall_mem_cons.mpr ⟨lw_p51, List.forall_mem_cons.mpr ⟨lw_p52, List.forall_mem_cons.mpr ⟨lw_p53, List.forall_mem_cons.mpr ⟨lw_p54, List.forall_mem_cons.mpr ⟨lw_p55, List.forall_mem_cons.mpr ⟨lw_p56, List.forall_mem_cons.mpr ⟨lw_p57, List.forall_mem_cons.mpr ⟨lw_p58, List.forall_mem_cons.mpr ⟨lw_p59, List.forall_mem_cons.mpr ⟨lw_p60, List.forall_mem_cons.mpr ⟨lw_p61, List.forall_mem_cons.mpr ⟨lw_p62, List.forall_mem_cons.mpr ⟨lw_p63, fun _ h => absurd h List.not_mem_nil⟩⟩⟩⟩⟩⟩⟩⟩⟩⟩⟩⟩⟩⟩⟩⟩
theorem lw_p64 : lw_okq (⟨"GroundTents$Camp", "spotsHeld", "()I"⟩, 7) := ⟨⟨by decide +kernel, by decide +kernel⟩, List.mem_of_getElem? (i := 25) (by decide +kernel), List.mem_of_getElem? (i := 770) (by decide +kernel), List.mem_of_getElem? (i := 771) (by decide +kernel)⟩
theorem lw_p65 : lw_okq (⟨"GroundTentsModel", "becomes", "(II)I"⟩, 16) := ⟨⟨by decide +kernel, by decide +kernel⟩, List.mem_of_getElem? (i := 778) (by decide +kernel), List.mem_of_getElem? (i := 848) (by decide +kernel), List.mem_of_getElem? (i := 849) (by decide +kernel)⟩
theorem lw_p66 : lw_okq (⟨"GroundTentsModel", "finds", "(I)I"⟩, 16) := ⟨⟨by decide +kernel, by decide +kernel⟩, List.mem_of_getElem? (i := 778) (by decide +kernel), List.mem_of_getElem? (i := 852) (by decide +kernel), List.mem_of_getElem? (i := 853) (by decide +kernel)⟩
theorem lw_p67 : lw_okq (⟨"GroundTentsModel", "hasSpring", "(I)Z"⟩, 16) := ⟨⟨by decide +kernel, by decide +kernel⟩, List.mem_of_getElem? (i := 778) (by decide +kernel), List.mem_of_getElem? (i := 861) (by decide +kernel), List.mem_of_getElem? (i := 862) (by decide +kernel)⟩
theorem lw_p68 : lw_okq (⟨"GroundTentsModel", "springs", "(II)V"⟩, 16) := ⟨⟨by decide +kernel, by decide +kernel⟩, List.mem_of_getElem? (i := 778) (by decide +kernel), List.mem_of_getElem? (i := 865) (by decide +kernel), List.mem_of_getElem? (i := 866) (by decide +kernel)⟩
theorem lw_p69 : lw_okq (⟨"GroundTentsModel", "tentsOn", "(I)I"⟩, 16) := ⟨⟨by decide +kernel, by decide +kernel⟩, List.mem_of_getElem? (i := 778) (by decide +kernel), List.mem_of_getElem? (i := 874) (by decide +kernel), List.mem_of_getElem? (i := 875) (by decide +kernel)⟩
theorem lw_p70 : lw_okq (⟨"GroundTentsModel", "its", "(II)I"⟩, 16) := ⟨⟨by decide +kernel, by decide +kernel⟩, List.mem_of_getElem? (i := 778) (by decide +kernel), List.mem_of_getElem? (i := 878) (by decide +kernel), List.mem_of_getElem? (i := 879) (by decide +kernel)⟩
theorem lw_p71 : lw_okq (⟨"GroundTentsModel", "covers", "(II)Z"⟩, 16) := ⟨⟨by decide +kernel, by decide +kernel⟩, List.mem_of_getElem? (i := 778) (by decide +kernel), List.mem_of_getElem? (i := 882) (by decide +kernel), List.mem_of_getElem? (i := 883) (by decide +kernel)⟩
theorem lw_p72 : lw_okq (⟨"GroundTentsModel", "steepest", "(I)I"⟩, 16) := ⟨⟨by decide +kernel, by decide +kernel⟩, List.mem_of_getElem? (i := 778) (by decide +kernel), List.mem_of_getElem? (i := 889) (by decide +kernel), List.mem_of_getElem? (i := 890) (by decide +kernel)⟩
theorem lw_p73 : lw_okq (⟨"GroundTentsModel", "adds", "(I)I"⟩, 16) := ⟨⟨by decide +kernel, by decide +kernel⟩, List.mem_of_getElem? (i := 778) (by decide +kernel), List.mem_of_getElem? (i := 906) (by decide +kernel), List.mem_of_getElem? (i := 907) (by decide +kernel)⟩
theorem lw_p74 : lw_okq (⟨"GroundTentsModel", "sets", "(III)V"⟩, 16) := ⟨⟨by decide +kernel, by decide +kernel⟩, List.mem_of_getElem? (i := 778) (by decide +kernel), List.mem_of_getElem? (i := 910) (by decide +kernel), List.mem_of_getElem? (i := 911) (by decide +kernel)⟩
theorem lw_p75 : lw_okq (⟨"GroundTentsModel", "isTent", "(I)Z"⟩, 16) := ⟨⟨by decide +kernel, by decide +kernel⟩, List.mem_of_getElem? (i := 778) (by decide +kernel), List.mem_of_getElem? (i := 918) (by decide +kernel), List.mem_of_getElem? (i := 919) (by decide +kernel)⟩
theorem lw_p76 : lw_okq (⟨"GroundTentsModel", "wears", "(I)I"⟩, 16) := ⟨⟨by decide +kernel, by decide +kernel⟩, List.mem_of_getElem? (i := 778) (by decide +kernel), List.mem_of_getElem? (i := 923) (by decide +kernel), List.mem_of_getElem? (i := 924) (by decide +kernel)⟩
theorem lw_p77 : lw_okq (⟨"GroundTentsModel", "days", "(I)V"⟩, 16) := ⟨⟨by decide +kernel, by decide +kernel⟩, List.mem_of_getElem? (i := 778) (by decide +kernel), List.mem_of_getElem? (i := 947) (by decide +kernel), List.mem_of_getElem? (i := 948) (by decide +kernel)⟩
theorem lw_p78 : lw_okq (⟨"GroundTentsModel", "aDay", "()V"⟩, 16) := ⟨⟨by decide +kernel, by decide +kernel⟩, List.mem_of_getElem? (i := 778) (by decide +kernel), List.mem_of_getElem? (i := 951) (by decide +kernel), List.mem_of_getElem? (i := 952) (by decide +kernel)⟩
theorem lw_p79 : lw_okq (⟨"GroundTentsModel", "pressesOn", "(II)V"⟩, 16) := ⟨⟨by decide +kernel, by decide +kernel⟩, List.mem_of_getElem? (i := 778) (by decide +kernel), List.mem_of_getElem? (i := 955) (by decide +kernel), List.mem_of_getElem? (i := 956) (by decide +kernel)⟩
def lw_privs_5 : List (MethodName × Nat) := [(⟨"GroundTents$Camp", "spotsHeld", "()I"⟩, 7), (⟨"GroundTentsModel", "becomes", "(II)I"⟩, 16), (⟨"GroundTentsModel", "finds", "(I)I"⟩, 16), (⟨"GroundTentsModel", "hasSpring", "(I)Z"⟩, 16), (⟨"GroundTentsModel", "springs", "(II)V"⟩, 16), (⟨"GroundTentsModel", "tentsOn", "(I)I"⟩, 16), (⟨"GroundTentsModel", "its", "(II)I"⟩, 16), (⟨"GroundTentsModel", "covers", "(II)Z"⟩, 16), (⟨"GroundTentsModel", "steepest", "(I)I"⟩, 16), (⟨"GroundTentsModel", "adds", "(I)I"⟩, 16), (⟨"GroundTentsModel", "sets", "(III)V"⟩, 16), (⟨"GroundTentsModel", "isTent", "(I)Z"⟩, 16), (⟨"GroundTentsModel", "wears", "(I)I"⟩, 16), (⟨"GroundTentsModel", "days", "(I)V"⟩, 16), (⟨"GroundTentsModel", "aDay", "()V"⟩, 16), (⟨"GroundTentsModel", "pressesOn", "(II)V"⟩, 16)]
theorem lw_r5 : ∀ q ∈ lw_privs_5, lw_okq q := List.forall_mem_cons.mpr ⟨lw_p64, List.forall_mem_cons.mpr ⟨lw_p65, List.forall_mem_cons.mpr ⟨lw_p66, List.forall_mem_cons.mpr ⟨lw_p67, List.forall_mem_cons.mpr ⟨lw_p68, List.forall_mem_cons.mpr ⟨lw_p69, List.forall_mem_cons.mpr ⟨lw_p70, List.forall_mem_cons.mpr ⟨lw_p71, List.forall_mem_cons.mpr ⟨lw_p72, List.forall_mem_cons.mpr ⟨lw_p73, List.forall_mem_cons.mpr ⟨lw_p74, List.forall_mem_cons.mpr ⟨lw_p75, List.forall_mem_cons.mpr ⟨lw_p76, List.forall_mem_cons.mpr ⟨lw_p77, List.forall_mem_cons.mpr ⟨lw_p78, List.forall_mem_cons.mpr ⟨lw_p79, fun _ h => absurd h List.not_mem_nil⟩⟩⟩⟩⟩⟩⟩⟩⟩⟩⟩⟩⟩⟩⟩⟩
theorem lw_p80 : lw_okq (⟨"GroundTentsModel", "heights", "()I"⟩, 16) := ⟨⟨by decide +kernel, by decide +kernel⟩, List.mem_of_getElem? (i := 778) (by decide +kernel), List.mem_of_getElem? (i := 969) (by decide +kernel), List.mem_of_getElem? (i := 970) (by decide +kernel)⟩
theorem lw_p81 : lw_okq (⟨"GroundTentsModel", "pitched", "()I"⟩, 16) := ⟨⟨by decide +kernel, by decide +kernel⟩, List.mem_of_getElem? (i := 778) (by decide +kernel), List.mem_of_getElem? (i := 977) (by decide +kernel), List.mem_of_getElem? (i := 978) (by decide +kernel)⟩
theorem lw_p82 : lw_okq (⟨"GroundTentsModel", "allWorn", "()I"⟩, 16) := ⟨⟨by decide +kernel, by decide +kernel⟩, List.mem_of_getElem? (i := 778) (by decide +kernel), List.mem_of_getElem? (i := 981) (by decide +kernel), List.mem_of_getElem? (i := 982) (by decide +kernel)⟩
theorem lw_p83 : lw_okq (⟨"GroundTentsModel", "span", "()I"⟩, 16) := ⟨⟨by decide +kernel, by decide +kernel⟩, List.mem_of_getElem? (i := 778) (by decide +kernel), List.mem_of_getElem? (i := 985) (by decide +kernel), List.mem_of_getElem? (i := 986) (by decide +kernel)⟩
theorem lw_p84 : lw_okq (⟨"GroundTentsModel", "walk", "(II)V"⟩, 16) := ⟨⟨by decide +kernel, by decide +kernel⟩, List.mem_of_getElem? (i := 778) (by decide +kernel), List.mem_of_getElem? (i := 996) (by decide +kernel), List.mem_of_getElem? (i := 997) (by decide +kernel)⟩
theorem lw_p85 : lw_okq (⟨"GroundTentsModel", "canStep", "(III)Z"⟩, 16) := ⟨⟨by decide +kernel, by decide +kernel⟩, List.mem_of_getElem? (i := 778) (by decide +kernel), List.mem_of_getElem? (i := 1000) (by decide +kernel), List.mem_of_getElem? (i := 1001) (by decide +kernel)⟩
theorem lw_p86 : lw_okq (⟨"GroundTentsModel", "lends", "()V"⟩, 16) := ⟨⟨by decide +kernel, by decide +kernel⟩, List.mem_of_getElem? (i := 778) (by decide +kernel), List.mem_of_getElem? (i := 1021) (by decide +kernel), List.mem_of_getElem? (i := 1022) (by decide +kernel)⟩
theorem lw_p87 : lw_okq (⟨"GroundTentsModel", "laysBack", "()V"⟩, 16) := ⟨⟨by decide +kernel, by decide +kernel⟩, List.mem_of_getElem? (i := 778) (by decide +kernel), List.mem_of_getElem? (i := 1028) (by decide +kernel), List.mem_of_getElem? (i := 1029) (by decide +kernel)⟩
theorem lw_p88 : lw_okq (⟨"GroundTentsModel", "isThrough", "(III)Z"⟩, 16) := ⟨⟨by decide +kernel, by decide +kernel⟩, List.mem_of_getElem? (i := 778) (by decide +kernel), List.mem_of_getElem? (i := 1040) (by decide +kernel), List.mem_of_getElem? (i := 1041) (by decide +kernel)⟩
theorem lw_p89 : lw_okq (⟨"GroundTentsModel", "orNone", "(II)I"⟩, 16) := ⟨⟨by decide +kernel, by decide +kernel⟩, List.mem_of_getElem? (i := 778) (by decide +kernel), List.mem_of_getElem? (i := 1044) (by decide +kernel), List.mem_of_getElem? (i := 1045) (by decide +kernel)⟩
theorem lw_p90 : lw_okq (⟨"GroundTentsModel", "leavesAll", "()Z"⟩, 16) := ⟨⟨by decide +kernel, by decide +kernel⟩, List.mem_of_getElem? (i := 778) (by decide +kernel), List.mem_of_getElem? (i := 1052) (by decide +kernel), List.mem_of_getElem? (i := 1053) (by decide +kernel)⟩
theorem lw_p91 : lw_okq (⟨"GroundTentsModel", "isLying", "(II)Z"⟩, 16) := ⟨⟨by decide +kernel, by decide +kernel⟩, List.mem_of_getElem? (i := 778) (by decide +kernel), List.mem_of_getElem? (i := 1060) (by decide +kernel), List.mem_of_getElem? (i := 1061) (by decide +kernel)⟩
theorem lw_p92 : lw_okq (⟨"GroundTentsModel", "unlikeBy", "(II)I"⟩, 16) := ⟨⟨by decide +kernel, by decide +kernel⟩, List.mem_of_getElem? (i := 778) (by decide +kernel), List.mem_of_getElem? (i := 1071) (by decide +kernel), List.mem_of_getElem? (i := 1072) (by decide +kernel)⟩
theorem lw_p93 : lw_okq (⟨"GroundTentsModel", "heightsBy", "(III)I"⟩, 16) := ⟨⟨by decide +kernel, by decide +kernel⟩, List.mem_of_getElem? (i := 778) (by decide +kernel), List.mem_of_getElem? (i := 1091) (by decide +kernel), List.mem_of_getElem? (i := 1092) (by decide +kernel)⟩
theorem lw_p94 : lw_okq (⟨"GroundTentsModel", "alone", "(II)V"⟩, 16) := ⟨⟨by decide +kernel, by decide +kernel⟩, List.mem_of_getElem? (i := 778) (by decide +kernel), List.mem_of_getElem? (i := 1095) (by decide +kernel), List.mem_of_getElem? (i := 1096) (by decide +kernel)⟩
theorem lw_p95 : lw_okq (⟨"GroundTentsModel", "isOut", "(III)Z"⟩, 16) := ⟨⟨by decide +kernel, by decide +kernel⟩, List.mem_of_getElem? (i := 778) (by decide +kernel), List.mem_of_getElem? (i := 1103) (by decide +kernel), List.mem_of_getElem? (i := 1104) (by decide +kernel)⟩
def lw_privs_6 : List (MethodName × Nat) := [(⟨"GroundTentsModel", "heights", "()I"⟩, 16), (⟨"GroundTentsModel", "pitched", "()I"⟩, 16), (⟨"GroundTentsModel", "allWorn", "()I"⟩, 16), (⟨"GroundTentsModel", "span", "()I"⟩, 16), (⟨"GroundTentsModel", "walk", "(II)V"⟩, 16), (⟨"GroundTentsModel", "canStep", "(III)Z"⟩, 16), (⟨"GroundTentsModel", "lends", "()V"⟩, 16), (⟨"GroundTentsModel", "laysBack", "()V"⟩, 16), (⟨"GroundTentsModel", "isThrough", "(III)Z"⟩, 16), (⟨"GroundTentsModel", "orNone", "(II)I"⟩, 16), (⟨"GroundTentsModel", "leavesAll", "()Z"⟩, 16), (⟨"GroundTentsModel", "isLying", "(II)Z"⟩, 16), (⟨"GroundTentsModel", "unlikeBy", "(II)I"⟩, 16), (⟨"GroundTentsModel", "heightsBy", "(III)I"⟩, 16), (⟨"GroundTentsModel", "alone", "(II)V"⟩, 16), (⟨"GroundTentsModel", "isOut", "(III)Z"⟩, 16)]
theorem lw_r6 : ∀ q ∈ lw_privs_6, lw_okq q := List.forall_mem_cons.mpr ⟨lw_p80, List.forall_mem_cons.mpr ⟨lw_p81, List.forall_mem_cons.mpr ⟨lw_p82, List.forall_mem_cons.mpr ⟨lw_p83, List.forall_mem_cons.mpr ⟨lw_p84, List.forall_mem_cons.mpr ⟨lw_p85, List.forall_mem_cons.mpr ⟨lw_p86, List.forall_mem_cons.mpr ⟨lw_p87, List.forall_mem_cons.mpr ⟨lw_p88, List.forall_mem_cons.mpr ⟨lw_p89, List.forall_mem_cons.mpr ⟨lw_p90, List.forall_mem_cons.mpr ⟨lw_p91, List.forall_mem_cons.mpr ⟨lw_p92, List.forall_mem_cons.mpr ⟨lw_p93, List.forall_mem_cons.mpr ⟨lw_p94, List.forall_mem_cons.mpr ⟨lw_p95, fun _ h => absurd h List.not_mem_nil⟩⟩⟩⟩⟩⟩⟩⟩⟩⟩⟩⟩⟩⟩⟩⟩
theorem lw_p96 : lw_okq (⟨"GroundTentsModel", "lacksTent", "(II)I"⟩, 16) := ⟨⟨by decide +kernel, by decide +kernel⟩, List.mem_of_getElem? (i := 778) (by decide +kernel), List.mem_of_getElem? (i := 1111) (by decide +kernel), List.mem_of_getElem? (i := 1112) (by decide +kernel)⟩
theorem lw_p97 : lw_okq (⟨"GroundTentsModel", "lacks", "(I)I"⟩, 16) := ⟨⟨by decide +kernel, by decide +kernel⟩, List.mem_of_getElem? (i := 778) (by decide +kernel), List.mem_of_getElem? (i := 1115) (by decide +kernel), List.mem_of_getElem? (i := 1116) (by decide +kernel)⟩
theorem lw_p98 : lw_okq (⟨"GroundTentsModel", "isSo", "(II)Z"⟩, 16) := ⟨⟨by decide +kernel, by decide +kernel⟩, List.mem_of_getElem? (i := 778) (by decide +kernel), List.mem_of_getElem? (i := 1122) (by decide +kernel), List.mem_of_getElem? (i := 1123) (by decide +kernel)⟩
theorem lw_p99 : lw_okq (⟨"GroundTentsModel", "draw", "()I"⟩, 16) := ⟨⟨by decide +kernel, by decide +kernel⟩, List.mem_of_getElem? (i := 778) (by decide +kernel), List.mem_of_getElem? (i := 1135) (by decide +kernel), List.mem_of_getElem? (i := 1136) (by decide +kernel)⟩
theorem lw_p100 : lw_okq (⟨"GroundTentsModel", "dryPitches", "()I"⟩, 16) := ⟨⟨by decide +kernel, by decide +kernel⟩, List.mem_of_getElem? (i := 778) (by decide +kernel), List.mem_of_getElem? (i := 1144) (by decide +kernel), List.mem_of_getElem? (i := 1145) (by decide +kernel)⟩
theorem lw_p101 : lw_okq (⟨"GroundTentsModel", "next", "()V"⟩, 16) := ⟨⟨by decide +kernel, by decide +kernel⟩, List.mem_of_getElem? (i := 778) (by decide +kernel), List.mem_of_getElem? (i := 1165) (by decide +kernel), List.mem_of_getElem? (i := 1166) (by decide +kernel)⟩
theorem lw_p102 : lw_okq (⟨"GroundTentsModel", "isByte", "(III)Z"⟩, 16) := ⟨⟨by decide +kernel, by decide +kernel⟩, List.mem_of_getElem? (i := 778) (by decide +kernel), List.mem_of_getElem? (i := 1169) (by decide +kernel), List.mem_of_getElem? (i := 1170) (by decide +kernel)⟩
theorem lw_p103 : lw_okq (⟨"GroundTentsModel", "item", "()V"⟩, 16) := ⟨⟨by decide +kernel, by decide +kernel⟩, List.mem_of_getElem? (i := 778) (by decide +kernel), List.mem_of_getElem? (i := 1173) (by decide +kernel), List.mem_of_getElem? (i := 1174) (by decide +kernel)⟩
theorem lw_p104 : lw_okq (⟨"GroundTentsModel", "kindHere", "()I"⟩, 16) := ⟨⟨by decide +kernel, by decide +kernel⟩, List.mem_of_getElem? (i := 778) (by decide +kernel), List.mem_of_getElem? (i := 1177) (by decide +kernel), List.mem_of_getElem? (i := 1178) (by decide +kernel)⟩
theorem lw_p105 : lw_okq (⟨"GroundTentsModel", "isWord", "(Ljava/lang/String;)Z"⟩, 16) := ⟨⟨by decide +kernel, by decide +kernel⟩, List.mem_of_getElem? (i := 778) (by decide +kernel), List.mem_of_getElem? (i := 1182) (by decide +kernel), List.mem_of_getElem? (i := 1183) (by decide +kernel)⟩
theorem lw_p106 : lw_okq (⟨"GroundTentsModel", "tentTold", "(I)V"⟩, 16) := ⟨⟨by decide +kernel, by decide +kernel⟩, List.mem_of_getElem? (i := 778) (by decide +kernel), List.mem_of_getElem? (i := 1194) (by decide +kernel), List.mem_of_getElem? (i := 1195) (by decide +kernel)⟩
theorem lw_p107 : lw_okq (⟨"GroundTentsModel", "must", "(Z)V"⟩, 16) := ⟨⟨by decide +kernel, by decide +kernel⟩, List.mem_of_getElem? (i := 778) (by decide +kernel), List.mem_of_getElem? (i := 1198) (by decide +kernel), List.mem_of_getElem? (i := 1199) (by decide +kernel)⟩
theorem lw_p108 : lw_okq (⟨"GroundTentsModel", "takes", "(Ljava/lang/String;)Z"⟩, 16) := ⟨⟨by decide +kernel, by decide +kernel⟩, List.mem_of_getElem? (i := 778) (by decide +kernel), List.mem_of_getElem? (i := 1203) (by decide +kernel), List.mem_of_getElem? (i := 1204) (by decide +kernel)⟩
theorem lw_p109 : lw_okq (⟨"GroundTentsModel", "numberRead", "(II)I"⟩, 16) := ⟨⟨by decide +kernel, by decide +kernel⟩, List.mem_of_getElem? (i := 778) (by decide +kernel), List.mem_of_getElem? (i := 1207) (by decide +kernel), List.mem_of_getElem? (i := 1208) (by decide +kernel)⟩
theorem lw_p110 : lw_okq (⟨"GroundTentsModel", "springTold", "(I)V"⟩, 16) := ⟨⟨by decide +kernel, by decide +kernel⟩, List.mem_of_getElem? (i := 778) (by decide +kernel), List.mem_of_getElem? (i := 1215) (by decide +kernel), List.mem_of_getElem? (i := 1216) (by decide +kernel)⟩
theorem lw_p111 : lw_okq (⟨"GroundTentsModel", "goesOn", "(III)Z"⟩, 16) := ⟨⟨by decide +kernel, by decide +kernel⟩, List.mem_of_getElem? (i := 778) (by decide +kernel), List.mem_of_getElem? (i := 1259) (by decide +kernel), List.mem_of_getElem? (i := 1260) (by decide +kernel)⟩
def lw_privs_7 : List (MethodName × Nat) := [(⟨"GroundTentsModel", "lacksTent", "(II)I"⟩, 16), (⟨"GroundTentsModel", "lacks", "(I)I"⟩, 16), (⟨"GroundTentsModel", "isSo", "(II)Z"⟩, 16), (⟨"GroundTentsModel", "draw", "()I"⟩, 16), (⟨"GroundTentsModel", "dryPitches", "()I"⟩, 16), (⟨"GroundTentsModel", "next", "()V"⟩, 16), (⟨"GroundTentsModel", "isByte", "(III)Z"⟩, 16), (⟨"GroundTentsModel", "item", "()V"⟩, 16), (⟨"GroundTentsModel", "kindHere", "()I"⟩, 16), (⟨"GroundTentsModel", "isWord", "(Ljava/lang/String;)Z"⟩, 16), (⟨"GroundTentsModel", "tentTold", "(I)V"⟩, 16), (⟨"GroundTentsModel", "must", "(Z)V"⟩, 16), (⟨"GroundTentsModel", "takes", "(Ljava/lang/String;)Z"⟩, 16), (⟨"GroundTentsModel", "numberRead", "(II)I"⟩, 16), (⟨"GroundTentsModel", "springTold", "(I)V"⟩, 16), (⟨"GroundTentsModel", "goesOn", "(III)Z"⟩, 16)]
theorem lw_r7 : ∀ q ∈ lw_privs_7, lw_okq q := List.forall_mem_cons.mpr ⟨lw_p96, List.forall_mem_cons.mpr ⟨lw_p97, List.forall_mem_cons.mpr ⟨lw_p98, List.forall_mem_cons.mpr ⟨lw_p99, List.forall_mem_cons.mpr ⟨lw_p100, List.forall_mem_cons.mpr ⟨lw_p101, List.forall_mem_cons.mpr ⟨lw_p102, List.forall_mem_cons.mpr ⟨lw_p103, List.forall_mem_cons.mpr ⟨lw_p104, List.forall_mem_cons.mpr ⟨lw_p105, List.forall_mem_cons.mpr ⟨lw_p106, List.forall_mem_cons.mpr ⟨lw_p107, List.forall_mem_cons.mpr ⟨lw_p108, List.forall_mem_cons.mpr ⟨lw_p109, List.forall_mem_cons.mpr ⟨lw_p110, List.forall_mem_cons.mpr ⟨lw_p111, fun _ h => absurd h List.not_mem_nil⟩⟩⟩⟩⟩⟩⟩⟩⟩⟩⟩⟩⟩⟩⟩⟩
theorem lw_p112 : lw_okq (⟨"GroundTentsModel", "held", "()I"⟩, 16) := ⟨⟨by decide +kernel, by decide +kernel⟩, List.mem_of_getElem? (i := 778) (by decide +kernel), List.mem_of_getElem? (i := 1282) (by decide +kernel), List.mem_of_getElem? (i := 1283) (by decide +kernel)⟩
def lw_privs_8 : List (MethodName × Nat) := [(⟨"GroundTentsModel", "held", "()I"⟩, 16)]
theorem lw_r8 : ∀ q ∈ lw_privs_8, lw_okq q := List.forall_mem_cons.mpr ⟨lw_p112, fun _ h => absurd h List.not_mem_nil⟩
def lw_privs : List (MethodName × Nat) := lw_privs_1 ++ (lw_privs_2 ++ (lw_privs_3 ++ (lw_privs_4 ++ (lw_privs_5 ++ (lw_privs_6 ++ (lw_privs_7 ++ (lw_privs_8)))))))
def lw_tbl : List Cond := k2_sels lw_privs ++ tables_1
theorem lw_privs_ok : ∀ q ∈ lw_privs, lw_okq q := by
  show ∀ q ∈ lw_privs_1 ++ (lw_privs_2 ++ (lw_privs_3 ++ (lw_privs_4 ++ (lw_privs_5 ++ (lw_privs_6 ++ (lw_privs_7 ++ (lw_privs_8))))))), lw_okq q
  exact List.forall_mem_append.mpr ⟨lw_r1, List.forall_mem_append.mpr ⟨lw_r2, List.forall_mem_append.mpr ⟨lw_r3, List.forall_mem_append.mpr ⟨lw_r4, List.forall_mem_append.mpr ⟨lw_r5, List.forall_mem_append.mpr ⟨lw_r6, List.forall_mem_append.mpr ⟨lw_r7, lw_r8⟩⟩⟩⟩⟩⟩⟩
-- ===== end of PART A; then your names; then what follows =====
def RX0 : String := "GroundTents$Camp"
def TX0 : u_T := fun k => match k with
  | 0 => ("GroundTents$Camp", "heights", "[I", true)
  | 1 => ("GroundTents$Camp", "spots", "[I", true)
  | 2 => ("GroundTents$Camp", "tents", "[LGroundTents$Tent;", true)
  | 3 => ("GroundTents$Camp", "size", "I", false)
  | 4 => ("GroundTents$Camp", "springs", "I", false)
  | 5 => ("GroundTents$Camp", "day", "I", false)
  | _ => ("GroundTents$Camp", "z", "I", false)
def tyX0 : Nat → FieldType := fun k => match k with
  | 0 => .array .int
  | 1 => .array .int
  | 2 => .array (.object "GroundTents$Tent")
  | 3 => .int
  | 4 => .int
  | 5 => .int
  | _ => .int
abbrev wsX00 : List Cond := u_ws RX0 TX0 7
theorem nmX0 : ∀ a, a < 7 → ∀ b, b < 7 → a ≠ b → (TX0 a).2.1 ≠ (TX0 b).2.1 := by decide +kernel
theorem tyX0_ok : ∀ k, k < 7 → parseFieldDescriptor (TX0 k).2.2.1 = some (tyX0 k) := by decide +kernel
abbrev cX0_init : ByteArray := prog_2_method_1_code
def yX0_init : MethodName := ⟨RX0, "<init>", "()V"⟩
abbrev cX0_becomeLike : ByteArray := prog_2_method_2_code
def yX0_becomeLike : MethodName := ⟨RX0, "becomeLike", "(LGroundTents$Camp;)V"⟩
abbrev cX0_addTent : ByteArray := prog_2_method_3_code
def yX0_addTent : MethodName := ⟨RX0, "addTent", "(I)V"⟩
abbrev cX0_pitchAlone : ByteArray := prog_2_method_4_code
def yX0_pitchAlone : MethodName := ⟨RX0, "pitchAlone", "(II)V"⟩
abbrev cX0_draw : ByteArray := prog_2_method_5_code
def yX0_draw : MethodName := ⟨RX0, "draw", "()I"⟩
abbrev cX0_passDays : ByteArray := prog_2_method_6_code
def yX0_passDays : MethodName := ⟨RX0, "passDays", "(I)V"⟩
abbrev cX0_passDay : ByteArray := prog_2_method_7_code
def yX0_passDay : MethodName := ⟨RX0, "passDay", "()V"⟩
abbrev cX0_pressAndTake : ByteArray := prog_2_method_8_code
def yX0_pressAndTake : MethodName := ⟨RX0, "pressAndTake", "(LGroundTents$Tent;)V"⟩
abbrev cX0_springAt : ByteArray := prog_2_method_9_code
def yX0_springAt : MethodName := ⟨RX0, "springAt", "(I)I"⟩
abbrev cX0_setSpring : ByteArray := prog_2_method_10_code
def yX0_setSpring : MethodName := ⟨RX0, "setSpring", "(II)V"⟩
abbrev cX0_tentsOver : ByteArray := prog_2_method_11_code
def yX0_tentsOver : MethodName := ⟨RX0, "tentsOver", "(I)I"⟩
abbrev cX0_cellsUnder : ByteArray := prog_2_method_12_code
def yX0_cellsUnder : MethodName := ⟨RX0, "cellsUnder", "(I)I"⟩
abbrev cX0_dryPitches : ByteArray := prog_2_method_13_code
def yX0_dryPitches : MethodName := ⟨RX0, "dryPitches", "()I"⟩
abbrev cX0_steepnessAt : ByteArray := prog_2_method_14_code
def yX0_steepnessAt : MethodName := ⟨RX0, "steepnessAt", "(I)I"⟩
abbrev cX0_climbBetween : ByteArray := prog_2_method_15_code
def yX0_climbBetween : MethodName := ⟨RX0, "climbBetween", "(II)I"⟩
abbrev cX0_isStep : ByteArray := prog_2_method_16_code
def yX0_isStep : MethodName := ⟨RX0, "isStep", "(III)Z"⟩
abbrev cX0_heightSum : ByteArray := prog_2_method_17_code
def yX0_heightSum : MethodName := ⟨RX0, "heightSum", "()I"⟩
abbrev cX0_relief : ByteArray := prog_2_method_18_code
def yX0_relief : MethodName := ⟨RX0, "relief", "()I"⟩
abbrev cX0_liesAs : ByteArray := prog_2_method_19_code
def yX0_liesAs : MethodName := ⟨RX0, "liesAs", "([I)Z"⟩
abbrev cX0_pitchedSet : ByteArray := prog_2_method_20_code
def yX0_pitchedSet : MethodName := ⟨RX0, "pitchedSet", "()I"⟩
abbrev cX0_wornSum : ByteArray := prog_2_method_21_code
def yX0_wornSum : MethodName := ⟨RX0, "wornSum", "()I"⟩
abbrev cX0_spotsHeld : ByteArray := prog_2_method_22_code
def yX0_spotsHeld : MethodName := ⟨RX0, "spotsHeld", "()I"⟩
abbrev cX0_gap : ByteArray := prog_2_method_23_code
def yX0_gap : MethodName := ⟨RX0, "gap", "(LGroundTents$Tent;II)I"⟩
abbrev cX0_unlikeness : ByteArray := prog_2_method_24_code
def yX0_unlikeness : MethodName := ⟨RX0, "unlikeness", "(LGroundTents$Tent;I)I"⟩
abbrev cX0_greatestGap : ByteArray := prog_2_method_25_code
def yX0_greatestGap : MethodName := ⟨RX0, "greatestGap", "(LGroundTents$Tent;)I"⟩
def RX1 : String := "GroundTents$Flock"
def TX1 : u_T := fun k => match k with
  | 0 => ("GroundTents$Flock", "steps", "[I", true)
  | 1 => ("GroundTents$Flock", "queue", "[I", true)
  | 2 => ("GroundTents$Flock", "needs", "[I", true)
  | _ => ("GroundTents$Flock", "settled", "I", false)
def tyX1 : Nat → FieldType := fun k => match k with
  | 0 => .array .int
  | 1 => .array .int
  | 2 => .array .int
  | _ => .int
abbrev wsX10 : List Cond := u_ws RX1 TX1 4
theorem nmX1 : ∀ a, a < 4 → ∀ b, b < 4 → a ≠ b → (TX1 a).2.1 ≠ (TX1 b).2.1 := by decide +kernel
theorem tyX1_ok : ∀ k, k < 4 → parseFieldDescriptor (TX1 k).2.2.1 = some (tyX1 k) := by decide +kernel
abbrev cX1_init : ByteArray := prog_3_method_1_code
def yX1_init : MethodName := ⟨RX1, "<init>", "()V"⟩
abbrev cX1_stepsBetween : ByteArray := prog_3_method_2_code
def yX1_stepsBetween : MethodName := ⟨RX1, "stepsBetween", "(LGroundTents$Camp;III)I"⟩
abbrev cX1_roam : ByteArray := prog_3_method_3_code
def yX1_roam : MethodName := ⟨RX1, "roam", "(LGroundTents$Camp;II)V"⟩
abbrev cX1_reachedSet : ByteArray := prog_3_method_4_code
def yX1_reachedSet : MethodName := ⟨RX1, "reachedSet", "()I"⟩
abbrev cX1_nearestOf : ByteArray := prog_3_method_5_code
def yX1_nearestOf : MethodName := ⟨RX1, "nearestOf", "(I)I"⟩
abbrev cX1_leastClimb : ByteArray := prog_3_method_6_code
def yX1_leastClimb : MethodName := ⟨RX1, "leastClimb", "(LGroundTents$Camp;II)I"⟩
abbrev cX1_isSettled : ByteArray := prog_3_method_7_code
def yX1_isSettled : MethodName := ⟨RX1, "isSettled", "(I)Z"⟩
abbrev cX1_easiest : ByteArray := prog_3_method_8_code
def yX1_easiest : MethodName := ⟨RX1, "easiest", "()I"⟩
def RX2 : String := "GroundTents$Sheet"
def TX2 : u_T := fun k => match k with
  | 0 => ("GroundTents$Sheet", "bits", "I", false)
  | 1 => ("GroundTents$Sheet", "size", "I", false)
  | _ => ("GroundTents$Sheet", "numbers", "[I", true)
def tyX2 : Nat → FieldType := fun k => match k with
  | 0 => .int
  | 1 => .int
  | _ => .array .int
abbrev wsX20 : List Cond := u_ws RX2 TX2 3
theorem nmX2 : ∀ a, a < 3 → ∀ b, b < 3 → a ≠ b → (TX2 a).2.1 ≠ (TX2 b).2.1 := by decide +kernel
theorem tyX2_ok : ∀ k, k < 3 → parseFieldDescriptor (TX2 k).2.2.1 = some (tyX2 k) := by decide +kernel
abbrev cX2_init : ByteArray := prog_4_method_1_code
def yX2_init : MethodName := ⟨RX2, "<init>", "()V"⟩
abbrev cX2_isMissing : ByteArray := prog_4_method_2_code
def yX2_isMissing : MethodName := ⟨RX2, "isMissing", "()Z"⟩
abbrev cX2_renew : ByteArray := prog_4_method_3_code
def yX2_renew : MethodName := ⟨RX2, "renew", "(II)V"⟩
abbrev cX2_put : ByteArray := prog_4_method_4_code
def yX2_put : MethodName := ⟨RX2, "put", "(II)V"⟩
abbrev cX2_hasRun : ByteArray := prog_4_method_5_code
def yX2_hasRun : MethodName := ⟨RX2, "hasRun", "(II)Z"⟩
abbrev cX2_tells : ByteArray := prog_4_method_6_code
def yX2_tells : MethodName := ⟨RX2, "tells", "([I)Z"⟩
def RX3 : String := "GroundTents$Tape"
def TX3 : u_T := fun k => match k with
  | 0 => ("GroundTents$Tape", "bytes", "[I", true)
  | 1 => ("GroundTents$Tape", "length", "I", false)
  | 2 => ("GroundTents$Tape", "sort", "I", false)
  | 3 => ("GroundTents$Tape", "begin", "I", false)
  | 4 => ("GroundTents$Tape", "end", "I", false)
  | _ => ("GroundTents$Tape", "value", "I", false)
def tyX3 : Nat → FieldType := fun k => match k with
  | 0 => .array .int
  | 1 => .int
  | 2 => .int
  | 3 => .int
  | 4 => .int
  | _ => .int
abbrev wsX30 : List Cond := u_ws RX3 TX3 6
theorem nmX3 : ∀ a, a < 6 → ∀ b, b < 6 → a ≠ b → (TX3 a).2.1 ≠ (TX3 b).2.1 := by decide +kernel
theorem tyX3_ok : ∀ k, k < 6 → parseFieldDescriptor (TX3 k).2.2.1 = some (tyX3 k) := by decide +kernel
abbrev cX3_init : ByteArray := prog_5_method_1_code
def yX3_init : MethodName := ⟨RX3, "<init>", "()V"⟩
abbrev cX3_append : ByteArray := prog_5_method_2_code
def yX3_append : MethodName := ⟨RX3, "append", "(I)V"⟩
abbrev cX3_readText : ByteArray := prog_5_method_3_code
def yX3_readText : MethodName := ⟨RX3, "readText", "(LGroundTents$Camp;)I"⟩
abbrev cX3_readItem : ByteArray := prog_5_method_4_code
def yX3_readItem : MethodName := ⟨RX3, "readItem", "(LGroundTents$Camp;)Z"⟩
abbrev cX3_nameOf : ByteArray := prog_5_method_5_code
def yX3_nameOf : MethodName := ⟨RX3, "nameOf", "(I)Ljava/lang/String;"⟩
abbrev cX3_readTent : ByteArray := prog_5_method_6_code
def yX3_readTent : MethodName := ⟨RX3, "readTent", "(LGroundTents$Camp;I)Z"⟩
abbrev cX3_readPitch : ByteArray := prog_5_method_7_code
def yX3_readPitch : MethodName := ⟨RX3, "readPitch", "(LGroundTents$Tent;)Z"⟩
abbrev cX3_readWorn : ByteArray := prog_5_method_8_code
def yX3_readWorn : MethodName := ⟨RX3, "readWorn", "(LGroundTents$Tent;)Z"⟩
abbrev cX3_readFelt : ByteArray := prog_5_method_9_code
def yX3_readFelt : MethodName := ⟨RX3, "readFelt", "(LGroundTents$Tent;)Z"⟩
abbrev cX3_readHeight : ByteArray := prog_5_method_10_code
def yX3_readHeight : MethodName := ⟨RX3, "readHeight", "(LGroundTents$Camp;)Z"⟩
abbrev cX3_readSpring : ByteArray := prog_5_method_11_code
def yX3_readSpring : MethodName := ⟨RX3, "readSpring", "(LGroundTents$Camp;I)Z"⟩
abbrev cX3_isNumberTo : ByteArray := prog_5_method_12_code
def yX3_isNumberTo : MethodName := ⟨RX3, "isNumberTo", "(I)Z"⟩
abbrev cX3_isWord : ByteArray := prog_5_method_13_code
def yX3_isWord : MethodName := ⟨RX3, "isWord", "(Ljava/lang/String;)Z"⟩
abbrev cX3_nextToken : ByteArray := prog_5_method_14_code
def yX3_nextToken : MethodName := ⟨RX3, "nextToken", "()V"⟩
abbrev cX3_sortAt : ByteArray := prog_5_method_15_code
def yX3_sortAt : MethodName := ⟨RX3, "sortAt", "(I)I"⟩
abbrev cX3_numberAtHand : ByteArray := prog_5_method_16_code
def yX3_numberAtHand : MethodName := ⟨RX3, "numberAtHand", "()I"⟩
def RX4 : String := "GroundTents$Tent"
def TX4 : u_T := fun k => match k with
  | 0 => ("GroundTents$Tent", "kind", "I", false)
  | 1 => ("GroundTents$Tent", "pitch", "I", false)
  | 2 => ("GroundTents$Tent", "worn", "I", false)
  | _ => ("GroundTents$Tent", "felt", "[I", true)
def tyX4 : Nat → FieldType := fun k => match k with
  | 0 => .int
  | 1 => .int
  | 2 => .int
  | _ => .array .int
abbrev wsX40 : List Cond := u_ws RX4 TX4 4
theorem nmX4 : ∀ a, a < 4 → ∀ b, b < 4 → a ≠ b → (TX4 a).2.1 ≠ (TX4 b).2.1 := by decide +kernel
theorem tyX4_ok : ∀ k, k < 4 → parseFieldDescriptor (TX4 k).2.2.1 = some (tyX4 k) := by decide +kernel
abbrev cX4_init : ByteArray := prog_6_method_1_code
def yX4_init : MethodName := ⟨RX4, "<init>", "()V"⟩
abbrev cX4_renew : ByteArray := prog_6_method_2_code
def yX4_renew : MethodName := ⟨RX4, "renew", "(I)V"⟩
abbrev cX4_becomeLike : ByteArray := prog_6_method_3_code
def yX4_becomeLike : MethodName := ⟨RX4, "becomeLike", "(LGroundTents$Tent;)V"⟩
abbrev cX4_isPitched : ByteArray := prog_6_method_4_code
def yX4_isPitched : MethodName := ⟨RX4, "isPitched", "()Z"⟩
abbrev cX4_trait : ByteArray := prog_6_method_5_code
def yX4_trait : MethodName := ⟨RX4, "trait", "(I)I"⟩
abbrev cX4_mayBecome : ByteArray := prog_6_method_6_code
def yX4_mayBecome : MethodName := ⟨RX4, "mayBecome", "(II)Z"⟩
abbrev cX4_setTrait : ByteArray := prog_6_method_7_code
def yX4_setTrait : MethodName := ⟨RX4, "setTrait", "(II)V"⟩
abbrev cX4_forget : ByteArray := prog_6_method_8_code
def yX4_forget : MethodName := ⟨RX4, "forget", "()I"⟩
abbrev cX4_keepsNear : ByteArray := prog_6_method_9_code
def yX4_keepsNear : MethodName := ⟨RX4, "keepsNear", "(II)Z"⟩
abbrev cX4_wearOut : ByteArray := prog_6_method_10_code
def yX4_wearOut : MethodName := ⟨RX4, "wearOut", "()V"⟩
abbrev cX4_wear : ByteArray := prog_6_method_11_code
def yX4_wear : MethodName := ⟨RX4, "wear", "()I"⟩
abbrev cX4_pressed : ByteArray := prog_6_method_12_code
def yX4_pressed : MethodName := ⟨RX4, "pressed", "(II)I"⟩
abbrev cX4_patchedPress : ByteArray := prog_6_method_13_code
def yX4_patchedPress : MethodName := ⟨RX4, "patchedPress", "(II)I"⟩
abbrev cX4_taken : ByteArray := prog_6_method_14_code
def yX4_taken : MethodName := ⟨RX4, "taken", "(II)I"⟩
abbrev cX4_isUnder : ByteArray := prog_6_method_15_code
def yX4_isUnder : MethodName := ⟨RX4, "isUnder", "(II)Z"⟩
abbrev cX4_kindAbove : ByteArray := prog_6_method_16_code
def yX4_kindAbove : MethodName := ⟨RX4, "kindAbove", "(I)I"⟩
def RX5 : String := "GroundTents"
def TX5 : u_T := fun k => match k with
  | 0 => ("GroundTents", "camp", "LGroundTents$Camp;", true)
  | 1 => ("GroundTents", "image", "LGroundTents$Camp;", true)
  | 2 => ("GroundTents", "trial", "LGroundTents$Camp;", true)
  | 3 => ("GroundTents", "flock", "LGroundTents$Flock;", true)
  | 4 => ("GroundTents", "tape", "LGroundTents$Tape;", true)
  | 5 => ("GroundTents", "sheets", "[LGroundTents$Sheet;", true)
  | 6 => ("GroundTents", "found", "[I", true)
  | 7 => ("GroundTents", "earlier", "[I", true)
  | _ => ("GroundTents", "imageKept", "Z", false)
def tyX5 : Nat → FieldType := fun k => match k with
  | 0 => .object "GroundTents$Camp"
  | 1 => .object "GroundTents$Camp"
  | 2 => .object "GroundTents$Camp"
  | 3 => .object "GroundTents$Flock"
  | 4 => .object "GroundTents$Tape"
  | 5 => .array (.object "GroundTents$Sheet")
  | 6 => .array .int
  | 7 => .array .int
  | _ => .boolean
abbrev wsX50 : List Cond := u_ws RX5 TX5 9
theorem nmX5 : ∀ a, a < 9 → ∀ b, b < 9 → a ≠ b → (TX5 a).2.1 ≠ (TX5 b).2.1 := by decide +kernel
theorem tyX5_ok : ∀ k, k < 9 → parseFieldDescriptor (TX5 k).2.2.1 = some (tyX5 k) := by decide +kernel
abbrev cX5_init : ByteArray := prog_1_method_1_code
def yX5_init : MethodName := ⟨RX5, "<init>", "()V"⟩
abbrev cX5_height : ByteArray := prog_1_method_2_code
def yX5_height : MethodName := ⟨RX5, "height", "(II)I"⟩
abbrev cX5_spring : ByteArray := prog_1_method_3_code
def yX5_spring : MethodName := ⟨RX5, "spring", "(II)I"⟩
abbrev cX5_cell : ByteArray := prog_1_method_4_code
def yX5_cell : MethodName := ⟨RX5, "cell", "(II)I"⟩
abbrev cX5_tent : ByteArray := prog_1_method_5_code
def yX5_tent : MethodName := ⟨RX5, "tent", "(I)I"⟩
abbrev cX5_of : ByteArray := prog_1_method_6_code
def yX5_of : MethodName := ⟨RX5, "of", "(II)I"⟩
abbrev cX5_change : ByteArray := prog_1_method_7_code
def yX5_change : MethodName := ⟨RX5, "change", "(III)I"⟩
abbrev cX5_beat : ByteArray := prog_1_method_8_code
def yX5_beat : MethodName := ⟨RX5, "beat", "(I)I"⟩
abbrev cX5_go : ByteArray := prog_1_method_9_code
def yX5_go : MethodName := ⟨RX5, "go", "(I)I"⟩
abbrev cX5_now : ByteArray := prog_1_method_10_code
def yX5_now : MethodName := ⟨RX5, "now", "(I)I"⟩
abbrev cX5_way : ByteArray := prog_1_method_11_code
def yX5_way : MethodName := ⟨RX5, "way", "(III)I"⟩
abbrev cX5_climb : ByteArray := prog_1_method_12_code
def yX5_climb : MethodName := ⟨RX5, "climb", "(II)I"⟩
abbrev cX5_reach : ByteArray := prog_1_method_13_code
def yX5_reach : MethodName := ⟨RX5, "reach", "(II)I"⟩
abbrev cX5_drink : ByteArray := prog_1_method_14_code
def yX5_drink : MethodName := ⟨RX5, "drink", "(II)I"⟩
abbrev cX5_ahead : ByteArray := prog_1_method_15_code
def yX5_ahead : MethodName := ⟨RX5, "ahead", "(II)I"⟩
abbrev cX5_felt : ByteArray := prog_1_method_16_code
def yX5_felt : MethodName := ⟨RX5, "felt", "(III)I"⟩
abbrev cX5_when : ByteArray := prog_1_method_17_code
def yX5_when : MethodName := ⟨RX5, "when", "(III)I"⟩
abbrev cX5_settles : ByteArray := prog_1_method_18_code
def yX5_settles : MethodName := ⟨RX5, "settles", "()I"⟩
abbrev cX5_lies : ByteArray := prog_1_method_19_code
def yX5_lies : MethodName := ⟨RX5, "lies", "(II)I"⟩
abbrev cX5_unlike : ByteArray := prog_1_method_20_code
def yX5_unlike : MethodName := ⟨RX5, "unlike", "(II)I"⟩
abbrev cX5_home : ByteArray := prog_1_method_21_code
def yX5_home : MethodName := ⟨RX5, "home", "(I)I"⟩
abbrev cX5_pitchFor : ByteArray := prog_1_method_22_code
def yX5_pitchFor : MethodName := ⟨RX5, "pitchFor", "(IIII)I"⟩
abbrev cX5_kindFor : ByteArray := prog_1_method_23_code
def yX5_kindFor : MethodName := ⟨RX5, "kindFor", "(II)I"⟩
abbrev cX5_first : ByteArray := prog_1_method_24_code
def yX5_first : MethodName := ⟨RX5, "first", "(III)I"⟩
abbrev cX5_out : ByteArray := prog_1_method_25_code
def yX5_out : MethodName := ⟨RX5, "out", "(IIII)I"⟩
abbrev cX5_fits : ByteArray := prog_1_method_26_code
def yX5_fits : MethodName := ⟨RX5, "fits", "(II)I"⟩
abbrev cX5_kinds : ByteArray := prog_1_method_27_code
def yX5_kinds : MethodName := ⟨RX5, "kinds", "(II)I"⟩
abbrev cX5_nomads : ByteArray := prog_1_method_28_code
def yX5_nomads : MethodName := ⟨RX5, "nomads", "(I)I"⟩
abbrev cX5_odds : ByteArray := prog_1_method_29_code
def yX5_odds : MethodName := ⟨RX5, "odds", "(II)J"⟩
abbrev cX5_seed : ByteArray := prog_1_method_30_code
def yX5_seed : MethodName := ⟨RX5, "seed", "(I)I"⟩
abbrev cX5_feed : ByteArray := prog_1_method_31_code
def yX5_feed : MethodName := ⟨RX5, "feed", "(II)I"⟩
abbrev cX5_wipe : ByteArray := prog_1_method_32_code
def yX5_wipe : MethodName := ⟨RX5, "wipe", "()I"⟩
abbrev cX5_text : ByteArray := prog_1_method_33_code
def yX5_text : MethodName := ⟨RX5, "text", "()I"⟩
abbrev cX5_hold : ByteArray := prog_1_method_34_code
def yX5_hold : MethodName := ⟨RX5, "hold", "(II)I"⟩
abbrev cX5_as : ByteArray := prog_1_method_35_code
def yX5_as : MethodName := ⟨RX5, "as", "(II)I"⟩
abbrev cX5_sheet : ByteArray := prog_1_method_36_code
def yX5_sheet : MethodName := ⟨RX5, "sheet", "(III)I"⟩
abbrev cX5_write : ByteArray := prog_1_method_37_code
def yX5_write : MethodName := ⟨RX5, "write", "(III)I"⟩
abbrev cX5_copy : ByteArray := prog_1_method_38_code
def yX5_copy : MethodName := ⟨RX5, "copy", "(IIIII)I"⟩
abbrev cX5_load : ByteArray := prog_1_method_39_code
def yX5_load : MethodName := ⟨RX5, "load", "(I)I"⟩
abbrev cX5_judge : ByteArray := prog_1_method_40_code
def yX5_judge : MethodName := ⟨RX5, "judge", "(II)I"⟩
abbrev cX5_image : ByteArray := prog_1_method_41_code
def yX5_image : MethodName := ⟨RX5, "image", "()I"⟩
abbrev cX5_undo : ByteArray := prog_1_method_42_code
def yX5_undo : MethodName := ⟨RX5, "undo", "()I"⟩
abbrev cX5_tear : ByteArray := prog_1_method_43_code
def yX5_tear : MethodName := ⟨RX5, "tear", "()I"⟩
abbrev cX5_count : ByteArray := prog_1_method_44_code
def yX5_count : MethodName := ⟨RX5, "count", "(I)I"⟩
abbrev cX5_status : ByteArray := prog_1_method_45_code
def yX5_status : MethodName := ⟨RX5, "status", "(I)I"⟩
abbrev cX5_finding : ByteArray := prog_1_method_46_code
def yX5_finding : MethodName := ⟨RX5, "finding", "(I)I"⟩
abbrev cX5_within : ByteArray := prog_1_method_47_code
def yX5_within : MethodName := ⟨RX5, "within", "(III)Z"⟩
abbrev cX5_isCell : ByteArray := prog_1_method_48_code
def yX5_isCell : MethodName := ⟨RX5, "isCell", "(I)Z"⟩
abbrev cX5_isPitch : ByteArray := prog_1_method_49_code
def yX5_isPitch : MethodName := ⟨RX5, "isPitch", "(I)Z"⟩
abbrev cX5_isKind : ByteArray := prog_1_method_50_code
def yX5_isKind : MethodName := ⟨RX5, "isKind", "(I)Z"⟩
abbrev cX5_isSheet : ByteArray := prog_1_method_51_code
def yX5_isSheet : MethodName := ⟨RX5, "isSheet", "(I)Z"⟩
abbrev cX5_isMeasure : ByteArray := prog_1_method_52_code
def yX5_isMeasure : MethodName := ⟨RX5, "isMeasure", "(I)Z"⟩
abbrev cX5_isTent : ByteArray := prog_1_method_53_code
def yX5_isTent : MethodName := ⟨RX5, "isTent", "(I)Z"⟩
abbrev cX5_lackOf : ByteArray := prog_1_method_54_code
def yX5_lackOf : MethodName := ⟨RX5, "lackOf", "(I)I"⟩
abbrev cX5_supposeAlone : ByteArray := prog_1_method_55_code
def yX5_supposeAlone : MethodName := ⟨RX5, "supposeAlone", "(II)V"⟩
abbrev cX5_sumAfterBoth : ByteArray := prog_1_method_56_code
def yX5_sumAfterBoth : MethodName := ⟨RX5, "sumAfterBoth", "(III)I"⟩
abbrev cX5_power : ByteArray := prog_1_method_57_code
def yX5_power : MethodName := ⟨RX5, "power", "(JI)J"⟩
abbrev cX5_cellUnder : ByteArray := prog_1_method_58_code
def yX5_cellUnder : MethodName := ⟨RX5, "cellUnder", "(II)I"⟩
abbrev cX5_neighbour : ByteArray := prog_1_method_59_code
def yX5_neighbour : MethodName := ⟨RX5, "neighbour", "(II)I"⟩
def RX6 : String := "GroundTentsModel"
def TX6 : u_T := fun k => match k with
  | 0 => ("GroundTentsModel", "s", "[I", true)
  | 1 => ("GroundTentsModel", "kept", "[I", true)
  | 2 => ("GroundTentsModel", "aside", "[I", true)
  | 3 => ("GroundTentsModel", "isKept", "Z", false)
  | 4 => ("GroundTentsModel", "found", "[I", true)
  | 5 => ("GroundTentsModel", "far", "[I", true)
  | 6 => ("GroundTentsModel", "before", "[I", true)
  | 7 => ("GroundTentsModel", "tape", "[I", true)
  | 8 => ("GroundTentsModel", "taped", "I", false)
  | 9 => ("GroundTentsModel", "from", "I", false)
  | 10 => ("GroundTentsModel", "to", "I", false)
  | 11 => ("GroundTentsModel", "isWrong", "Z", false)
  | 12 => ("GroundTentsModel", "bitsOf", "[I", true)
  | 13 => ("GroundTentsModel", "sizeOf", "[I", true)
  | 14 => ("GroundTentsModel", "number", "[I", true)
  | _ => ("GroundTentsModel", "moved", "[I", true)
def tyX6 : Nat → FieldType := fun k => match k with
  | 0 => .array .int
  | 1 => .array .int
  | 2 => .array .int
  | 3 => .boolean
  | 4 => .array .int
  | 5 => .array .int
  | 6 => .array .int
  | 7 => .array .int
  | 8 => .int
  | 9 => .int
  | 10 => .int
  | 11 => .boolean
  | 12 => .array .int
  | 13 => .array .int
  | 14 => .array .int
  | _ => .array .int
abbrev wsX60 : List Cond := u_ws RX6 TX6 16
theorem nmX6 : ∀ a, a < 16 → ∀ b, b < 16 → a ≠ b → (TX6 a).2.1 ≠ (TX6 b).2.1 := by decide +kernel
theorem tyX6_ok : ∀ k, k < 16 → parseFieldDescriptor (TX6 k).2.2.1 = some (tyX6 k) := by decide +kernel
abbrev cX6_init : ByteArray := prog_8_method_1_code
def yX6_init : MethodName := ⟨RX6, "<init>", "()V"⟩
abbrev cX6_finds : ByteArray := prog_8_method_2_code
def yX6_finds : MethodName := ⟨RX6, "finds", "(I)I"⟩
abbrev cX6_in : ByteArray := prog_8_method_3_code
def yX6_in : MethodName := ⟨RX6, "in", "(JJJ)Z"⟩
abbrev cX6_become : ByteArray := prog_8_method_4_code
def yX6_become : MethodName := ⟨RX6, "become", "([I[I)V"⟩
abbrev cX6_lends : ByteArray := prog_8_method_5_code
def yX6_lends : MethodName := ⟨RX6, "lends", "()V"⟩
abbrev cX6_laysBack : ByteArray := prog_8_method_6_code
def yX6_laysBack : MethodName := ⟨RX6, "laysBack", "()V"⟩
abbrev cX6_isTent : ByteArray := prog_8_method_7_code
def yX6_isTent : MethodName := ⟨RX6, "isTent", "(I)Z"⟩
abbrev cX6_isCell : ByteArray := prog_8_method_8_code
def yX6_isCell : MethodName := ⟨RX6, "isCell", "(I)Z"⟩
abbrev cX6_isPitch : ByteArray := prog_8_method_9_code
def yX6_isPitch : MethodName := ⟨RX6, "isPitch", "(I)Z"⟩
abbrev cX6_isHigh : ByteArray := prog_8_method_10_code
def yX6_isHigh : MethodName := ⟨RX6, "isHigh", "(I)Z"⟩
abbrev cX6_held : ByteArray := prog_8_method_11_code
def yX6_held : MethodName := ⟨RX6, "held", "(I)I"⟩
abbrev cX6_its : ByteArray := prog_8_method_12_code
def yX6_its : MethodName := ⟨RX6, "its", "(II)I"⟩
abbrev cX6_sets : ByteArray := prog_8_method_13_code
def yX6_sets : MethodName := ⟨RX6, "sets", "(III)V"⟩
abbrev cX6_becomes : ByteArray := prog_8_method_14_code
def yX6_becomes : MethodName := ⟨RX6, "becomes", "(II)I"⟩
abbrev cX6_cellOf : ByteArray := prog_8_method_15_code
def yX6_cellOf : MethodName := ⟨RX6, "cellOf", "(II)I"⟩
abbrev cX6_areBeside : ByteArray := prog_8_method_16_code
def yX6_areBeside : MethodName := ⟨RX6, "areBeside", "(II)Z"⟩
abbrev cX6_aboveOf : ByteArray := prog_8_method_17_code
def yX6_aboveOf : MethodName := ⟨RX6, "aboveOf", "(I)I"⟩
abbrev cX6_isUnder : ByteArray := prog_8_method_18_code
def yX6_isUnder : MethodName := ⟨RX6, "isUnder", "(II)Z"⟩
abbrev cX6_isKind : ByteArray := prog_8_method_19_code
def yX6_isKind : MethodName := ⟨RX6, "isKind", "(I)Z"⟩
abbrev cX6_presses : ByteArray := prog_8_method_20_code
def yX6_presses : MethodName := ⟨RX6, "presses", "(III)I"⟩
abbrev cX6_takes : ByteArray := prog_8_method_21_code
def yX6_takes : MethodName := ⟨RX6, "takes", "(IIII)I"⟩
abbrev cX6_wears : ByteArray := prog_8_method_22_code
def yX6_wears : MethodName := ⟨RX6, "wears", "(I)I"⟩
abbrev cX6_adds : ByteArray := prog_8_method_23_code
def yX6_adds : MethodName := ⟨RX6, "adds", "(I)I"⟩
abbrev cX6_height : ByteArray := prog_8_method_24_code
def yX6_height : MethodName := ⟨RX6, "height", "(II)I"⟩
abbrev cX6_springs : ByteArray := prog_8_method_25_code
def yX6_springs : MethodName := ⟨RX6, "springs", "(II)V"⟩
abbrev cX6_hasSpring : ByteArray := prog_8_method_26_code
def yX6_hasSpring : MethodName := ⟨RX6, "hasSpring", "(I)Z"⟩
abbrev cX6_spring : ByteArray := prog_8_method_27_code
def yX6_spring : MethodName := ⟨RX6, "spring", "(II)I"⟩
abbrev cX6_covers : ByteArray := prog_8_method_28_code
def yX6_covers : MethodName := ⟨RX6, "covers", "(II)Z"⟩
abbrev cX6_tentsOn : ByteArray := prog_8_method_29_code
def yX6_tentsOn : MethodName := ⟨RX6, "tentsOn", "(I)I"⟩
abbrev cX6_steepest : ByteArray := prog_8_method_30_code
def yX6_steepest : MethodName := ⟨RX6, "steepest", "(I)I"⟩
abbrev cX6_cell : ByteArray := prog_8_method_31_code
def yX6_cell : MethodName := ⟨RX6, "cell", "(II)I"⟩
abbrev cX6_tent : ByteArray := prog_8_method_32_code
def yX6_tent : MethodName := ⟨RX6, "tent", "(I)I"⟩
abbrev cX6_of : ByteArray := prog_8_method_33_code
def yX6_of : MethodName := ⟨RX6, "of", "(II)I"⟩
abbrev cX6_mayBe : ByteArray := prog_8_method_34_code
def yX6_mayBe : MethodName := ⟨RX6, "mayBe", "(II)Z"⟩
abbrev cX6_change : ByteArray := prog_8_method_35_code
def yX6_change : MethodName := ⟨RX6, "change", "(III)I"⟩
abbrev cX6_beat : ByteArray := prog_8_method_36_code
def yX6_beat : MethodName := ⟨RX6, "beat", "(I)I"⟩
abbrev cX6_pressesOn : ByteArray := prog_8_method_37_code
def yX6_pressesOn : MethodName := ⟨RX6, "pressesOn", "(II)V"⟩
abbrev cX6_aDay : ByteArray := prog_8_method_38_code
def yX6_aDay : MethodName := ⟨RX6, "aDay", "()V"⟩
abbrev cX6_days : ByteArray := prog_8_method_39_code
def yX6_days : MethodName := ⟨RX6, "days", "(I)V"⟩
abbrev cX6_heights : ByteArray := prog_8_method_40_code
def yX6_heights : MethodName := ⟨RX6, "heights", "()I"⟩
abbrev cX6_go : ByteArray := prog_8_method_41_code
def yX6_go : MethodName := ⟨RX6, "go", "(I)I"⟩
abbrev cX6_ones : ByteArray := prog_8_method_42_code
def yX6_ones : MethodName := ⟨RX6, "ones", "(I)I"⟩
abbrev cX6_pitched : ByteArray := prog_8_method_43_code
def yX6_pitched : MethodName := ⟨RX6, "pitched", "()I"⟩
abbrev cX6_allWorn : ByteArray := prog_8_method_44_code
def yX6_allWorn : MethodName := ⟨RX6, "allWorn", "()I"⟩
abbrev cX6_span : ByteArray := prog_8_method_45_code
def yX6_span : MethodName := ⟨RX6, "span", "()I"⟩
abbrev cX6_now : ByteArray := prog_8_method_46_code
def yX6_now : MethodName := ⟨RX6, "now", "(I)I"⟩
abbrev cX6_canStep : ByteArray := prog_8_method_47_code
def yX6_canStep : MethodName := ⟨RX6, "canStep", "(III)Z"⟩
abbrev cX6_walk : ByteArray := prog_8_method_48_code
def yX6_walk : MethodName := ⟨RX6, "walk", "(II)V"⟩
abbrev cX6_areWay : ByteArray := prog_8_method_49_code
def yX6_areWay : MethodName := ⟨RX6, "areWay", "(III)Z"⟩
abbrev cX6_way : ByteArray := prog_8_method_50_code
def yX6_way : MethodName := ⟨RX6, "way", "(III)I"⟩
abbrev cX6_climb : ByteArray := prog_8_method_51_code
def yX6_climb : MethodName := ⟨RX6, "climb", "(II)I"⟩
abbrev cX6_reach : ByteArray := prog_8_method_52_code
def yX6_reach : MethodName := ⟨RX6, "reach", "(II)I"⟩
abbrev cX6_drink : ByteArray := prog_8_method_53_code
def yX6_drink : MethodName := ⟨RX6, "drink", "(II)I"⟩
abbrev cX6_ahead : ByteArray := prog_8_method_54_code
def yX6_ahead : MethodName := ⟨RX6, "ahead", "(II)I"⟩
abbrev cX6_felt : ByteArray := prog_8_method_55_code
def yX6_felt : MethodName := ⟨RX6, "felt", "(III)I"⟩
abbrev cX6_orNone : ByteArray := prog_8_method_56_code
def yX6_orNone : MethodName := ⟨RX6, "orNone", "(II)I"⟩
abbrev cX6_isThrough : ByteArray := prog_8_method_57_code
def yX6_isThrough : MethodName := ⟨RX6, "isThrough", "(III)Z"⟩
abbrev cX6_when : ByteArray := prog_8_method_58_code
def yX6_when : MethodName := ⟨RX6, "when", "(III)I"⟩
abbrev cX6_leavesAll : ByteArray := prog_8_method_59_code
def yX6_leavesAll : MethodName := ⟨RX6, "leavesAll", "()Z"⟩
abbrev cX6_settles : ByteArray := prog_8_method_60_code
def yX6_settles : MethodName := ⟨RX6, "settles", "()I"⟩
abbrev cX6_isLying : ByteArray := prog_8_method_61_code
def yX6_isLying : MethodName := ⟨RX6, "isLying", "(II)Z"⟩
abbrev cX6_lies : ByteArray := prog_8_method_62_code
def yX6_lies : MethodName := ⟨RX6, "lies", "(II)I"⟩
abbrev cX6_unlikeBy : ByteArray := prog_8_method_63_code
def yX6_unlikeBy : MethodName := ⟨RX6, "unlikeBy", "(II)I"⟩
abbrev cX6_unlike : ByteArray := prog_8_method_64_code
def yX6_unlike : MethodName := ⟨RX6, "unlike", "(II)I"⟩
abbrev cX6_home : ByteArray := prog_8_method_65_code
def yX6_home : MethodName := ⟨RX6, "home", "(I)I"⟩
abbrev cX6_pitchFor : ByteArray := prog_8_method_66_code
def yX6_pitchFor : MethodName := ⟨RX6, "pitchFor", "(IIII)I"⟩
abbrev cX6_kindFor : ByteArray := prog_8_method_67_code
def yX6_kindFor : MethodName := ⟨RX6, "kindFor", "(II)I"⟩
abbrev cX6_alone : ByteArray := prog_8_method_68_code
def yX6_alone : MethodName := ⟨RX6, "alone", "(II)V"⟩
abbrev cX6_heightsBy : ByteArray := prog_8_method_69_code
def yX6_heightsBy : MethodName := ⟨RX6, "heightsBy", "(III)I"⟩
abbrev cX6_first : ByteArray := prog_8_method_70_code
def yX6_first : MethodName := ⟨RX6, "first", "(III)I"⟩
abbrev cX6_isOut : ByteArray := prog_8_method_71_code
def yX6_isOut : MethodName := ⟨RX6, "isOut", "(III)Z"⟩
abbrev cX6_out : ByteArray := prog_8_method_72_code
def yX6_out : MethodName := ⟨RX6, "out", "(IIII)I"⟩
abbrev cX6_isSo : ByteArray := prog_8_method_73_code
def yX6_isSo : MethodName := ⟨RX6, "isSo", "(II)Z"⟩
abbrev cX6_lacksTent : ByteArray := prog_8_method_74_code
def yX6_lacksTent : MethodName := ⟨RX6, "lacksTent", "(II)I"⟩
abbrev cX6_fits : ByteArray := prog_8_method_75_code
def yX6_fits : MethodName := ⟨RX6, "fits", "(II)I"⟩
abbrev cX6_kinds : ByteArray := prog_8_method_76_code
def yX6_kinds : MethodName := ⟨RX6, "kinds", "(II)I"⟩
abbrev cX6_draw : ByteArray := prog_8_method_77_code
def yX6_draw : MethodName := ⟨RX6, "draw", "()I"⟩
abbrev cX6_nomads : ByteArray := prog_8_method_78_code
def yX6_nomads : MethodName := ⟨RX6, "nomads", "(I)I"⟩
abbrev cX6_dryPitches : ByteArray := prog_8_method_79_code
def yX6_dryPitches : MethodName := ⟨RX6, "dryPitches", "()I"⟩
abbrev cX6_odds : ByteArray := prog_8_method_80_code
def yX6_odds : MethodName := ⟨RX6, "odds", "(II)J"⟩
abbrev cX6_seed : ByteArray := prog_8_method_81_code
def yX6_seed : MethodName := ⟨RX6, "seed", "(I)I"⟩
abbrev cX6_feed : ByteArray := prog_8_method_82_code
def yX6_feed : MethodName := ⟨RX6, "feed", "(II)I"⟩
abbrev cX6_wipe : ByteArray := prog_8_method_83_code
def yX6_wipe : MethodName := ⟨RX6, "wipe", "()I"⟩
abbrev cX6_isByte : ByteArray := prog_8_method_84_code
def yX6_isByte : MethodName := ⟨RX6, "isByte", "(III)Z"⟩
abbrev cX6_next : ByteArray := prog_8_method_85_code
def yX6_next : MethodName := ⟨RX6, "next", "()V"⟩
abbrev cX6_isWord : ByteArray := prog_8_method_86_code
def yX6_isWord : MethodName := ⟨RX6, "isWord", "(Ljava/lang/String;)Z"⟩
abbrev cX6_must : ByteArray := prog_8_method_87_code
def yX6_must : MethodName := ⟨RX6, "must", "(Z)V"⟩
abbrev cX6_takes_ : ByteArray := prog_8_method_88_code
def yX6_takes_ : MethodName := ⟨RX6, "takes", "(Ljava/lang/String;)Z"⟩
abbrev cX6_numberRead : ByteArray := prog_8_method_89_code
def yX6_numberRead : MethodName := ⟨RX6, "numberRead", "(II)I"⟩
abbrev cX6_kindHere : ByteArray := prog_8_method_90_code
def yX6_kindHere : MethodName := ⟨RX6, "kindHere", "()I"⟩
abbrev cX6_tentTold : ByteArray := prog_8_method_91_code
def yX6_tentTold : MethodName := ⟨RX6, "tentTold", "(I)V"⟩
abbrev cX6_springTold : ByteArray := prog_8_method_92_code
def yX6_springTold : MethodName := ⟨RX6, "springTold", "(I)V"⟩
abbrev cX6_item : ByteArray := prog_8_method_93_code
def yX6_item : MethodName := ⟨RX6, "item", "()V"⟩
abbrev cX6_text : ByteArray := prog_8_method_94_code
def yX6_text : MethodName := ⟨RX6, "text", "()I"⟩
abbrev cX6_isSpot : ByteArray := prog_8_method_95_code
def yX6_isSpot : MethodName := ⟨RX6, "isSpot", "(I)Z"⟩
abbrev cX6_hold : ByteArray := prog_8_method_96_code
def yX6_hold : MethodName := ⟨RX6, "hold", "(II)I"⟩
abbrev cX6_as : ByteArray := prog_8_method_97_code
def yX6_as : MethodName := ⟨RX6, "as", "(II)I"⟩
abbrev cX6_isSheet : ByteArray := prog_8_method_98_code
def yX6_isSheet : MethodName := ⟨RX6, "isSheet", "(I)Z"⟩
abbrev cX6_sheet : ByteArray := prog_8_method_99_code
def yX6_sheet : MethodName := ⟨RX6, "sheet", "(III)I"⟩
abbrev cX6_lacks : ByteArray := prog_8_method_100_code
def yX6_lacks : MethodName := ⟨RX6, "lacks", "(I)I"⟩
abbrev cX6_write : ByteArray := prog_8_method_101_code
def yX6_write : MethodName := ⟨RX6, "write", "(III)I"⟩
abbrev cX6_copy : ByteArray := prog_8_method_102_code
def yX6_copy : MethodName := ⟨RX6, "copy", "(IIIII)I"⟩
abbrev cX6_load : ByteArray := prog_8_method_103_code
def yX6_load : MethodName := ⟨RX6, "load", "(I)I"⟩
abbrev cX6_goesOn : ByteArray := prog_8_method_104_code
def yX6_goesOn : MethodName := ⟨RX6, "goesOn", "(III)Z"⟩
abbrev cX6_judge : ByteArray := prog_8_method_105_code
def yX6_judge : MethodName := ⟨RX6, "judge", "(II)I"⟩
abbrev cX6_image : ByteArray := prog_8_method_106_code
def yX6_image : MethodName := ⟨RX6, "image", "()I"⟩
abbrev cX6_undo : ByteArray := prog_8_method_107_code
def yX6_undo : MethodName := ⟨RX6, "undo", "()I"⟩
abbrev cX6_tear : ByteArray := prog_8_method_108_code
def yX6_tear : MethodName := ⟨RX6, "tear", "()I"⟩
abbrev cX6_held_ : ByteArray := prog_8_method_109_code
def yX6_held_ : MethodName := ⟨RX6, "held", "()I"⟩
abbrev cX6_count : ByteArray := prog_8_method_110_code
def yX6_count : MethodName := ⟨RX6, "count", "(I)I"⟩
abbrev cX6_status : ByteArray := prog_8_method_111_code
def yX6_status : MethodName := ⟨RX6, "status", "(I)I"⟩
def RJ6 : String := "java/lang/Integer"
abbrev cJ6_bitCount_0f7a4 : ByteArray := prog_9_method_49_code
def yJ6_bitCount_0f7a4 : MethodName := ⟨RJ6, "bitCount", "(I)I"⟩
def RJ9 : String := "java/lang/Math"
abbrev cJ9_abs_0f7a4 : ByteArray := prog_10_method_59_code
def yJ9_abs_0f7a4 : MethodName := ⟨RJ9, "abs", "(I)I"⟩
abbrev cJ9_max_7cf53 : ByteArray := prog_10_method_65_code
def yJ9_max_7cf53 : MethodName := ⟨RJ9, "max", "(II)I"⟩
abbrev cJ9_min_7cf53 : ByteArray := prog_10_method_69_code
def yJ9_min_7cf53 : MethodName := ⟨RJ9, "min", "(II)I"⟩
def RJ0 : String := "java/lang/String"
abbrev cJ0_length_8abf5 : ByteArray := prog_11_method_54_code
def yJ0_length_8abf5 : MethodName := ⟨RJ0, "length", "()I"⟩
abbrev cJ0_charAt_5068e : ByteArray := prog_11_method_56_code
def yJ0_charAt_5068e : MethodName := ⟨RJ0, "charAt", "(I)C"⟩
abbrev cJ0_coder_7d493 : ByteArray := prog_11_method_152_code
def yJ0_coder_7d493 : MethodName := ⟨RJ0, "coder", "()B"⟩
abbrev cJ0_isLatin1_aae02 : ByteArray := prog_11_method_154_code
def yJ0_isLatin1_aae02 : MethodName := ⟨RJ0, "isLatin1", "()Z"⟩
abbrev cJ0_checkIndex_df160 : ByteArray := prog_11_method_155_code
def yJ0_checkIndex_df160 : MethodName := ⟨RJ0, "checkIndex", "(II)V"⟩
def RJ1 : String := "java/lang/StringLatin1"
abbrev cJ1_charAt_3b067 : ByteArray := prog_12_method_2_code
def yJ1_charAt_3b067 : MethodName := ⟨RJ1, "charAt", "([BI)C"⟩
def RJ2 : String := "java/lang/StringUTF16"
abbrev cJ2_getChar_3b067 : ByteArray := prog_13_method_5_code
def yJ2_getChar_3b067 : MethodName := ⟨RJ2, "getChar", "([BI)C"⟩
abbrev cJ2_length_9d52b : ByteArray := prog_13_method_6_code
def yJ2_length_9d52b : MethodName := ⟨RJ2, "length", "([B)I"⟩
abbrev cJ2_charAt_3b067 : ByteArray := prog_13_method_83_code
def yJ2_charAt_3b067 : MethodName := ⟨RJ2, "charAt", "([BI)C"⟩
abbrev cJ2_checkIndex_2214a : ByteArray := prog_13_method_91_code
def yJ2_checkIndex_2214a : MethodName := ⟨RJ2, "checkIndex", "(I[B)V"⟩
def RJ10 : String := "java/lang/System"
def RJ7 : String := "java/util/Arrays"
abbrev cJ7_fill_53178 : ByteArray := prog_15_method_103_code
def yJ7_fill_53178 : MethodName := ⟨RJ7, "fill", "([II)V"⟩
def RJ3 : String := "jdk/internal/util/Preconditions"
abbrev cJ3_checkIndex_8e157 : ByteArray := prog_16_method_11_code
def yJ3_checkIndex_8e157 : MethodName := ⟨RJ3, "checkIndex", "(IILjava/util/function/BiFunction;)I"⟩
def RL : String := "GroundTentsLaw"
abbrev cL_law : ByteArray := code
def yL_law : MethodName := ⟨RL, "law", "([I)Z"⟩
abbrev vwCl : List vw_C := [(RX0, TX0, 7), (RX1, TX1, 4), (RX2, TX2, 3), (RX3, TX3, 6), (RX4, TX4, 4), (RX5, TX5, 9), (RX6, TX6, 16)]
end
section
theorem dJ0_length_8abf5_0 : decode cJ0_length_8abf5 0 = .ok (.aload_n 0, 1) := by decide +kernel
theorem dJ0_length_8abf5_1 : decode cJ0_length_8abf5 1 = .ok (.getfield 9, 3) := by decide +kernel
theorem dJ0_length_8abf5_4 : decode cJ0_length_8abf5 4 = .ok (.arraylength, 1) := by decide +kernel
theorem dJ0_length_8abf5_5 : decode cJ0_length_8abf5 5 = .ok (.aload_n 0, 1) := by decide +kernel
theorem dJ0_length_8abf5_6 : decode cJ0_length_8abf5 6 = .ok (.invokevirtual 335, 3) := by decide +kernel
theorem dJ0_length_8abf5_9 : decode cJ0_length_8abf5 9 = .ok (.ishr, 1) := by decide +kernel
theorem dJ0_length_8abf5_10 : decode cJ0_length_8abf5 10 = .ok (.ireturn, 1) := by decide +kernel
theorem dJ0_charAt_5068e_0 : decode cJ0_charAt_5068e 0 = .ok (.aload_n 0, 1) := by decide +kernel
theorem dJ0_charAt_5068e_1 : decode cJ0_charAt_5068e 1 = .ok (.invokevirtual 492, 3) := by decide +kernel
theorem dJ0_charAt_5068e_4 : decode cJ0_charAt_5068e 4 = .ok (.ifCond .eq 12, 3) := by decide +kernel
theorem dJ0_charAt_5068e_7 : decode cJ0_charAt_5068e 7 = .ok (.aload_n 0, 1) := by decide +kernel
theorem dJ0_charAt_5068e_8 : decode cJ0_charAt_5068e 8 = .ok (.getfield 9, 3) := by decide +kernel
theorem dJ0_charAt_5068e_11 : decode cJ0_charAt_5068e 11 = .ok (.iload_n 1, 1) := by decide +kernel
theorem dJ0_charAt_5068e_12 : decode cJ0_charAt_5068e 12 = .ok (.invokestatic 495, 3) := by decide +kernel
theorem dJ0_charAt_5068e_15 : decode cJ0_charAt_5068e 15 = .ok (.ireturn, 1) := by decide +kernel
theorem dJ0_charAt_5068e_16 : decode cJ0_charAt_5068e 16 = .ok (.aload_n 0, 1) := by decide +kernel
theorem dJ0_charAt_5068e_17 : decode cJ0_charAt_5068e 17 = .ok (.getfield 9, 3) := by decide +kernel
theorem dJ0_charAt_5068e_20 : decode cJ0_charAt_5068e 20 = .ok (.iload_n 1, 1) := by decide +kernel
theorem dJ0_charAt_5068e_21 : decode cJ0_charAt_5068e 21 = .ok (.invokestatic 498, 3) := by decide +kernel
theorem dJ0_charAt_5068e_24 : decode cJ0_charAt_5068e 24 = .ok (.ireturn, 1) := by decide +kernel
theorem dJ0_coder_7d493_0 : decode cJ0_coder_7d493 0 = .ok (.getstatic 38, 3) := by decide +kernel
theorem dJ0_coder_7d493_3 : decode cJ0_coder_7d493 3 = .ok (.ifCond .eq 10, 3) := by decide +kernel
theorem dJ0_coder_7d493_6 : decode cJ0_coder_7d493 6 = .ok (.aload_n 0, 1) := by decide +kernel
theorem dJ0_coder_7d493_7 : decode cJ0_coder_7d493 7 = .ok (.getfield 15, 3) := by decide +kernel
theorem dJ0_coder_7d493_10 : decode cJ0_coder_7d493 10 = .ok (.goto 4, 3) := by decide +kernel
theorem dJ0_coder_7d493_13 : decode cJ0_coder_7d493 13 = .ok (.iconst 1, 1) := by decide +kernel
theorem dJ0_coder_7d493_14 : decode cJ0_coder_7d493 14 = .ok (.ireturn, 1) := by decide +kernel
theorem dJ0_isLatin1_aae02_0 : decode cJ0_isLatin1_aae02 0 = .ok (.getstatic 38, 3) := by decide +kernel
theorem dJ0_isLatin1_aae02_3 : decode cJ0_isLatin1_aae02 3 = .ok (.ifCond .eq 14, 3) := by decide +kernel
theorem dJ0_isLatin1_aae02_6 : decode cJ0_isLatin1_aae02 6 = .ok (.aload_n 0, 1) := by decide +kernel
theorem dJ0_isLatin1_aae02_7 : decode cJ0_isLatin1_aae02 7 = .ok (.getfield 15, 3) := by decide +kernel
theorem dJ0_isLatin1_aae02_10 : decode cJ0_isLatin1_aae02 10 = .ok (.ifCond .ne 7, 3) := by decide +kernel
theorem dJ0_isLatin1_aae02_13 : decode cJ0_isLatin1_aae02 13 = .ok (.iconst 1, 1) := by decide +kernel
theorem dJ0_isLatin1_aae02_14 : decode cJ0_isLatin1_aae02 14 = .ok (.goto 4, 3) := by decide +kernel
theorem dJ0_isLatin1_aae02_17 : decode cJ0_isLatin1_aae02 17 = .ok (.iconst 0, 1) := by decide +kernel
theorem dJ0_isLatin1_aae02_18 : decode cJ0_isLatin1_aae02 18 = .ok (.ireturn, 1) := by decide +kernel
theorem dJ0_checkIndex_df160_0 : decode cJ0_checkIndex_df160 0 = .ok (.iload_n 0, 1) := by decide +kernel
theorem dJ0_checkIndex_df160_1 : decode cJ0_checkIndex_df160 1 = .ok (.iload_n 1, 1) := by decide +kernel
theorem dJ0_checkIndex_df160_2 : decode cJ0_checkIndex_df160 2 = .ok (.getstatic 1053, 3) := by decide +kernel
theorem dJ0_checkIndex_df160_5 : decode cJ0_checkIndex_df160 5 = .ok (.invokestatic 1059, 3) := by decide +kernel
theorem dJ0_checkIndex_df160_8 : decode cJ0_checkIndex_df160 8 = .ok (.pop, 1) := by decide +kernel
theorem dJ0_checkIndex_df160_9 : decode cJ0_checkIndex_df160 9 = .ok (.return_, 1) := by decide +kernel
theorem dJ1_charAt_3b067_0 : decode cJ1_charAt_3b067 0 = .ok (.iload_n 1, 1) := by decide +kernel
theorem dJ1_charAt_3b067_1 : decode cJ1_charAt_3b067 1 = .ok (.aload_n 0, 1) := by decide +kernel
theorem dJ1_charAt_3b067_2 : decode cJ1_charAt_3b067 2 = .ok (.arraylength, 1) := by decide +kernel
theorem dJ1_charAt_3b067_3 : decode cJ1_charAt_3b067 3 = .ok (.invokestatic 9, 3) := by decide +kernel
theorem dJ1_charAt_3b067_6 : decode cJ1_charAt_3b067 6 = .ok (.aload_n 0, 1) := by decide +kernel
theorem dJ1_charAt_3b067_7 : decode cJ1_charAt_3b067 7 = .ok (.iload_n 1, 1) := by decide +kernel
theorem dJ1_charAt_3b067_8 : decode cJ1_charAt_3b067 8 = .ok (.baload, 1) := by decide +kernel
theorem dJ1_charAt_3b067_9 : decode cJ1_charAt_3b067 9 = .ok (.sipush 255, 3) := by decide +kernel
theorem dJ1_charAt_3b067_12 : decode cJ1_charAt_3b067 12 = .ok (.iand, 1) := by decide +kernel
theorem dJ1_charAt_3b067_13 : decode cJ1_charAt_3b067 13 = .ok (.i2c, 1) := by decide +kernel
theorem dJ1_charAt_3b067_14 : decode cJ1_charAt_3b067 14 = .ok (.ireturn, 1) := by decide +kernel
theorem dJ2_getChar_3b067_0 : decode cJ2_getChar_3b067 0 = .ok (.getstatic 44, 3) := by decide +kernel
theorem dJ2_getChar_3b067_3 : decode cJ2_getChar_3b067 3 = .ok (.ifCond .ne 25, 3) := by decide +kernel
theorem dJ2_getChar_3b067_6 : decode cJ2_getChar_3b067 6 = .ok (.iload_n 1, 1) := by decide +kernel
theorem dJ2_getChar_3b067_7 : decode cJ2_getChar_3b067 7 = .ok (.ifCond .lt 11, 3) := by decide +kernel
theorem dJ2_getChar_3b067_10 : decode cJ2_getChar_3b067 10 = .ok (.iload_n 1, 1) := by decide +kernel
theorem dJ2_getChar_3b067_11 : decode cJ2_getChar_3b067 11 = .ok (.aload_n 0, 1) := by decide +kernel
theorem dJ2_getChar_3b067_12 : decode cJ2_getChar_3b067 12 = .ok (.invokestatic 48, 3) := by decide +kernel
theorem dJ2_getChar_3b067_15 : decode cJ2_getChar_3b067 15 = .ok (.if_icmp .lt 13, 3) := by decide +kernel
theorem dJ2_getChar_3b067_18 : decode cJ2_getChar_3b067 18 = .ok (.new 52, 3) := by decide +kernel
theorem dJ2_getChar_3b067_21 : decode cJ2_getChar_3b067 21 = .ok (.dup, 1) := by decide +kernel
theorem dJ2_getChar_3b067_22 : decode cJ2_getChar_3b067 22 = .ok (.ldc 54, 2) := by decide +kernel
theorem dJ2_getChar_3b067_24 : decode cJ2_getChar_3b067 24 = .ok (.invokespecial 56, 3) := by decide +kernel
theorem dJ2_getChar_3b067_27 : decode cJ2_getChar_3b067 27 = .ok (.athrow, 1) := by decide +kernel
theorem dJ2_getChar_3b067_28 : decode cJ2_getChar_3b067 28 = .ok (.iload_n 1, 1) := by decide +kernel
theorem dJ2_getChar_3b067_29 : decode cJ2_getChar_3b067 29 = .ok (.iconst 1, 1) := by decide +kernel
theorem dJ2_getChar_3b067_30 : decode cJ2_getChar_3b067 30 = .ok (.ishl, 1) := by decide +kernel
theorem dJ2_getChar_3b067_31 : decode cJ2_getChar_3b067 31 = .ok (.istore_n 1, 1) := by decide +kernel
theorem dJ2_getChar_3b067_32 : decode cJ2_getChar_3b067 32 = .ok (.aload_n 0, 1) := by decide +kernel
theorem dJ2_getChar_3b067_33 : decode cJ2_getChar_3b067 33 = .ok (.iload_n 1, 1) := by decide +kernel
theorem dJ2_getChar_3b067_34 : decode cJ2_getChar_3b067 34 = .ok (.iinc 1 1, 3) := by decide +kernel
theorem dJ2_getChar_3b067_37 : decode cJ2_getChar_3b067 37 = .ok (.baload, 1) := by decide +kernel
theorem dJ2_getChar_3b067_38 : decode cJ2_getChar_3b067 38 = .ok (.sipush 255, 3) := by decide +kernel
theorem dJ2_getChar_3b067_41 : decode cJ2_getChar_3b067 41 = .ok (.iand, 1) := by decide +kernel
theorem dJ2_getChar_3b067_42 : decode cJ2_getChar_3b067 42 = .ok (.getstatic 59, 3) := by decide +kernel
theorem dJ2_getChar_3b067_45 : decode cJ2_getChar_3b067 45 = .ok (.ishl, 1) := by decide +kernel
theorem dJ2_getChar_3b067_46 : decode cJ2_getChar_3b067 46 = .ok (.aload_n 0, 1) := by decide +kernel
theorem dJ2_getChar_3b067_47 : decode cJ2_getChar_3b067 47 = .ok (.iload_n 1, 1) := by decide +kernel
theorem dJ2_getChar_3b067_48 : decode cJ2_getChar_3b067 48 = .ok (.baload, 1) := by decide +kernel
theorem dJ2_getChar_3b067_49 : decode cJ2_getChar_3b067 49 = .ok (.sipush 255, 3) := by decide +kernel
theorem dJ2_getChar_3b067_52 : decode cJ2_getChar_3b067 52 = .ok (.iand, 1) := by decide +kernel
theorem dJ2_getChar_3b067_53 : decode cJ2_getChar_3b067 53 = .ok (.getstatic 63, 3) := by decide +kernel
theorem dJ2_getChar_3b067_56 : decode cJ2_getChar_3b067 56 = .ok (.ishl, 1) := by decide +kernel
theorem dJ2_getChar_3b067_57 : decode cJ2_getChar_3b067 57 = .ok (.ior, 1) := by decide +kernel
theorem dJ2_getChar_3b067_58 : decode cJ2_getChar_3b067 58 = .ok (.i2c, 1) := by decide +kernel
theorem dJ2_getChar_3b067_59 : decode cJ2_getChar_3b067 59 = .ok (.ireturn, 1) := by decide +kernel
theorem dJ2_length_9d52b_0 : decode cJ2_length_9d52b 0 = .ok (.aload_n 0, 1) := by decide +kernel
theorem dJ2_length_9d52b_1 : decode cJ2_length_9d52b 1 = .ok (.arraylength, 1) := by decide +kernel
theorem dJ2_length_9d52b_2 : decode cJ2_length_9d52b 2 = .ok (.iconst 1, 1) := by decide +kernel
theorem dJ2_length_9d52b_3 : decode cJ2_length_9d52b 3 = .ok (.ishr, 1) := by decide +kernel
theorem dJ2_length_9d52b_4 : decode cJ2_length_9d52b 4 = .ok (.ireturn, 1) := by decide +kernel
theorem dJ2_charAt_3b067_0 : decode cJ2_charAt_3b067 0 = .ok (.iload_n 1, 1) := by decide +kernel
theorem dJ2_charAt_3b067_1 : decode cJ2_charAt_3b067 1 = .ok (.aload_n 0, 1) := by decide +kernel
theorem dJ2_charAt_3b067_2 : decode cJ2_charAt_3b067 2 = .ok (.invokestatic 67, 3) := by decide +kernel
theorem dJ2_charAt_3b067_5 : decode cJ2_charAt_3b067 5 = .ok (.aload_n 0, 1) := by decide +kernel
theorem dJ2_charAt_3b067_6 : decode cJ2_charAt_3b067 6 = .ok (.iload_n 1, 1) := by decide +kernel
theorem dJ2_charAt_3b067_7 : decode cJ2_charAt_3b067 7 = .ok (.invokestatic 71, 3) := by decide +kernel
theorem dJ2_charAt_3b067_10 : decode cJ2_charAt_3b067 10 = .ok (.ireturn, 1) := by decide +kernel
theorem dJ2_checkIndex_2214a_0 : decode cJ2_checkIndex_2214a 0 = .ok (.iload_n 0, 1) := by decide +kernel
theorem dJ2_checkIndex_2214a_1 : decode cJ2_checkIndex_2214a 1 = .ok (.aload_n 1, 1) := by decide +kernel
theorem dJ2_checkIndex_2214a_2 : decode cJ2_checkIndex_2214a 2 = .ok (.invokestatic 48, 3) := by decide +kernel
theorem dJ2_checkIndex_2214a_5 : decode cJ2_checkIndex_2214a 5 = .ok (.invokestatic 414, 3) := by decide +kernel
theorem dJ2_checkIndex_2214a_8 : decode cJ2_checkIndex_2214a 8 = .ok (.return_, 1) := by decide +kernel
theorem dJ3_checkIndex_8e157_0 : decode cJ3_checkIndex_8e157 0 = .ok (.iload_n 0, 1) := by decide +kernel
theorem dJ3_checkIndex_8e157_1 : decode cJ3_checkIndex_8e157 1 = .ok (.ifCond .lt 8, 3) := by decide +kernel
theorem dJ3_checkIndex_8e157_4 : decode cJ3_checkIndex_8e157 4 = .ok (.iload_n 0, 1) := by decide +kernel
theorem dJ3_checkIndex_8e157_5 : decode cJ3_checkIndex_8e157 5 = .ok (.iload_n 1, 1) := by decide +kernel
theorem dJ3_checkIndex_8e157_6 : decode cJ3_checkIndex_8e157 6 = .ok (.if_icmp .lt 10, 3) := by decide +kernel
theorem dJ3_checkIndex_8e157_9 : decode cJ3_checkIndex_8e157 9 = .ok (.aload_n 2, 1) := by decide +kernel
theorem dJ3_checkIndex_8e157_10 : decode cJ3_checkIndex_8e157 10 = .ok (.iload_n 0, 1) := by decide +kernel
theorem dJ3_checkIndex_8e157_11 : decode cJ3_checkIndex_8e157 11 = .ok (.iload_n 1, 1) := by decide +kernel
theorem dJ3_checkIndex_8e157_12 : decode cJ3_checkIndex_8e157 12 = .ok (.invokestatic 95, 3) := by decide +kernel
theorem dJ3_checkIndex_8e157_15 : decode cJ3_checkIndex_8e157 15 = .ok (.athrow, 1) := by decide +kernel
theorem dJ3_checkIndex_8e157_16 : decode cJ3_checkIndex_8e157 16 = .ok (.iload_n 0, 1) := by decide +kernel
theorem dJ3_checkIndex_8e157_17 : decode cJ3_checkIndex_8e157 17 = .ok (.ireturn, 1) := by decide +kernel
theorem dJ6_bitCount_0f7a4_0 : decode cJ6_bitCount_0f7a4 0 = .ok (.iload_n 0, 1) := by decide +kernel
theorem dJ6_bitCount_0f7a4_1 : decode cJ6_bitCount_0f7a4 1 = .ok (.iload_n 0, 1) := by decide +kernel
theorem dJ6_bitCount_0f7a4_2 : decode cJ6_bitCount_0f7a4 2 = .ok (.iconst 1, 1) := by decide +kernel
theorem dJ6_bitCount_0f7a4_3 : decode cJ6_bitCount_0f7a4 3 = .ok (.iushr, 1) := by decide +kernel
theorem dJ6_bitCount_0f7a4_4 : decode cJ6_bitCount_0f7a4 4 = .ok (.ldc_w 265, 3) := by decide +kernel
theorem dJ6_bitCount_0f7a4_7 : decode cJ6_bitCount_0f7a4 7 = .ok (.iand, 1) := by decide +kernel
theorem dJ6_bitCount_0f7a4_8 : decode cJ6_bitCount_0f7a4 8 = .ok (.isub, 1) := by decide +kernel
theorem dJ6_bitCount_0f7a4_9 : decode cJ6_bitCount_0f7a4 9 = .ok (.istore_n 0, 1) := by decide +kernel
theorem dJ6_bitCount_0f7a4_10 : decode cJ6_bitCount_0f7a4 10 = .ok (.iload_n 0, 1) := by decide +kernel
theorem dJ6_bitCount_0f7a4_11 : decode cJ6_bitCount_0f7a4 11 = .ok (.ldc_w 266, 3) := by decide +kernel
theorem dJ6_bitCount_0f7a4_14 : decode cJ6_bitCount_0f7a4 14 = .ok (.iand, 1) := by decide +kernel
theorem dJ6_bitCount_0f7a4_15 : decode cJ6_bitCount_0f7a4 15 = .ok (.iload_n 0, 1) := by decide +kernel
theorem dJ6_bitCount_0f7a4_16 : decode cJ6_bitCount_0f7a4 16 = .ok (.iconst 2, 1) := by decide +kernel
theorem dJ6_bitCount_0f7a4_17 : decode cJ6_bitCount_0f7a4 17 = .ok (.iushr, 1) := by decide +kernel
theorem dJ6_bitCount_0f7a4_18 : decode cJ6_bitCount_0f7a4 18 = .ok (.ldc_w 266, 3) := by decide +kernel
theorem dJ6_bitCount_0f7a4_21 : decode cJ6_bitCount_0f7a4 21 = .ok (.iand, 1) := by decide +kernel
theorem dJ6_bitCount_0f7a4_22 : decode cJ6_bitCount_0f7a4 22 = .ok (.iadd, 1) := by decide +kernel
theorem dJ6_bitCount_0f7a4_23 : decode cJ6_bitCount_0f7a4 23 = .ok (.istore_n 0, 1) := by decide +kernel
theorem dJ6_bitCount_0f7a4_24 : decode cJ6_bitCount_0f7a4 24 = .ok (.iload_n 0, 1) := by decide +kernel
theorem dJ6_bitCount_0f7a4_25 : decode cJ6_bitCount_0f7a4 25 = .ok (.iload_n 0, 1) := by decide +kernel
theorem dJ6_bitCount_0f7a4_26 : decode cJ6_bitCount_0f7a4 26 = .ok (.iconst 4, 1) := by decide +kernel
theorem dJ6_bitCount_0f7a4_27 : decode cJ6_bitCount_0f7a4 27 = .ok (.iushr, 1) := by decide +kernel
theorem dJ6_bitCount_0f7a4_28 : decode cJ6_bitCount_0f7a4 28 = .ok (.iadd, 1) := by decide +kernel
theorem dJ6_bitCount_0f7a4_29 : decode cJ6_bitCount_0f7a4 29 = .ok (.ldc_w 267, 3) := by decide +kernel
theorem dJ6_bitCount_0f7a4_32 : decode cJ6_bitCount_0f7a4 32 = .ok (.iand, 1) := by decide +kernel
theorem dJ6_bitCount_0f7a4_33 : decode cJ6_bitCount_0f7a4 33 = .ok (.istore_n 0, 1) := by decide +kernel
theorem dJ6_bitCount_0f7a4_34 : decode cJ6_bitCount_0f7a4 34 = .ok (.iload_n 0, 1) := by decide +kernel
theorem dJ6_bitCount_0f7a4_35 : decode cJ6_bitCount_0f7a4 35 = .ok (.iload_n 0, 1) := by decide +kernel
theorem dJ6_bitCount_0f7a4_36 : decode cJ6_bitCount_0f7a4 36 = .ok (.bipush 8, 2) := by decide +kernel
theorem dJ6_bitCount_0f7a4_38 : decode cJ6_bitCount_0f7a4 38 = .ok (.iushr, 1) := by decide +kernel
theorem dJ6_bitCount_0f7a4_39 : decode cJ6_bitCount_0f7a4 39 = .ok (.iadd, 1) := by decide +kernel
theorem dJ6_bitCount_0f7a4_40 : decode cJ6_bitCount_0f7a4 40 = .ok (.istore_n 0, 1) := by decide +kernel
theorem dJ6_bitCount_0f7a4_41 : decode cJ6_bitCount_0f7a4 41 = .ok (.iload_n 0, 1) := by decide +kernel
theorem dJ6_bitCount_0f7a4_42 : decode cJ6_bitCount_0f7a4 42 = .ok (.iload_n 0, 1) := by decide +kernel
theorem dJ6_bitCount_0f7a4_43 : decode cJ6_bitCount_0f7a4 43 = .ok (.bipush 16, 2) := by decide +kernel
theorem dJ6_bitCount_0f7a4_45 : decode cJ6_bitCount_0f7a4 45 = .ok (.iushr, 1) := by decide +kernel
theorem dJ6_bitCount_0f7a4_46 : decode cJ6_bitCount_0f7a4 46 = .ok (.iadd, 1) := by decide +kernel
theorem dJ6_bitCount_0f7a4_47 : decode cJ6_bitCount_0f7a4 47 = .ok (.istore_n 0, 1) := by decide +kernel
theorem dJ6_bitCount_0f7a4_48 : decode cJ6_bitCount_0f7a4 48 = .ok (.iload_n 0, 1) := by decide +kernel
theorem dJ6_bitCount_0f7a4_49 : decode cJ6_bitCount_0f7a4 49 = .ok (.bipush 63, 2) := by decide +kernel
theorem dJ6_bitCount_0f7a4_51 : decode cJ6_bitCount_0f7a4 51 = .ok (.iand, 1) := by decide +kernel
theorem dJ6_bitCount_0f7a4_52 : decode cJ6_bitCount_0f7a4 52 = .ok (.ireturn, 1) := by decide +kernel
theorem dJ7_fill_53178_0 : decode cJ7_fill_53178 0 = .ok (.iconst 0, 1) := by decide +kernel
theorem dJ7_fill_53178_1 : decode cJ7_fill_53178 1 = .ok (.istore_n 2, 1) := by decide +kernel
theorem dJ7_fill_53178_2 : decode cJ7_fill_53178 2 = .ok (.aload_n 0, 1) := by decide +kernel
theorem dJ7_fill_53178_3 : decode cJ7_fill_53178 3 = .ok (.arraylength, 1) := by decide +kernel
theorem dJ7_fill_53178_4 : decode cJ7_fill_53178 4 = .ok (.istore_n 3, 1) := by decide +kernel
theorem dJ7_fill_53178_5 : decode cJ7_fill_53178 5 = .ok (.iload_n 2, 1) := by decide +kernel
theorem dJ7_fill_53178_6 : decode cJ7_fill_53178 6 = .ok (.iload_n 3, 1) := by decide +kernel
theorem dJ7_fill_53178_7 : decode cJ7_fill_53178 7 = .ok (.if_icmp .ge 13, 3) := by decide +kernel
theorem dJ7_fill_53178_10 : decode cJ7_fill_53178 10 = .ok (.aload_n 0, 1) := by decide +kernel
theorem dJ7_fill_53178_11 : decode cJ7_fill_53178 11 = .ok (.iload_n 2, 1) := by decide +kernel
theorem dJ7_fill_53178_12 : decode cJ7_fill_53178 12 = .ok (.iload_n 1, 1) := by decide +kernel
theorem dJ7_fill_53178_13 : decode cJ7_fill_53178 13 = .ok (.iastore, 1) := by decide +kernel
theorem dJ7_fill_53178_14 : decode cJ7_fill_53178 14 = .ok (.iinc 2 1, 3) := by decide +kernel
theorem dJ7_fill_53178_17 : decode cJ7_fill_53178 17 = .ok (.goto (-12), 3) := by decide +kernel
theorem dJ7_fill_53178_20 : decode cJ7_fill_53178 20 = .ok (.return_, 1) := by decide +kernel
theorem dJ9_abs_0f7a4_0 : decode cJ9_abs_0f7a4 0 = .ok (.iload_n 0, 1) := by decide +kernel
theorem dJ9_abs_0f7a4_1 : decode cJ9_abs_0f7a4 1 = .ok (.ifCond .ge 8, 3) := by decide +kernel
theorem dJ9_abs_0f7a4_4 : decode cJ9_abs_0f7a4 4 = .ok (.iload_n 0, 1) := by decide +kernel
theorem dJ9_abs_0f7a4_5 : decode cJ9_abs_0f7a4 5 = .ok (.ineg, 1) := by decide +kernel
theorem dJ9_abs_0f7a4_6 : decode cJ9_abs_0f7a4 6 = .ok (.goto 4, 3) := by decide +kernel
theorem dJ9_abs_0f7a4_9 : decode cJ9_abs_0f7a4 9 = .ok (.iload_n 0, 1) := by decide +kernel
theorem dJ9_abs_0f7a4_10 : decode cJ9_abs_0f7a4 10 = .ok (.ireturn, 1) := by decide +kernel
theorem dJ9_max_7cf53_0 : decode cJ9_max_7cf53 0 = .ok (.iload_n 0, 1) := by decide +kernel
theorem dJ9_max_7cf53_1 : decode cJ9_max_7cf53 1 = .ok (.iload_n 1, 1) := by decide +kernel
theorem dJ9_max_7cf53_2 : decode cJ9_max_7cf53 2 = .ok (.if_icmp .lt 7, 3) := by decide +kernel
theorem dJ9_max_7cf53_5 : decode cJ9_max_7cf53 5 = .ok (.iload_n 0, 1) := by decide +kernel
theorem dJ9_max_7cf53_6 : decode cJ9_max_7cf53 6 = .ok (.goto 4, 3) := by decide +kernel
theorem dJ9_max_7cf53_9 : decode cJ9_max_7cf53 9 = .ok (.iload_n 1, 1) := by decide +kernel
theorem dJ9_max_7cf53_10 : decode cJ9_max_7cf53 10 = .ok (.ireturn, 1) := by decide +kernel
theorem dJ9_min_7cf53_0 : decode cJ9_min_7cf53 0 = .ok (.iload_n 0, 1) := by decide +kernel
theorem dJ9_min_7cf53_1 : decode cJ9_min_7cf53 1 = .ok (.iload_n 1, 1) := by decide +kernel
theorem dJ9_min_7cf53_2 : decode cJ9_min_7cf53 2 = .ok (.if_icmp .gt 7, 3) := by decide +kernel
theorem dJ9_min_7cf53_5 : decode cJ9_min_7cf53 5 = .ok (.iload_n 0, 1) := by decide +kernel
theorem dJ9_min_7cf53_6 : decode cJ9_min_7cf53 6 = .ok (.goto 4, 3) := by decide +kernel
theorem dJ9_min_7cf53_9 : decode cJ9_min_7cf53 9 = .ok (.iload_n 1, 1) := by decide +kernel
theorem dJ9_min_7cf53_10 : decode cJ9_min_7cf53 10 = .ok (.ireturn, 1) := by decide +kernel
theorem dX4_init_0 : decode cX4_init 0 = .ok (.aload_n 0, 1) := by decide +kernel
theorem dX4_init_1 : decode cX4_init 1 = .ok (.invokespecial 3, 3) := by decide +kernel
theorem dX4_init_4 : decode cX4_init 4 = .ok (.aload_n 0, 1) := by decide +kernel
theorem dX4_init_5 : decode cX4_init 5 = .ok (.iconst 0, 1) := by decide +kernel
theorem dX4_init_6 : decode cX4_init 6 = .ok (.putfield 9, 3) := by decide +kernel
theorem dX4_init_9 : decode cX4_init 9 = .ok (.aload_n 0, 1) := by decide +kernel
theorem dX4_init_10 : decode cX4_init 10 = .ok (.iconst (-1), 1) := by decide +kernel
theorem dX4_init_11 : decode cX4_init 11 = .ok (.putfield 15, 3) := by decide +kernel
theorem dX4_init_14 : decode cX4_init 14 = .ok (.aload_n 0, 1) := by decide +kernel
theorem dX4_init_15 : decode cX4_init 15 = .ok (.iconst 0, 1) := by decide +kernel
theorem dX4_init_16 : decode cX4_init 16 = .ok (.putfield 18, 3) := by decide +kernel
theorem dX4_init_19 : decode cX4_init 19 = .ok (.aload_n 0, 1) := by decide +kernel
theorem dX4_init_20 : decode cX4_init 20 = .ok (.iconst 4, 1) := by decide +kernel
theorem dX4_init_21 : decode cX4_init 21 = .ok (.newarray .int, 2) := by decide +kernel
theorem dX4_init_23 : decode cX4_init 23 = .ok (.putfield 21, 3) := by decide +kernel
theorem dX4_init_26 : decode cX4_init 26 = .ok (.return_, 1) := by decide +kernel
theorem dX4_renew_0 : decode cX4_renew 0 = .ok (.aload_n 0, 1) := by decide +kernel
theorem dX4_renew_1 : decode cX4_renew 1 = .ok (.iload_n 1, 1) := by decide +kernel
theorem dX4_renew_2 : decode cX4_renew 2 = .ok (.putfield 9, 3) := by decide +kernel
theorem dX4_renew_5 : decode cX4_renew 5 = .ok (.aload_n 0, 1) := by decide +kernel
theorem dX4_renew_6 : decode cX4_renew 6 = .ok (.iconst (-1), 1) := by decide +kernel
theorem dX4_renew_7 : decode cX4_renew 7 = .ok (.putfield 15, 3) := by decide +kernel
theorem dX4_renew_10 : decode cX4_renew 10 = .ok (.aload_n 0, 1) := by decide +kernel
theorem dX4_renew_11 : decode cX4_renew 11 = .ok (.iconst 0, 1) := by decide +kernel
theorem dX4_renew_12 : decode cX4_renew 12 = .ok (.putfield 18, 3) := by decide +kernel
theorem dX4_renew_15 : decode cX4_renew 15 = .ok (.aload_n 0, 1) := by decide +kernel
theorem dX4_renew_16 : decode cX4_renew 16 = .ok (.getfield 21, 3) := by decide +kernel
theorem dX4_renew_19 : decode cX4_renew 19 = .ok (.iconst (-1), 1) := by decide +kernel
theorem dX4_renew_20 : decode cX4_renew 20 = .ok (.invokestatic 25, 3) := by decide +kernel
theorem dX4_renew_23 : decode cX4_renew 23 = .ok (.return_, 1) := by decide +kernel
theorem dX4_becomeLike_0 : decode cX4_becomeLike 0 = .ok (.aload_n 0, 1) := by decide +kernel
theorem dX4_becomeLike_1 : decode cX4_becomeLike 1 = .ok (.aload_n 1, 1) := by decide +kernel
theorem dX4_becomeLike_2 : decode cX4_becomeLike 2 = .ok (.getfield 9, 3) := by decide +kernel
theorem dX4_becomeLike_5 : decode cX4_becomeLike 5 = .ok (.putfield 9, 3) := by decide +kernel
theorem dX4_becomeLike_8 : decode cX4_becomeLike 8 = .ok (.aload_n 0, 1) := by decide +kernel
theorem dX4_becomeLike_9 : decode cX4_becomeLike 9 = .ok (.aload_n 1, 1) := by decide +kernel
theorem dX4_becomeLike_10 : decode cX4_becomeLike 10 = .ok (.getfield 15, 3) := by decide +kernel
theorem dX4_becomeLike_13 : decode cX4_becomeLike 13 = .ok (.putfield 15, 3) := by decide +kernel
theorem dX4_becomeLike_16 : decode cX4_becomeLike 16 = .ok (.aload_n 0, 1) := by decide +kernel
theorem dX4_becomeLike_17 : decode cX4_becomeLike 17 = .ok (.aload_n 1, 1) := by decide +kernel
theorem dX4_becomeLike_18 : decode cX4_becomeLike 18 = .ok (.getfield 18, 3) := by decide +kernel
theorem dX4_becomeLike_21 : decode cX4_becomeLike 21 = .ok (.putfield 18, 3) := by decide +kernel
theorem dX4_becomeLike_24 : decode cX4_becomeLike 24 = .ok (.aload_n 1, 1) := by decide +kernel
theorem dX4_becomeLike_25 : decode cX4_becomeLike 25 = .ok (.getfield 21, 3) := by decide +kernel
theorem dX4_becomeLike_28 : decode cX4_becomeLike 28 = .ok (.iconst 0, 1) := by decide +kernel
theorem dX4_becomeLike_29 : decode cX4_becomeLike 29 = .ok (.aload_n 0, 1) := by decide +kernel
theorem dX4_becomeLike_30 : decode cX4_becomeLike 30 = .ok (.getfield 21, 3) := by decide +kernel
theorem dX4_becomeLike_33 : decode cX4_becomeLike 33 = .ok (.iconst 0, 1) := by decide +kernel
theorem dX4_becomeLike_34 : decode cX4_becomeLike 34 = .ok (.iconst 4, 1) := by decide +kernel
theorem dX4_becomeLike_35 : decode cX4_becomeLike 35 = .ok (.invokestatic 31, 3) := by decide +kernel
theorem dX4_becomeLike_38 : decode cX4_becomeLike 38 = .ok (.return_, 1) := by decide +kernel
theorem dX4_isPitched_0 : decode cX4_isPitched 0 = .ok (.aload_n 0, 1) := by decide +kernel
theorem dX4_isPitched_1 : decode cX4_isPitched 1 = .ok (.getfield 15, 3) := by decide +kernel
theorem dX4_isPitched_4 : decode cX4_isPitched 4 = .ok (.invokestatic 37, 3) := by decide +kernel
theorem dX4_isPitched_7 : decode cX4_isPitched 7 = .ok (.ireturn, 1) := by decide +kernel
theorem dX4_trait_0 : decode cX4_trait 0 = .ok (.iload_n 1, 1) := by decide +kernel
theorem dX4_trait_1 : decode cX4_trait 1 = .ok (.tableswitch 51 0 3 #[31, 36, 41, 46], 31) := by decide +kernel
theorem dX4_trait_32 : decode cX4_trait 32 = .ok (.aload_n 0, 1) := by decide +kernel
theorem dX4_trait_33 : decode cX4_trait 33 = .ok (.getfield 9, 3) := by decide +kernel
theorem dX4_trait_36 : decode cX4_trait 36 = .ok (.ireturn, 1) := by decide +kernel
theorem dX4_trait_37 : decode cX4_trait 37 = .ok (.aload_n 0, 1) := by decide +kernel
theorem dX4_trait_38 : decode cX4_trait 38 = .ok (.getfield 15, 3) := by decide +kernel
theorem dX4_trait_41 : decode cX4_trait 41 = .ok (.ireturn, 1) := by decide +kernel
theorem dX4_trait_42 : decode cX4_trait 42 = .ok (.aload_n 0, 1) := by decide +kernel
theorem dX4_trait_43 : decode cX4_trait 43 = .ok (.getfield 18, 3) := by decide +kernel
theorem dX4_trait_46 : decode cX4_trait 46 = .ok (.ireturn, 1) := by decide +kernel
theorem dX4_trait_47 : decode cX4_trait 47 = .ok (.aload_n 0, 1) := by decide +kernel
theorem dX4_trait_48 : decode cX4_trait 48 = .ok (.invokevirtual 41, 3) := by decide +kernel
theorem dX4_trait_51 : decode cX4_trait 51 = .ok (.ireturn, 1) := by decide +kernel
theorem dX4_trait_52 : decode cX4_trait 52 = .ok (.iload_n 1, 1) := by decide +kernel
theorem dX4_trait_53 : decode cX4_trait 53 = .ok (.iconst 4, 1) := by decide +kernel
theorem dX4_trait_54 : decode cX4_trait 54 = .ok (.bipush 7, 2) := by decide +kernel
theorem dX4_trait_56 : decode cX4_trait 56 = .ok (.invokestatic 45, 3) := by decide +kernel
theorem dX4_trait_59 : decode cX4_trait 59 = .ok (.ifCond .eq 14, 3) := by decide +kernel
theorem dX4_trait_62 : decode cX4_trait 62 = .ok (.aload_n 0, 1) := by decide +kernel
theorem dX4_trait_63 : decode cX4_trait 63 = .ok (.getfield 21, 3) := by decide +kernel
theorem dX4_trait_66 : decode cX4_trait 66 = .ok (.iload_n 1, 1) := by decide +kernel
theorem dX4_trait_67 : decode cX4_trait 67 = .ok (.iconst 4, 1) := by decide +kernel
theorem dX4_trait_68 : decode cX4_trait 68 = .ok (.isub, 1) := by decide +kernel
theorem dX4_trait_69 : decode cX4_trait 69 = .ok (.iaload, 1) := by decide +kernel
theorem dX4_trait_70 : decode cX4_trait 70 = .ok (.goto 4, 3) := by decide +kernel
theorem dX4_trait_73 : decode cX4_trait 73 = .ok (.iconst (-1), 1) := by decide +kernel
theorem dX4_trait_74 : decode cX4_trait 74 = .ok (.ireturn, 1) := by decide +kernel
theorem dX4_mayBecome_0 : decode cX4_mayBecome 0 = .ok (.iload_n 0, 1) := by decide +kernel
theorem dX4_mayBecome_1 : decode cX4_mayBecome 1 = .ok (.tableswitch 55 0 2 #[27, 32, 50], 27) := by decide +kernel
theorem dX4_mayBecome_28 : decode cX4_mayBecome 28 = .ok (.iload_n 1, 1) := by decide +kernel
theorem dX4_mayBecome_29 : decode cX4_mayBecome 29 = .ok (.invokestatic 49, 3) := by decide +kernel
theorem dX4_mayBecome_32 : decode cX4_mayBecome 32 = .ok (.ireturn, 1) := by decide +kernel
theorem dX4_mayBecome_33 : decode cX4_mayBecome 33 = .ok (.iload_n 1, 1) := by decide +kernel
theorem dX4_mayBecome_34 : decode cX4_mayBecome 34 = .ok (.iconst (-1), 1) := by decide +kernel
theorem dX4_mayBecome_35 : decode cX4_mayBecome 35 = .ok (.if_icmp .eq 10, 3) := by decide +kernel
theorem dX4_mayBecome_38 : decode cX4_mayBecome 38 = .ok (.iload_n 1, 1) := by decide +kernel
theorem dX4_mayBecome_39 : decode cX4_mayBecome 39 = .ok (.invokestatic 37, 3) := by decide +kernel
theorem dX4_mayBecome_42 : decode cX4_mayBecome 42 = .ok (.ifCond .eq 7, 3) := by decide +kernel
theorem dX4_mayBecome_45 : decode cX4_mayBecome 45 = .ok (.iconst 1, 1) := by decide +kernel
theorem dX4_mayBecome_46 : decode cX4_mayBecome 46 = .ok (.goto 4, 3) := by decide +kernel
theorem dX4_mayBecome_49 : decode cX4_mayBecome 49 = .ok (.iconst 0, 1) := by decide +kernel
theorem dX4_mayBecome_50 : decode cX4_mayBecome 50 = .ok (.ireturn, 1) := by decide +kernel
theorem dX4_mayBecome_51 : decode cX4_mayBecome 51 = .ok (.iload_n 1, 1) := by decide +kernel
theorem dX4_mayBecome_52 : decode cX4_mayBecome 52 = .ok (.invokestatic 52, 3) := by decide +kernel
theorem dX4_mayBecome_55 : decode cX4_mayBecome 55 = .ok (.ireturn, 1) := by decide +kernel
theorem dX4_mayBecome_56 : decode cX4_mayBecome 56 = .ok (.iload_n 0, 1) := by decide +kernel
theorem dX4_mayBecome_57 : decode cX4_mayBecome 57 = .ok (.iconst 4, 1) := by decide +kernel
theorem dX4_mayBecome_58 : decode cX4_mayBecome 58 = .ok (.bipush 7, 2) := by decide +kernel
theorem dX4_mayBecome_60 : decode cX4_mayBecome 60 = .ok (.invokestatic 45, 3) := by decide +kernel
theorem dX4_mayBecome_63 : decode cX4_mayBecome 63 = .ok (.ifCond .eq 19, 3) := by decide +kernel
theorem dX4_mayBecome_66 : decode cX4_mayBecome 66 = .ok (.iload_n 1, 1) := by decide +kernel
theorem dX4_mayBecome_67 : decode cX4_mayBecome 67 = .ok (.iconst (-1), 1) := by decide +kernel
theorem dX4_mayBecome_68 : decode cX4_mayBecome 68 = .ok (.if_icmp .eq 10, 3) := by decide +kernel
theorem dX4_mayBecome_71 : decode cX4_mayBecome 71 = .ok (.iload_n 1, 1) := by decide +kernel
theorem dX4_mayBecome_72 : decode cX4_mayBecome 72 = .ok (.invokestatic 52, 3) := by decide +kernel
theorem dX4_mayBecome_75 : decode cX4_mayBecome 75 = .ok (.ifCond .eq 7, 3) := by decide +kernel
theorem dX4_mayBecome_78 : decode cX4_mayBecome 78 = .ok (.iconst 1, 1) := by decide +kernel
theorem dX4_mayBecome_79 : decode cX4_mayBecome 79 = .ok (.goto 4, 3) := by decide +kernel
theorem dX4_mayBecome_82 : decode cX4_mayBecome 82 = .ok (.iconst 0, 1) := by decide +kernel
theorem dX4_mayBecome_83 : decode cX4_mayBecome 83 = .ok (.ireturn, 1) := by decide +kernel
theorem dX4_setTrait_0 : decode cX4_setTrait 0 = .ok (.iload_n 1, 1) := by decide +kernel
theorem dX4_setTrait_1 : decode cX4_setTrait 1 = .ok (.tableswitch 51 0 2 #[27, 35, 43], 27) := by decide +kernel
theorem dX4_setTrait_28 : decode cX4_setTrait 28 = .ok (.aload_n 0, 1) := by decide +kernel
theorem dX4_setTrait_29 : decode cX4_setTrait 29 = .ok (.iload_n 2, 1) := by decide +kernel
theorem dX4_setTrait_30 : decode cX4_setTrait 30 = .ok (.putfield 9, 3) := by decide +kernel
theorem dX4_setTrait_33 : decode cX4_setTrait 33 = .ok (.goto 38, 3) := by decide +kernel
theorem dX4_setTrait_36 : decode cX4_setTrait 36 = .ok (.aload_n 0, 1) := by decide +kernel
theorem dX4_setTrait_37 : decode cX4_setTrait 37 = .ok (.iload_n 2, 1) := by decide +kernel
theorem dX4_setTrait_38 : decode cX4_setTrait 38 = .ok (.putfield 15, 3) := by decide +kernel
theorem dX4_setTrait_41 : decode cX4_setTrait 41 = .ok (.goto 30, 3) := by decide +kernel
theorem dX4_setTrait_44 : decode cX4_setTrait 44 = .ok (.aload_n 0, 1) := by decide +kernel
theorem dX4_setTrait_45 : decode cX4_setTrait 45 = .ok (.iload_n 2, 1) := by decide +kernel
theorem dX4_setTrait_46 : decode cX4_setTrait 46 = .ok (.putfield 18, 3) := by decide +kernel
theorem dX4_setTrait_49 : decode cX4_setTrait 49 = .ok (.goto 22, 3) := by decide +kernel
theorem dX4_setTrait_52 : decode cX4_setTrait 52 = .ok (.iload_n 1, 1) := by decide +kernel
theorem dX4_setTrait_53 : decode cX4_setTrait 53 = .ok (.iconst 4, 1) := by decide +kernel
theorem dX4_setTrait_54 : decode cX4_setTrait 54 = .ok (.bipush 7, 2) := by decide +kernel
theorem dX4_setTrait_56 : decode cX4_setTrait 56 = .ok (.invokestatic 45, 3) := by decide +kernel
theorem dX4_setTrait_59 : decode cX4_setTrait 59 = .ok (.ifCond .eq 12, 3) := by decide +kernel
theorem dX4_setTrait_62 : decode cX4_setTrait 62 = .ok (.aload_n 0, 1) := by decide +kernel
theorem dX4_setTrait_63 : decode cX4_setTrait 63 = .ok (.getfield 21, 3) := by decide +kernel
theorem dX4_setTrait_66 : decode cX4_setTrait 66 = .ok (.iload_n 1, 1) := by decide +kernel
theorem dX4_setTrait_67 : decode cX4_setTrait 67 = .ok (.iconst 4, 1) := by decide +kernel
theorem dX4_setTrait_68 : decode cX4_setTrait 68 = .ok (.isub, 1) := by decide +kernel
theorem dX4_setTrait_69 : decode cX4_setTrait 69 = .ok (.iload_n 2, 1) := by decide +kernel
theorem dX4_setTrait_70 : decode cX4_setTrait 70 = .ok (.iastore, 1) := by decide +kernel
theorem dX4_setTrait_71 : decode cX4_setTrait 71 = .ok (.return_, 1) := by decide +kernel
theorem dX4_forget_0 : decode cX4_forget 0 = .ok (.iconst 0, 1) := by decide +kernel
theorem dX4_forget_1 : decode cX4_forget 1 = .ok (.istore_n 1, 1) := by decide +kernel
theorem dX4_forget_2 : decode cX4_forget 2 = .ok (.iconst 0, 1) := by decide +kernel
theorem dX4_forget_3 : decode cX4_forget 3 = .ok (.istore_n 2, 1) := by decide +kernel
theorem dX4_forget_4 : decode cX4_forget 4 = .ok (.iload_n 2, 1) := by decide +kernel
theorem dX4_forget_5 : decode cX4_forget 5 = .ok (.iconst 4, 1) := by decide +kernel
theorem dX4_forget_6 : decode cX4_forget 6 = .ok (.if_icmp .ge 29, 3) := by decide +kernel
theorem dX4_forget_9 : decode cX4_forget 9 = .ok (.aload_n 0, 1) := by decide +kernel
theorem dX4_forget_10 : decode cX4_forget 10 = .ok (.getfield 21, 3) := by decide +kernel
theorem dX4_forget_13 : decode cX4_forget 13 = .ok (.iload_n 2, 1) := by decide +kernel
theorem dX4_forget_14 : decode cX4_forget 14 = .ok (.iaload, 1) := by decide +kernel
theorem dX4_forget_15 : decode cX4_forget 15 = .ok (.iconst (-1), 1) := by decide +kernel
theorem dX4_forget_16 : decode cX4_forget 16 = .ok (.if_icmp .eq 13, 3) := by decide +kernel
theorem dX4_forget_19 : decode cX4_forget 19 = .ok (.iinc 1 1, 3) := by decide +kernel
theorem dX4_forget_22 : decode cX4_forget 22 = .ok (.aload_n 0, 1) := by decide +kernel
theorem dX4_forget_23 : decode cX4_forget 23 = .ok (.getfield 21, 3) := by decide +kernel
theorem dX4_forget_26 : decode cX4_forget 26 = .ok (.iload_n 2, 1) := by decide +kernel
theorem dX4_forget_27 : decode cX4_forget 27 = .ok (.iconst (-1), 1) := by decide +kernel
theorem dX4_forget_28 : decode cX4_forget 28 = .ok (.iastore, 1) := by decide +kernel
theorem dX4_forget_29 : decode cX4_forget 29 = .ok (.iinc 2 1, 3) := by decide +kernel
theorem dX4_forget_32 : decode cX4_forget 32 = .ok (.goto (-28), 3) := by decide +kernel
theorem dX4_forget_35 : decode cX4_forget 35 = .ok (.iload_n 1, 1) := by decide +kernel
theorem dX4_forget_36 : decode cX4_forget 36 = .ok (.ireturn, 1) := by decide +kernel
theorem dX4_keepsNear_0 : decode cX4_keepsNear 0 = .ok (.iconst 0, 1) := by decide +kernel
theorem dX4_keepsNear_1 : decode cX4_keepsNear 1 = .ok (.istore_n 3, 1) := by decide +kernel
theorem dX4_keepsNear_2 : decode cX4_keepsNear 2 = .ok (.iload_n 3, 1) := by decide +kernel
theorem dX4_keepsNear_3 : decode cX4_keepsNear 3 = .ok (.iconst 4, 1) := by decide +kernel
theorem dX4_keepsNear_4 : decode cX4_keepsNear 4 = .ok (.if_icmp .ge 36, 3) := by decide +kernel
theorem dX4_keepsNear_7 : decode cX4_keepsNear 7 = .ok (.aload_n 0, 1) := by decide +kernel
theorem dX4_keepsNear_8 : decode cX4_keepsNear 8 = .ok (.getfield 21, 3) := by decide +kernel
theorem dX4_keepsNear_11 : decode cX4_keepsNear 11 = .ok (.iload_n 3, 1) := by decide +kernel
theorem dX4_keepsNear_12 : decode cX4_keepsNear 12 = .ok (.iaload, 1) := by decide +kernel
theorem dX4_keepsNear_13 : decode cX4_keepsNear 13 = .ok (.iconst (-1), 1) := by decide +kernel
theorem dX4_keepsNear_14 : decode cX4_keepsNear 14 = .ok (.if_icmp .eq 18, 3) := by decide +kernel
theorem dX4_keepsNear_17 : decode cX4_keepsNear 17 = .ok (.aload_n 0, 1) := by decide +kernel
theorem dX4_keepsNear_18 : decode cX4_keepsNear 18 = .ok (.getfield 21, 3) := by decide +kernel
theorem dX4_keepsNear_21 : decode cX4_keepsNear 21 = .ok (.iload_n 3, 1) := by decide +kernel
theorem dX4_keepsNear_22 : decode cX4_keepsNear 22 = .ok (.iaload, 1) := by decide +kernel
theorem dX4_keepsNear_23 : decode cX4_keepsNear 23 = .ok (.iload_n 1, 1) := by decide +kernel
theorem dX4_keepsNear_24 : decode cX4_keepsNear 24 = .ok (.isub, 1) := by decide +kernel
theorem dX4_keepsNear_25 : decode cX4_keepsNear 25 = .ok (.invokestatic 55, 3) := by decide +kernel
theorem dX4_keepsNear_28 : decode cX4_keepsNear 28 = .ok (.iload_n 2, 1) := by decide +kernel
theorem dX4_keepsNear_29 : decode cX4_keepsNear 29 = .ok (.if_icmp .le 5, 3) := by decide +kernel
theorem dX4_keepsNear_32 : decode cX4_keepsNear 32 = .ok (.iconst 0, 1) := by decide +kernel
theorem dX4_keepsNear_33 : decode cX4_keepsNear 33 = .ok (.ireturn, 1) := by decide +kernel
theorem dX4_keepsNear_34 : decode cX4_keepsNear 34 = .ok (.iinc 3 1, 3) := by decide +kernel
theorem dX4_keepsNear_37 : decode cX4_keepsNear 37 = .ok (.goto (-35), 3) := by decide +kernel
theorem dX4_keepsNear_40 : decode cX4_keepsNear 40 = .ok (.iconst 1, 1) := by decide +kernel
theorem dX4_keepsNear_41 : decode cX4_keepsNear 41 = .ok (.ireturn, 1) := by decide +kernel
theorem dX4_wearOut_0 : decode cX4_wearOut 0 = .ok (.aload_n 0, 1) := by decide +kernel
theorem dX4_wearOut_1 : decode cX4_wearOut 1 = .ok (.bipush 99, 2) := by decide +kernel
theorem dX4_wearOut_3 : decode cX4_wearOut 3 = .ok (.aload_n 0, 1) := by decide +kernel
theorem dX4_wearOut_4 : decode cX4_wearOut 4 = .ok (.getfield 18, 3) := by decide +kernel
theorem dX4_wearOut_7 : decode cX4_wearOut 7 = .ok (.aload_n 0, 1) := by decide +kernel
theorem dX4_wearOut_8 : decode cX4_wearOut 8 = .ok (.invokevirtual 41, 3) := by decide +kernel
theorem dX4_wearOut_11 : decode cX4_wearOut 11 = .ok (.iadd, 1) := by decide +kernel
theorem dX4_wearOut_12 : decode cX4_wearOut 12 = .ok (.invokestatic 61, 3) := by decide +kernel
theorem dX4_wearOut_15 : decode cX4_wearOut 15 = .ok (.putfield 18, 3) := by decide +kernel
theorem dX4_wearOut_18 : decode cX4_wearOut 18 = .ok (.return_, 1) := by decide +kernel
theorem dX4_wear_0 : decode cX4_wear 0 = .ok (.aload_n 0, 1) := by decide +kernel
theorem dX4_wear_1 : decode cX4_wear 1 = .ok (.getfield 9, 3) := by decide +kernel
theorem dX4_wear_4 : decode cX4_wear 4 = .ok (.tableswitch 48 1 6 #[40, 48, 48, 44, 46, 42], 40) := by decide +kernel
theorem dX4_wear_44 : decode cX4_wear 44 = .ok (.iconst 2, 1) := by decide +kernel
theorem dX4_wear_45 : decode cX4_wear 45 = .ok (.ireturn, 1) := by decide +kernel
theorem dX4_wear_46 : decode cX4_wear 46 = .ok (.iconst 4, 1) := by decide +kernel
theorem dX4_wear_47 : decode cX4_wear 47 = .ok (.ireturn, 1) := by decide +kernel
theorem dX4_wear_48 : decode cX4_wear 48 = .ok (.iconst 0, 1) := by decide +kernel
theorem dX4_wear_49 : decode cX4_wear 49 = .ok (.ireturn, 1) := by decide +kernel
theorem dX4_wear_50 : decode cX4_wear 50 = .ok (.iconst 5, 1) := by decide +kernel
theorem dX4_wear_51 : decode cX4_wear 51 = .ok (.ireturn, 1) := by decide +kernel
theorem dX4_wear_52 : decode cX4_wear 52 = .ok (.iconst 1, 1) := by decide +kernel
theorem dX4_wear_53 : decode cX4_wear 53 = .ok (.ireturn, 1) := by decide +kernel
theorem dX4_pressed_0 : decode cX4_pressed 0 = .ok (.aload_n 0, 1) := by decide +kernel
theorem dX4_pressed_1 : decode cX4_pressed 1 = .ok (.getfield 9, 3) := by decide +kernel
theorem dX4_pressed_4 : decode cX4_pressed 4 = .ok (.tableswitch 80 1 6 #[40, 51, 53, 59, 72, 42], 40) := by decide +kernel
theorem dX4_pressed_44 : decode cX4_pressed 44 = .ok (.iload_n 1, 1) := by decide +kernel
theorem dX4_pressed_45 : decode cX4_pressed 45 = .ok (.ireturn, 1) := by decide +kernel
theorem dX4_pressed_46 : decode cX4_pressed 46 = .ok (.bipush 99, 2) := by decide +kernel
theorem dX4_pressed_48 : decode cX4_pressed 48 = .ok (.iload_n 1, 1) := by decide +kernel
theorem dX4_pressed_49 : decode cX4_pressed 49 = .ok (.iconst 1, 1) := by decide +kernel
theorem dX4_pressed_50 : decode cX4_pressed 50 = .ok (.iadd, 1) := by decide +kernel
theorem dX4_pressed_51 : decode cX4_pressed 51 = .ok (.invokestatic 61, 3) := by decide +kernel
theorem dX4_pressed_54 : decode cX4_pressed 54 = .ok (.ireturn, 1) := by decide +kernel
theorem dX4_pressed_55 : decode cX4_pressed 55 = .ok (.iload_n 2, 1) := by decide +kernel
theorem dX4_pressed_56 : decode cX4_pressed 56 = .ok (.ireturn, 1) := by decide +kernel
theorem dX4_pressed_57 : decode cX4_pressed 57 = .ok (.iload_n 1, 1) := by decide +kernel
theorem dX4_pressed_58 : decode cX4_pressed 58 = .ok (.iload_n 2, 1) := by decide +kernel
theorem dX4_pressed_59 : decode cX4_pressed 59 = .ok (.invokestatic 65, 3) := by decide +kernel
theorem dX4_pressed_62 : decode cX4_pressed 62 = .ok (.ireturn, 1) := by decide +kernel
theorem dX4_pressed_63 : decode cX4_pressed 63 = .ok (.bipush 99, 2) := by decide +kernel
theorem dX4_pressed_65 : decode cX4_pressed 65 = .ok (.iload_n 1, 1) := by decide +kernel
theorem dX4_pressed_66 : decode cX4_pressed 66 = .ok (.iload_n 2, 1) := by decide +kernel
theorem dX4_pressed_67 : decode cX4_pressed 67 = .ok (.invokestatic 65, 3) := by decide +kernel
theorem dX4_pressed_70 : decode cX4_pressed 70 = .ok (.iconst 3, 1) := by decide +kernel
theorem dX4_pressed_71 : decode cX4_pressed 71 = .ok (.iadd, 1) := by decide +kernel
theorem dX4_pressed_72 : decode cX4_pressed 72 = .ok (.invokestatic 61, 3) := by decide +kernel
theorem dX4_pressed_75 : decode cX4_pressed 75 = .ok (.ireturn, 1) := by decide +kernel
theorem dX4_pressed_76 : decode cX4_pressed 76 = .ok (.iload_n 1, 1) := by decide +kernel
theorem dX4_pressed_77 : decode cX4_pressed 77 = .ok (.iconst 3, 1) := by decide +kernel
theorem dX4_pressed_78 : decode cX4_pressed 78 = .ok (.iload_n 2, 1) := by decide +kernel
theorem dX4_pressed_79 : decode cX4_pressed 79 = .ok (.imul, 1) := by decide +kernel
theorem dX4_pressed_80 : decode cX4_pressed 80 = .ok (.iadd, 1) := by decide +kernel
theorem dX4_pressed_81 : decode cX4_pressed 81 = .ok (.iconst 4, 1) := by decide +kernel
theorem dX4_pressed_82 : decode cX4_pressed 82 = .ok (.idiv, 1) := by decide +kernel
theorem dX4_pressed_83 : decode cX4_pressed 83 = .ok (.ireturn, 1) := by decide +kernel
theorem dX4_pressed_84 : decode cX4_pressed 84 = .ok (.iload_n 1, 1) := by decide +kernel
theorem dX4_pressed_85 : decode cX4_pressed 85 = .ok (.iload_n 2, 1) := by decide +kernel
theorem dX4_pressed_86 : decode cX4_pressed 86 = .ok (.iadd, 1) := by decide +kernel
theorem dX4_pressed_87 : decode cX4_pressed 87 = .ok (.iconst 2, 1) := by decide +kernel
theorem dX4_pressed_88 : decode cX4_pressed 88 = .ok (.idiv, 1) := by decide +kernel
theorem dX4_pressed_89 : decode cX4_pressed 89 = .ok (.ireturn, 1) := by decide +kernel
theorem dX4_patchedPress_0 : decode cX4_patchedPress 0 = .ok (.iload_n 0, 1) := by decide +kernel
theorem dX4_patchedPress_1 : decode cX4_patchedPress 1 = .ok (.iload_n 1, 1) := by decide +kernel
theorem dX4_patchedPress_2 : decode cX4_patchedPress 2 = .ok (.if_icmp .le 9, 3) := by decide +kernel
theorem dX4_patchedPress_5 : decode cX4_patchedPress 5 = .ok (.iload_n 1, 1) := by decide +kernel
theorem dX4_patchedPress_6 : decode cX4_patchedPress 6 = .ok (.iconst 1, 1) := by decide +kernel
theorem dX4_patchedPress_7 : decode cX4_patchedPress 7 = .ok (.iadd, 1) := by decide +kernel
theorem dX4_patchedPress_8 : decode cX4_patchedPress 8 = .ok (.goto 4, 3) := by decide +kernel
theorem dX4_patchedPress_11 : decode cX4_patchedPress 11 = .ok (.iload_n 1, 1) := by decide +kernel
theorem dX4_patchedPress_12 : decode cX4_patchedPress 12 = .ok (.ireturn, 1) := by decide +kernel
theorem dX4_taken_0 : decode cX4_taken 0 = .ok (.aload_n 0, 1) := by decide +kernel
theorem dX4_taken_1 : decode cX4_taken 1 = .ok (.getfield 9, 3) := by decide +kernel
theorem dX4_taken_4 : decode cX4_taken 4 = .ok (.tableswitch 74 1 6 #[40, 44, 74, 46, 59, 42], 40) := by decide +kernel
theorem dX4_taken_44 : decode cX4_taken 44 = .ok (.iload_n 1, 1) := by decide +kernel
theorem dX4_taken_45 : decode cX4_taken 45 = .ok (.ireturn, 1) := by decide +kernel
theorem dX4_taken_46 : decode cX4_taken 46 = .ok (.iload_n 1, 1) := by decide +kernel
theorem dX4_taken_47 : decode cX4_taken 47 = .ok (.ireturn, 1) := by decide +kernel
theorem dX4_taken_48 : decode cX4_taken 48 = .ok (.iload_n 2, 1) := by decide +kernel
theorem dX4_taken_49 : decode cX4_taken 49 = .ok (.ireturn, 1) := by decide +kernel
theorem dX4_taken_50 : decode cX4_taken 50 = .ok (.bipush 99, 2) := by decide +kernel
theorem dX4_taken_52 : decode cX4_taken 52 = .ok (.iload_n 2, 1) := by decide +kernel
theorem dX4_taken_53 : decode cX4_taken 53 = .ok (.iload_n 1, 1) := by decide +kernel
theorem dX4_taken_54 : decode cX4_taken 54 = .ok (.iadd, 1) := by decide +kernel
theorem dX4_taken_55 : decode cX4_taken 55 = .ok (.iconst 2, 1) := by decide +kernel
theorem dX4_taken_56 : decode cX4_taken 56 = .ok (.idiv, 1) := by decide +kernel
theorem dX4_taken_57 : decode cX4_taken 57 = .ok (.iconst 1, 1) := by decide +kernel
theorem dX4_taken_58 : decode cX4_taken 58 = .ok (.iadd, 1) := by decide +kernel
theorem dX4_taken_59 : decode cX4_taken 59 = .ok (.invokestatic 61, 3) := by decide +kernel
theorem dX4_taken_62 : decode cX4_taken 62 = .ok (.ireturn, 1) := by decide +kernel
theorem dX4_taken_63 : decode cX4_taken 63 = .ok (.aload_n 0, 1) := by decide +kernel
theorem dX4_taken_64 : decode cX4_taken 64 = .ok (.getfield 18, 3) := by decide +kernel
theorem dX4_taken_67 : decode cX4_taken 67 = .ok (.bipush 50, 2) := by decide +kernel
theorem dX4_taken_69 : decode cX4_taken 69 = .ok (.if_icmp .ge 7, 3) := by decide +kernel
theorem dX4_taken_72 : decode cX4_taken 72 = .ok (.iload_n 1, 1) := by decide +kernel
theorem dX4_taken_73 : decode cX4_taken 73 = .ok (.goto 4, 3) := by decide +kernel
theorem dX4_taken_76 : decode cX4_taken 76 = .ok (.iload_n 2, 1) := by decide +kernel
theorem dX4_taken_77 : decode cX4_taken 77 = .ok (.ireturn, 1) := by decide +kernel
theorem dX4_taken_78 : decode cX4_taken 78 = .ok (.iload_n 1, 1) := by decide +kernel
theorem dX4_taken_79 : decode cX4_taken 79 = .ok (.iload_n 2, 1) := by decide +kernel
theorem dX4_taken_80 : decode cX4_taken 80 = .ok (.iadd, 1) := by decide +kernel
theorem dX4_taken_81 : decode cX4_taken 81 = .ok (.iconst 2, 1) := by decide +kernel
theorem dX4_taken_82 : decode cX4_taken 82 = .ok (.idiv, 1) := by decide +kernel
theorem dX4_taken_83 : decode cX4_taken 83 = .ok (.ireturn, 1) := by decide +kernel
theorem dX4_isUnder_0 : decode cX4_isUnder 0 = .ok (.iload_n 0, 1) := by decide +kernel
theorem dX4_isUnder_1 : decode cX4_isUnder 1 = .ok (.istore_n 2, 1) := by decide +kernel
theorem dX4_isUnder_2 : decode cX4_isUnder 2 = .ok (.iconst 0, 1) := by decide +kernel
theorem dX4_isUnder_3 : decode cX4_isUnder 3 = .ok (.istore_n 3, 1) := by decide +kernel
theorem dX4_isUnder_4 : decode cX4_isUnder 4 = .ok (.iload_n 3, 1) := by decide +kernel
theorem dX4_isUnder_5 : decode cX4_isUnder 5 = .ok (.bipush 7, 2) := by decide +kernel
theorem dX4_isUnder_7 : decode cX4_isUnder 7 = .ok (.if_icmp .ge 26, 3) := by decide +kernel
theorem dX4_isUnder_10 : decode cX4_isUnder 10 = .ok (.iload_n 2, 1) := by decide +kernel
theorem dX4_isUnder_11 : decode cX4_isUnder 11 = .ok (.iconst (-1), 1) := by decide +kernel
theorem dX4_isUnder_12 : decode cX4_isUnder 12 = .ok (.if_icmp .eq 21, 3) := by decide +kernel
theorem dX4_isUnder_15 : decode cX4_isUnder 15 = .ok (.iload_n 2, 1) := by decide +kernel
theorem dX4_isUnder_16 : decode cX4_isUnder 16 = .ok (.iload_n 1, 1) := by decide +kernel
theorem dX4_isUnder_17 : decode cX4_isUnder 17 = .ok (.if_icmp .ne 5, 3) := by decide +kernel
theorem dX4_isUnder_20 : decode cX4_isUnder 20 = .ok (.iconst 1, 1) := by decide +kernel
theorem dX4_isUnder_21 : decode cX4_isUnder 21 = .ok (.ireturn, 1) := by decide +kernel
theorem dX4_isUnder_22 : decode cX4_isUnder 22 = .ok (.iload_n 2, 1) := by decide +kernel
theorem dX4_isUnder_23 : decode cX4_isUnder 23 = .ok (.invokestatic 68, 3) := by decide +kernel
theorem dX4_isUnder_26 : decode cX4_isUnder 26 = .ok (.istore_n 2, 1) := by decide +kernel
theorem dX4_isUnder_27 : decode cX4_isUnder 27 = .ok (.iinc 3 1, 3) := by decide +kernel
theorem dX4_isUnder_30 : decode cX4_isUnder 30 = .ok (.goto (-26), 3) := by decide +kernel
theorem dX4_isUnder_33 : decode cX4_isUnder 33 = .ok (.iconst 0, 1) := by decide +kernel
theorem dX4_isUnder_34 : decode cX4_isUnder 34 = .ok (.ireturn, 1) := by decide +kernel
theorem dX4_kindAbove_0 : decode cX4_kindAbove 0 = .ok (.iload_n 0, 1) := by decide +kernel
theorem dX4_kindAbove_1 : decode cX4_kindAbove 1 = .ok (.tableswitch 51 1 6 #[39, 41, 45, 47, 43, 49], 39) := by decide +kernel
theorem dX4_kindAbove_40 : decode cX4_kindAbove 40 = .ok (.iconst 0, 1) := by decide +kernel
theorem dX4_kindAbove_41 : decode cX4_kindAbove 41 = .ok (.ireturn, 1) := by decide +kernel
theorem dX4_kindAbove_42 : decode cX4_kindAbove 42 = .ok (.iconst 0, 1) := by decide +kernel
theorem dX4_kindAbove_43 : decode cX4_kindAbove 43 = .ok (.ireturn, 1) := by decide +kernel
theorem dX4_kindAbove_44 : decode cX4_kindAbove 44 = .ok (.iconst 0, 1) := by decide +kernel
theorem dX4_kindAbove_45 : decode cX4_kindAbove 45 = .ok (.ireturn, 1) := by decide +kernel
theorem dX4_kindAbove_46 : decode cX4_kindAbove 46 = .ok (.iconst 2, 1) := by decide +kernel
theorem dX4_kindAbove_47 : decode cX4_kindAbove 47 = .ok (.ireturn, 1) := by decide +kernel
theorem dX4_kindAbove_48 : decode cX4_kindAbove 48 = .ok (.iconst 3, 1) := by decide +kernel
theorem dX4_kindAbove_49 : decode cX4_kindAbove 49 = .ok (.ireturn, 1) := by decide +kernel
theorem dX4_kindAbove_50 : decode cX4_kindAbove 50 = .ok (.iconst 1, 1) := by decide +kernel
theorem dX4_kindAbove_51 : decode cX4_kindAbove 51 = .ok (.ireturn, 1) := by decide +kernel
theorem dX4_kindAbove_52 : decode cX4_kindAbove 52 = .ok (.iconst (-1), 1) := by decide +kernel
theorem dX4_kindAbove_53 : decode cX4_kindAbove 53 = .ok (.ireturn, 1) := by decide +kernel
theorem dX2_init_0 : decode cX2_init 0 = .ok (.aload_n 0, 1) := by decide +kernel
theorem dX2_init_1 : decode cX2_init 1 = .ok (.invokespecial 3, 3) := by decide +kernel
theorem dX2_init_4 : decode cX2_init 4 = .ok (.aload_n 0, 1) := by decide +kernel
theorem dX2_init_5 : decode cX2_init 5 = .ok (.iconst 0, 1) := by decide +kernel
theorem dX2_init_6 : decode cX2_init 6 = .ok (.putfield 9, 3) := by decide +kernel
theorem dX2_init_9 : decode cX2_init 9 = .ok (.aload_n 0, 1) := by decide +kernel
theorem dX2_init_10 : decode cX2_init 10 = .ok (.iconst 0, 1) := by decide +kernel
theorem dX2_init_11 : decode cX2_init 11 = .ok (.putfield 15, 3) := by decide +kernel
theorem dX2_init_14 : decode cX2_init 14 = .ok (.aload_n 0, 1) := by decide +kernel
theorem dX2_init_15 : decode cX2_init 15 = .ok (.bipush 40, 2) := by decide +kernel
theorem dX2_init_17 : decode cX2_init 17 = .ok (.newarray .int, 2) := by decide +kernel
theorem dX2_init_19 : decode cX2_init 19 = .ok (.putfield 18, 3) := by decide +kernel
theorem dX2_init_22 : decode cX2_init 22 = .ok (.return_, 1) := by decide +kernel
theorem dX2_isMissing_0 : decode cX2_isMissing 0 = .ok (.aload_n 0, 1) := by decide +kernel
theorem dX2_isMissing_1 : decode cX2_isMissing 1 = .ok (.getfield 9, 3) := by decide +kernel
theorem dX2_isMissing_4 : decode cX2_isMissing 4 = .ok (.ifCond .ne 7, 3) := by decide +kernel
theorem dX2_isMissing_7 : decode cX2_isMissing 7 = .ok (.iconst 1, 1) := by decide +kernel
theorem dX2_isMissing_8 : decode cX2_isMissing 8 = .ok (.goto 4, 3) := by decide +kernel
theorem dX2_isMissing_11 : decode cX2_isMissing 11 = .ok (.iconst 0, 1) := by decide +kernel
theorem dX2_isMissing_12 : decode cX2_isMissing 12 = .ok (.ireturn, 1) := by decide +kernel
theorem dX2_renew_0 : decode cX2_renew 0 = .ok (.aload_n 0, 1) := by decide +kernel
theorem dX2_renew_1 : decode cX2_renew 1 = .ok (.iload_n 1, 1) := by decide +kernel
theorem dX2_renew_2 : decode cX2_renew 2 = .ok (.putfield 9, 3) := by decide +kernel
theorem dX2_renew_5 : decode cX2_renew 5 = .ok (.aload_n 0, 1) := by decide +kernel
theorem dX2_renew_6 : decode cX2_renew 6 = .ok (.iload_n 2, 1) := by decide +kernel
theorem dX2_renew_7 : decode cX2_renew 7 = .ok (.putfield 15, 3) := by decide +kernel
theorem dX2_renew_10 : decode cX2_renew 10 = .ok (.aload_n 0, 1) := by decide +kernel
theorem dX2_renew_11 : decode cX2_renew 11 = .ok (.getfield 18, 3) := by decide +kernel
theorem dX2_renew_14 : decode cX2_renew 14 = .ok (.iconst 0, 1) := by decide +kernel
theorem dX2_renew_15 : decode cX2_renew 15 = .ok (.invokestatic 22, 3) := by decide +kernel
theorem dX2_renew_18 : decode cX2_renew 18 = .ok (.return_, 1) := by decide +kernel
theorem dX2_put_0 : decode cX2_put 0 = .ok (.aload_n 0, 1) := by decide +kernel
theorem dX2_put_1 : decode cX2_put 1 = .ok (.getfield 9, 3) := by decide +kernel
theorem dX2_put_4 : decode cX2_put 4 = .ok (.lookupswitch 50 #[(8, 28), (16, 39)], 28) := by decide +kernel
theorem dX2_put_32 : decode cX2_put 32 = .ok (.aload_n 0, 1) := by decide +kernel
theorem dX2_put_33 : decode cX2_put 33 = .ok (.getfield 18, 3) := by decide +kernel
theorem dX2_put_36 : decode cX2_put 36 = .ok (.iload_n 1, 1) := by decide +kernel
theorem dX2_put_37 : decode cX2_put 37 = .ok (.iload_n 2, 1) := by decide +kernel
theorem dX2_put_38 : decode cX2_put 38 = .ok (.i2b, 1) := by decide +kernel
theorem dX2_put_39 : decode cX2_put 39 = .ok (.iastore, 1) := by decide +kernel
theorem dX2_put_40 : decode cX2_put 40 = .ok (.goto 21, 3) := by decide +kernel
theorem dX2_put_43 : decode cX2_put 43 = .ok (.aload_n 0, 1) := by decide +kernel
theorem dX2_put_44 : decode cX2_put 44 = .ok (.getfield 18, 3) := by decide +kernel
theorem dX2_put_47 : decode cX2_put 47 = .ok (.iload_n 1, 1) := by decide +kernel
theorem dX2_put_48 : decode cX2_put 48 = .ok (.iload_n 2, 1) := by decide +kernel
theorem dX2_put_49 : decode cX2_put 49 = .ok (.i2s, 1) := by decide +kernel
theorem dX2_put_50 : decode cX2_put 50 = .ok (.iastore, 1) := by decide +kernel
theorem dX2_put_51 : decode cX2_put 51 = .ok (.goto 10, 3) := by decide +kernel
theorem dX2_put_54 : decode cX2_put 54 = .ok (.aload_n 0, 1) := by decide +kernel
theorem dX2_put_55 : decode cX2_put 55 = .ok (.getfield 18, 3) := by decide +kernel
theorem dX2_put_58 : decode cX2_put 58 = .ok (.iload_n 1, 1) := by decide +kernel
theorem dX2_put_59 : decode cX2_put 59 = .ok (.iload_n 2, 1) := by decide +kernel
theorem dX2_put_60 : decode cX2_put 60 = .ok (.iastore, 1) := by decide +kernel
theorem dX2_put_61 : decode cX2_put 61 = .ok (.return_, 1) := by decide +kernel
theorem dX2_hasRun_0 : decode cX2_hasRun 0 = .ok (.iload_n 1, 1) := by decide +kernel
theorem dX2_hasRun_1 : decode cX2_hasRun 1 = .ok (.ifCond .lt 29, 3) := by decide +kernel
theorem dX2_hasRun_4 : decode cX2_hasRun 4 = .ok (.iload_n 2, 1) := by decide +kernel
theorem dX2_hasRun_5 : decode cX2_hasRun 5 = .ok (.ifCond .lt 25, 3) := by decide +kernel
theorem dX2_hasRun_8 : decode cX2_hasRun 8 = .ok (.iload_n 2, 1) := by decide +kernel
theorem dX2_hasRun_9 : decode cX2_hasRun 9 = .ok (.aload_n 0, 1) := by decide +kernel
theorem dX2_hasRun_10 : decode cX2_hasRun 10 = .ok (.getfield 15, 3) := by decide +kernel
theorem dX2_hasRun_13 : decode cX2_hasRun 13 = .ok (.if_icmp .gt 17, 3) := by decide +kernel
theorem dX2_hasRun_16 : decode cX2_hasRun 16 = .ok (.iload_n 1, 1) := by decide +kernel
theorem dX2_hasRun_17 : decode cX2_hasRun 17 = .ok (.aload_n 0, 1) := by decide +kernel
theorem dX2_hasRun_18 : decode cX2_hasRun 18 = .ok (.getfield 15, 3) := by decide +kernel
theorem dX2_hasRun_21 : decode cX2_hasRun 21 = .ok (.iload_n 2, 1) := by decide +kernel
theorem dX2_hasRun_22 : decode cX2_hasRun 22 = .ok (.isub, 1) := by decide +kernel
theorem dX2_hasRun_23 : decode cX2_hasRun 23 = .ok (.if_icmp .gt 7, 3) := by decide +kernel
theorem dX2_hasRun_26 : decode cX2_hasRun 26 = .ok (.iconst 1, 1) := by decide +kernel
theorem dX2_hasRun_27 : decode cX2_hasRun 27 = .ok (.goto 4, 3) := by decide +kernel
theorem dX2_hasRun_30 : decode cX2_hasRun 30 = .ok (.iconst 0, 1) := by decide +kernel
theorem dX2_hasRun_31 : decode cX2_hasRun 31 = .ok (.ireturn, 1) := by decide +kernel
theorem dX2_tells_0 : decode cX2_tells 0 = .ok (.iconst 0, 1) := by decide +kernel
theorem dX2_tells_1 : decode cX2_tells 1 = .ok (.istore_n 2, 1) := by decide +kernel
theorem dX2_tells_2 : decode cX2_tells 2 = .ok (.iload_n 2, 1) := by decide +kernel
theorem dX2_tells_3 : decode cX2_tells 3 = .ok (.iconst 4, 1) := by decide +kernel
theorem dX2_tells_4 : decode cX2_tells 4 = .ok (.if_icmp .ge 41, 3) := by decide +kernel
theorem dX2_tells_7 : decode cX2_tells 7 = .ok (.iload_n 2, 1) := by decide +kernel
theorem dX2_tells_8 : decode cX2_tells 8 = .ok (.aload_n 0, 1) := by decide +kernel
theorem dX2_tells_9 : decode cX2_tells 9 = .ok (.getfield 15, 3) := by decide +kernel
theorem dX2_tells_12 : decode cX2_tells 12 = .ok (.if_icmp .ge 33, 3) := by decide +kernel
theorem dX2_tells_15 : decode cX2_tells 15 = .ok (.aload_n 0, 1) := by decide +kernel
theorem dX2_tells_16 : decode cX2_tells 16 = .ok (.getfield 18, 3) := by decide +kernel
theorem dX2_tells_19 : decode cX2_tells 19 = .ok (.iload_n 2, 1) := by decide +kernel
theorem dX2_tells_20 : decode cX2_tells 20 = .ok (.iaload, 1) := by decide +kernel
theorem dX2_tells_21 : decode cX2_tells 21 = .ok (.iconst (-1), 1) := by decide +kernel
theorem dX2_tells_22 : decode cX2_tells 22 = .ok (.if_icmp .eq 17, 3) := by decide +kernel
theorem dX2_tells_25 : decode cX2_tells 25 = .ok (.aload_n 0, 1) := by decide +kernel
theorem dX2_tells_26 : decode cX2_tells 26 = .ok (.getfield 18, 3) := by decide +kernel
theorem dX2_tells_29 : decode cX2_tells 29 = .ok (.iload_n 2, 1) := by decide +kernel
theorem dX2_tells_30 : decode cX2_tells 30 = .ok (.iaload, 1) := by decide +kernel
theorem dX2_tells_31 : decode cX2_tells 31 = .ok (.aload_n 1, 1) := by decide +kernel
theorem dX2_tells_32 : decode cX2_tells 32 = .ok (.iload_n 2, 1) := by decide +kernel
theorem dX2_tells_33 : decode cX2_tells 33 = .ok (.iaload, 1) := by decide +kernel
theorem dX2_tells_34 : decode cX2_tells 34 = .ok (.if_icmp .eq 5, 3) := by decide +kernel
theorem dX2_tells_37 : decode cX2_tells 37 = .ok (.iconst 0, 1) := by decide +kernel
theorem dX2_tells_38 : decode cX2_tells 38 = .ok (.ireturn, 1) := by decide +kernel
theorem dX2_tells_39 : decode cX2_tells 39 = .ok (.iinc 2 1, 3) := by decide +kernel
theorem dX2_tells_42 : decode cX2_tells 42 = .ok (.goto (-40), 3) := by decide +kernel
theorem dX2_tells_45 : decode cX2_tells 45 = .ok (.iconst 1, 1) := by decide +kernel
theorem dX2_tells_46 : decode cX2_tells 46 = .ok (.ireturn, 1) := by decide +kernel
theorem dX0_init_0 : decode cX0_init 0 = .ok (.aload_n 0, 1) := by decide +kernel
theorem dX0_init_1 : decode cX0_init 1 = .ok (.invokespecial 3, 3) := by decide +kernel
theorem dX0_init_4 : decode cX0_init 4 = .ok (.aload_n 0, 1) := by decide +kernel
theorem dX0_init_5 : decode cX0_init 5 = .ok (.bipush 25, 2) := by decide +kernel
theorem dX0_init_7 : decode cX0_init 7 = .ok (.newarray .int, 2) := by decide +kernel
theorem dX0_init_9 : decode cX0_init 9 = .ok (.putfield 9, 3) := by decide +kernel
theorem dX0_init_12 : decode cX0_init 12 = .ok (.aload_n 0, 1) := by decide +kernel
theorem dX0_init_13 : decode cX0_init 13 = .ok (.bipush 10, 2) := by decide +kernel
theorem dX0_init_15 : decode cX0_init 15 = .ok (.newarray .int, 2) := by decide +kernel
theorem dX0_init_17 : decode cX0_init 17 = .ok (.putfield 15, 3) := by decide +kernel
theorem dX0_init_20 : decode cX0_init 20 = .ok (.aload_n 0, 1) := by decide +kernel
theorem dX0_init_21 : decode cX0_init 21 = .ok (.bipush 6, 2) := by decide +kernel
theorem dX0_init_23 : decode cX0_init 23 = .ok (.anewarray 18, 3) := by decide +kernel
theorem dX0_init_26 : decode cX0_init 26 = .ok (.putfield 20, 3) := by decide +kernel
theorem dX0_init_29 : decode cX0_init 29 = .ok (.aload_n 0, 1) := by decide +kernel
theorem dX0_init_30 : decode cX0_init 30 = .ok (.iconst 0, 1) := by decide +kernel
theorem dX0_init_31 : decode cX0_init 31 = .ok (.putfield 24, 3) := by decide +kernel
theorem dX0_init_34 : decode cX0_init 34 = .ok (.aload_n 0, 1) := by decide +kernel
theorem dX0_init_35 : decode cX0_init 35 = .ok (.iconst 0, 1) := by decide +kernel
theorem dX0_init_36 : decode cX0_init 36 = .ok (.putfield 28, 3) := by decide +kernel
theorem dX0_init_39 : decode cX0_init 39 = .ok (.aload_n 0, 1) := by decide +kernel
theorem dX0_init_40 : decode cX0_init 40 = .ok (.iconst 0, 1) := by decide +kernel
theorem dX0_init_41 : decode cX0_init 41 = .ok (.putfield 31, 3) := by decide +kernel
theorem dX0_init_44 : decode cX0_init 44 = .ok (.aload_n 0, 1) := by decide +kernel
theorem dX0_init_45 : decode cX0_init 45 = .ok (.iconst 1, 1) := by decide +kernel
theorem dX0_init_46 : decode cX0_init 46 = .ok (.putfield 34, 3) := by decide +kernel
theorem dX0_init_49 : decode cX0_init 49 = .ok (.aload_n 0, 1) := by decide +kernel
theorem dX0_init_50 : decode cX0_init 50 = .ok (.getfield 9, 3) := by decide +kernel
theorem dX0_init_53 : decode cX0_init 53 = .ok (.bipush 50, 2) := by decide +kernel
theorem dX0_init_55 : decode cX0_init 55 = .ok (.invokestatic 37, 3) := by decide +kernel
theorem dX0_init_58 : decode cX0_init 58 = .ok (.aload_n 0, 1) := by decide +kernel
theorem dX0_init_59 : decode cX0_init 59 = .ok (.getfield 15, 3) := by decide +kernel
theorem dX0_init_62 : decode cX0_init 62 = .ok (.iconst (-1), 1) := by decide +kernel
theorem dX0_init_63 : decode cX0_init 63 = .ok (.invokestatic 37, 3) := by decide +kernel
theorem dX0_init_66 : decode cX0_init 66 = .ok (.iconst 0, 1) := by decide +kernel
theorem dX0_init_67 : decode cX0_init 67 = .ok (.istore_n 1, 1) := by decide +kernel
theorem dX0_init_68 : decode cX0_init 68 = .ok (.iload_n 1, 1) := by decide +kernel
theorem dX0_init_69 : decode cX0_init 69 = .ok (.bipush 6, 2) := by decide +kernel
theorem dX0_init_71 : decode cX0_init 71 = .ok (.if_icmp .ge 22, 3) := by decide +kernel
theorem dX0_init_74 : decode cX0_init 74 = .ok (.aload_n 0, 1) := by decide +kernel
theorem dX0_init_75 : decode cX0_init 75 = .ok (.getfield 20, 3) := by decide +kernel
theorem dX0_init_78 : decode cX0_init 78 = .ok (.iload_n 1, 1) := by decide +kernel
theorem dX0_init_79 : decode cX0_init 79 = .ok (.new 18, 3) := by decide +kernel
theorem dX0_init_82 : decode cX0_init 82 = .ok (.dup, 1) := by decide +kernel
theorem dX0_init_83 : decode cX0_init 83 = .ok (.invokespecial 43, 3) := by decide +kernel
theorem dX0_init_86 : decode cX0_init 86 = .ok (.aastore, 1) := by decide +kernel
theorem dX0_init_87 : decode cX0_init 87 = .ok (.iinc 1 1, 3) := by decide +kernel
theorem dX0_init_90 : decode cX0_init 90 = .ok (.goto (-22), 3) := by decide +kernel
theorem dX0_init_93 : decode cX0_init 93 = .ok (.return_, 1) := by decide +kernel
theorem dX0_becomeLike_0 : decode cX0_becomeLike 0 = .ok (.aload_n 1, 1) := by decide +kernel
theorem dX0_becomeLike_1 : decode cX0_becomeLike 1 = .ok (.getfield 9, 3) := by decide +kernel
theorem dX0_becomeLike_4 : decode cX0_becomeLike 4 = .ok (.iconst 0, 1) := by decide +kernel
theorem dX0_becomeLike_5 : decode cX0_becomeLike 5 = .ok (.aload_n 0, 1) := by decide +kernel
theorem dX0_becomeLike_6 : decode cX0_becomeLike 6 = .ok (.getfield 9, 3) := by decide +kernel
theorem dX0_becomeLike_9 : decode cX0_becomeLike 9 = .ok (.iconst 0, 1) := by decide +kernel
theorem dX0_becomeLike_10 : decode cX0_becomeLike 10 = .ok (.bipush 25, 2) := by decide +kernel
theorem dX0_becomeLike_12 : decode cX0_becomeLike 12 = .ok (.invokestatic 44, 3) := by decide +kernel
theorem dX0_becomeLike_15 : decode cX0_becomeLike 15 = .ok (.aload_n 1, 1) := by decide +kernel
theorem dX0_becomeLike_16 : decode cX0_becomeLike 16 = .ok (.getfield 15, 3) := by decide +kernel
theorem dX0_becomeLike_19 : decode cX0_becomeLike 19 = .ok (.iconst 0, 1) := by decide +kernel
theorem dX0_becomeLike_20 : decode cX0_becomeLike 20 = .ok (.aload_n 0, 1) := by decide +kernel
theorem dX0_becomeLike_21 : decode cX0_becomeLike 21 = .ok (.getfield 15, 3) := by decide +kernel
theorem dX0_becomeLike_24 : decode cX0_becomeLike 24 = .ok (.iconst 0, 1) := by decide +kernel
theorem dX0_becomeLike_25 : decode cX0_becomeLike 25 = .ok (.bipush 10, 2) := by decide +kernel
theorem dX0_becomeLike_27 : decode cX0_becomeLike 27 = .ok (.invokestatic 44, 3) := by decide +kernel
theorem dX0_becomeLike_30 : decode cX0_becomeLike 30 = .ok (.aload_n 0, 1) := by decide +kernel
theorem dX0_becomeLike_31 : decode cX0_becomeLike 31 = .ok (.aload_n 1, 1) := by decide +kernel
theorem dX0_becomeLike_32 : decode cX0_becomeLike 32 = .ok (.getfield 24, 3) := by decide +kernel
theorem dX0_becomeLike_35 : decode cX0_becomeLike 35 = .ok (.putfield 24, 3) := by decide +kernel
theorem dX0_becomeLike_38 : decode cX0_becomeLike 38 = .ok (.iconst 0, 1) := by decide +kernel
theorem dX0_becomeLike_39 : decode cX0_becomeLike 39 = .ok (.istore_n 2, 1) := by decide +kernel
theorem dX0_becomeLike_40 : decode cX0_becomeLike 40 = .ok (.iload_n 2, 1) := by decide +kernel
theorem dX0_becomeLike_41 : decode cX0_becomeLike 41 = .ok (.aload_n 0, 1) := by decide +kernel
theorem dX0_becomeLike_42 : decode cX0_becomeLike 42 = .ok (.getfield 24, 3) := by decide +kernel
theorem dX0_becomeLike_45 : decode cX0_becomeLike 45 = .ok (.if_icmp .ge 24, 3) := by decide +kernel
theorem dX0_becomeLike_48 : decode cX0_becomeLike 48 = .ok (.aload_n 0, 1) := by decide +kernel
theorem dX0_becomeLike_49 : decode cX0_becomeLike 49 = .ok (.getfield 20, 3) := by decide +kernel
theorem dX0_becomeLike_52 : decode cX0_becomeLike 52 = .ok (.iload_n 2, 1) := by decide +kernel
theorem dX0_becomeLike_53 : decode cX0_becomeLike 53 = .ok (.aaload, 1) := by decide +kernel
theorem dX0_becomeLike_54 : decode cX0_becomeLike 54 = .ok (.aload_n 1, 1) := by decide +kernel
theorem dX0_becomeLike_55 : decode cX0_becomeLike 55 = .ok (.getfield 20, 3) := by decide +kernel
theorem dX0_becomeLike_58 : decode cX0_becomeLike 58 = .ok (.iload_n 2, 1) := by decide +kernel
theorem dX0_becomeLike_59 : decode cX0_becomeLike 59 = .ok (.aaload, 1) := by decide +kernel
theorem dX0_becomeLike_60 : decode cX0_becomeLike 60 = .ok (.invokevirtual 50, 3) := by decide +kernel
theorem dX0_becomeLike_63 : decode cX0_becomeLike 63 = .ok (.iinc 2 1, 3) := by decide +kernel
theorem dX0_becomeLike_66 : decode cX0_becomeLike 66 = .ok (.goto (-26), 3) := by decide +kernel
theorem dX0_becomeLike_69 : decode cX0_becomeLike 69 = .ok (.aload_n 0, 1) := by decide +kernel
theorem dX0_becomeLike_70 : decode cX0_becomeLike 70 = .ok (.aload_n 1, 1) := by decide +kernel
theorem dX0_becomeLike_71 : decode cX0_becomeLike 71 = .ok (.getfield 28, 3) := by decide +kernel
theorem dX0_becomeLike_74 : decode cX0_becomeLike 74 = .ok (.putfield 28, 3) := by decide +kernel
theorem dX0_becomeLike_77 : decode cX0_becomeLike 77 = .ok (.aload_n 0, 1) := by decide +kernel
theorem dX0_becomeLike_78 : decode cX0_becomeLike 78 = .ok (.aload_n 1, 1) := by decide +kernel
theorem dX0_becomeLike_79 : decode cX0_becomeLike 79 = .ok (.getfield 31, 3) := by decide +kernel
theorem dX0_becomeLike_82 : decode cX0_becomeLike 82 = .ok (.putfield 31, 3) := by decide +kernel
theorem dX0_becomeLike_85 : decode cX0_becomeLike 85 = .ok (.aload_n 0, 1) := by decide +kernel
theorem dX0_becomeLike_86 : decode cX0_becomeLike 86 = .ok (.aload_n 1, 1) := by decide +kernel
theorem dX0_becomeLike_87 : decode cX0_becomeLike 87 = .ok (.getfield 34, 3) := by decide +kernel
theorem dX0_becomeLike_90 : decode cX0_becomeLike 90 = .ok (.putfield 34, 3) := by decide +kernel
theorem dX0_becomeLike_93 : decode cX0_becomeLike 93 = .ok (.return_, 1) := by decide +kernel
theorem dX0_addTent_0 : decode cX0_addTent 0 = .ok (.aload_n 0, 1) := by decide +kernel
theorem dX0_addTent_1 : decode cX0_addTent 1 = .ok (.getfield 24, 3) := by decide +kernel
theorem dX0_addTent_4 : decode cX0_addTent 4 = .ok (.bipush 6, 2) := by decide +kernel
theorem dX0_addTent_6 : decode cX0_addTent 6 = .ok (.if_icmp .ge 26, 3) := by decide +kernel
theorem dX0_addTent_9 : decode cX0_addTent 9 = .ok (.aload_n 0, 1) := by decide +kernel
theorem dX0_addTent_10 : decode cX0_addTent 10 = .ok (.getfield 20, 3) := by decide +kernel
theorem dX0_addTent_13 : decode cX0_addTent 13 = .ok (.aload_n 0, 1) := by decide +kernel
theorem dX0_addTent_14 : decode cX0_addTent 14 = .ok (.getfield 24, 3) := by decide +kernel
theorem dX0_addTent_17 : decode cX0_addTent 17 = .ok (.aaload, 1) := by decide +kernel
theorem dX0_addTent_18 : decode cX0_addTent 18 = .ok (.iload_n 1, 1) := by decide +kernel
theorem dX0_addTent_19 : decode cX0_addTent 19 = .ok (.invokevirtual 54, 3) := by decide +kernel
theorem dX0_addTent_22 : decode cX0_addTent 22 = .ok (.aload_n 0, 1) := by decide +kernel
theorem dX0_addTent_23 : decode cX0_addTent 23 = .ok (.dup, 1) := by decide +kernel
theorem dX0_addTent_24 : decode cX0_addTent 24 = .ok (.getfield 24, 3) := by decide +kernel
theorem dX0_addTent_27 : decode cX0_addTent 27 = .ok (.iconst 1, 1) := by decide +kernel
theorem dX0_addTent_28 : decode cX0_addTent 28 = .ok (.iadd, 1) := by decide +kernel
theorem dX0_addTent_29 : decode cX0_addTent 29 = .ok (.putfield 24, 3) := by decide +kernel
theorem dX0_addTent_32 : decode cX0_addTent 32 = .ok (.return_, 1) := by decide +kernel
theorem dX0_pitchAlone_0 : decode cX0_pitchAlone 0 = .ok (.iconst 0, 1) := by decide +kernel
theorem dX0_pitchAlone_1 : decode cX0_pitchAlone 1 = .ok (.istore_n 3, 1) := by decide +kernel
theorem dX0_pitchAlone_2 : decode cX0_pitchAlone 2 = .ok (.iload_n 3, 1) := by decide +kernel
theorem dX0_pitchAlone_3 : decode cX0_pitchAlone 3 = .ok (.aload_n 0, 1) := by decide +kernel
theorem dX0_pitchAlone_4 : decode cX0_pitchAlone 4 = .ok (.getfield 24, 3) := by decide +kernel
theorem dX0_pitchAlone_7 : decode cX0_pitchAlone 7 = .ok (.if_icmp .ge 28, 3) := by decide +kernel
theorem dX0_pitchAlone_10 : decode cX0_pitchAlone 10 = .ok (.aload_n 0, 1) := by decide +kernel
theorem dX0_pitchAlone_11 : decode cX0_pitchAlone 11 = .ok (.getfield 20, 3) := by decide +kernel
theorem dX0_pitchAlone_14 : decode cX0_pitchAlone 14 = .ok (.iload_n 3, 1) := by decide +kernel
theorem dX0_pitchAlone_15 : decode cX0_pitchAlone 15 = .ok (.aaload, 1) := by decide +kernel
theorem dX0_pitchAlone_16 : decode cX0_pitchAlone 16 = .ok (.iload_n 3, 1) := by decide +kernel
theorem dX0_pitchAlone_17 : decode cX0_pitchAlone 17 = .ok (.iload_n 1, 1) := by decide +kernel
theorem dX0_pitchAlone_18 : decode cX0_pitchAlone 18 = .ok (.if_icmp .ne 7, 3) := by decide +kernel
theorem dX0_pitchAlone_21 : decode cX0_pitchAlone 21 = .ok (.iload_n 2, 1) := by decide +kernel
theorem dX0_pitchAlone_22 : decode cX0_pitchAlone 22 = .ok (.goto 4, 3) := by decide +kernel
theorem dX0_pitchAlone_25 : decode cX0_pitchAlone 25 = .ok (.iconst (-1), 1) := by decide +kernel
theorem dX0_pitchAlone_26 : decode cX0_pitchAlone 26 = .ok (.putfield 58, 3) := by decide +kernel
theorem dX0_pitchAlone_29 : decode cX0_pitchAlone 29 = .ok (.iinc 3 1, 3) := by decide +kernel
theorem dX0_pitchAlone_32 : decode cX0_pitchAlone 32 = .ok (.goto (-30), 3) := by decide +kernel
theorem dX0_pitchAlone_35 : decode cX0_pitchAlone 35 = .ok (.return_, 1) := by decide +kernel
theorem dX0_draw_0 : decode cX0_draw 0 = .ok (.aload_n 0, 1) := by decide +kernel
theorem dX0_draw_1 : decode cX0_draw 1 = .ok (.aload_n 0, 1) := by decide +kernel
theorem dX0_draw_2 : decode cX0_draw 2 = .ok (.getfield 34, 3) := by decide +kernel
theorem dX0_draw_5 : decode cX0_draw 5 = .ok (.ldc 61, 2) := by decide +kernel
theorem dX0_draw_7 : decode cX0_draw 7 = .ok (.imul, 1) := by decide +kernel
theorem dX0_draw_8 : decode cX0_draw 8 = .ok (.sipush 12345, 3) := by decide +kernel
theorem dX0_draw_11 : decode cX0_draw 11 = .ok (.iadd, 1) := by decide +kernel
theorem dX0_draw_12 : decode cX0_draw 12 = .ok (.putfield 34, 3) := by decide +kernel
theorem dX0_draw_15 : decode cX0_draw 15 = .ok (.aload_n 0, 1) := by decide +kernel
theorem dX0_draw_16 : decode cX0_draw 16 = .ok (.getfield 34, 3) := by decide +kernel
theorem dX0_draw_19 : decode cX0_draw 19 = .ok (.bipush 8, 2) := by decide +kernel
theorem dX0_draw_21 : decode cX0_draw 21 = .ok (.iushr, 1) := by decide +kernel
theorem dX0_draw_22 : decode cX0_draw 22 = .ok (.ireturn, 1) := by decide +kernel
theorem dX0_passDays_0 : decode cX0_passDays 0 = .ok (.iconst 0, 1) := by decide +kernel
theorem dX0_passDays_1 : decode cX0_passDays 1 = .ok (.istore_n 2, 1) := by decide +kernel
theorem dX0_passDays_2 : decode cX0_passDays 2 = .ok (.iload_n 2, 1) := by decide +kernel
theorem dX0_passDays_3 : decode cX0_passDays 3 = .ok (.iload_n 1, 1) := by decide +kernel
theorem dX0_passDays_4 : decode cX0_passDays 4 = .ok (.if_icmp .ge 13, 3) := by decide +kernel
theorem dX0_passDays_7 : decode cX0_passDays 7 = .ok (.aload_n 0, 1) := by decide +kernel
theorem dX0_passDays_8 : decode cX0_passDays 8 = .ok (.invokevirtual 62, 3) := by decide +kernel
theorem dX0_passDays_11 : decode cX0_passDays 11 = .ok (.iinc 2 1, 3) := by decide +kernel
theorem dX0_passDays_14 : decode cX0_passDays 14 = .ok (.goto (-12), 3) := by decide +kernel
theorem dX0_passDays_17 : decode cX0_passDays 17 = .ok (.return_, 1) := by decide +kernel
theorem dX0_passDay_0 : decode cX0_passDay 0 = .ok (.iconst 0, 1) := by decide +kernel
theorem dX0_passDay_1 : decode cX0_passDay 1 = .ok (.istore_n 1, 1) := by decide +kernel
theorem dX0_passDay_2 : decode cX0_passDay 2 = .ok (.iload_n 1, 1) := by decide +kernel
theorem dX0_passDay_3 : decode cX0_passDay 3 = .ok (.aload_n 0, 1) := by decide +kernel
theorem dX0_passDay_4 : decode cX0_passDay 4 = .ok (.getfield 24, 3) := by decide +kernel
theorem dX0_passDay_7 : decode cX0_passDay 7 = .ok (.if_icmp .ge 40, 3) := by decide +kernel
theorem dX0_passDay_10 : decode cX0_passDay 10 = .ok (.aload_n 0, 1) := by decide +kernel
theorem dX0_passDay_11 : decode cX0_passDay 11 = .ok (.getfield 20, 3) := by decide +kernel
theorem dX0_passDay_14 : decode cX0_passDay 14 = .ok (.iload_n 1, 1) := by decide +kernel
theorem dX0_passDay_15 : decode cX0_passDay 15 = .ok (.aaload, 1) := by decide +kernel
theorem dX0_passDay_16 : decode cX0_passDay 16 = .ok (.invokevirtual 65, 3) := by decide +kernel
theorem dX0_passDay_19 : decode cX0_passDay 19 = .ok (.ifCond .eq 22, 3) := by decide +kernel
theorem dX0_passDay_22 : decode cX0_passDay 22 = .ok (.aload_n 0, 1) := by decide +kernel
theorem dX0_passDay_23 : decode cX0_passDay 23 = .ok (.aload_n 0, 1) := by decide +kernel
theorem dX0_passDay_24 : decode cX0_passDay 24 = .ok (.getfield 20, 3) := by decide +kernel
theorem dX0_passDay_27 : decode cX0_passDay 27 = .ok (.iload_n 1, 1) := by decide +kernel
theorem dX0_passDay_28 : decode cX0_passDay 28 = .ok (.aaload, 1) := by decide +kernel
theorem dX0_passDay_29 : decode cX0_passDay 29 = .ok (.invokevirtual 69, 3) := by decide +kernel
theorem dX0_passDay_32 : decode cX0_passDay 32 = .ok (.aload_n 0, 1) := by decide +kernel
theorem dX0_passDay_33 : decode cX0_passDay 33 = .ok (.getfield 20, 3) := by decide +kernel
theorem dX0_passDay_36 : decode cX0_passDay 36 = .ok (.iload_n 1, 1) := by decide +kernel
theorem dX0_passDay_37 : decode cX0_passDay 37 = .ok (.aaload, 1) := by decide +kernel
theorem dX0_passDay_38 : decode cX0_passDay 38 = .ok (.invokevirtual 72, 3) := by decide +kernel
theorem dX0_passDay_41 : decode cX0_passDay 41 = .ok (.iinc 1 1, 3) := by decide +kernel
theorem dX0_passDay_44 : decode cX0_passDay 44 = .ok (.goto (-42), 3) := by decide +kernel
theorem dX0_passDay_47 : decode cX0_passDay 47 = .ok (.aload_n 0, 1) := by decide +kernel
theorem dX0_passDay_48 : decode cX0_passDay 48 = .ok (.getfield 31, 3) := by decide +kernel
theorem dX0_passDay_51 : decode cX0_passDay 51 = .ok (.ldc 75, 2) := by decide +kernel
theorem dX0_passDay_53 : decode cX0_passDay 53 = .ok (.if_icmp .ge 13, 3) := by decide +kernel
theorem dX0_passDay_56 : decode cX0_passDay 56 = .ok (.aload_n 0, 1) := by decide +kernel
theorem dX0_passDay_57 : decode cX0_passDay 57 = .ok (.dup, 1) := by decide +kernel
theorem dX0_passDay_58 : decode cX0_passDay 58 = .ok (.getfield 31, 3) := by decide +kernel
theorem dX0_passDay_61 : decode cX0_passDay 61 = .ok (.iconst 1, 1) := by decide +kernel
theorem dX0_passDay_62 : decode cX0_passDay 62 = .ok (.iadd, 1) := by decide +kernel
theorem dX0_passDay_63 : decode cX0_passDay 63 = .ok (.putfield 31, 3) := by decide +kernel
theorem dX0_passDay_66 : decode cX0_passDay 66 = .ok (.return_, 1) := by decide +kernel
theorem dX0_pressAndTake_0 : decode cX0_pressAndTake 0 = .ok (.iconst 0, 1) := by decide +kernel
theorem dX0_pressAndTake_1 : decode cX0_pressAndTake 1 = .ok (.istore_n 2, 1) := by decide +kernel
theorem dX0_pressAndTake_2 : decode cX0_pressAndTake 2 = .ok (.iload_n 2, 1) := by decide +kernel
theorem dX0_pressAndTake_3 : decode cX0_pressAndTake 3 = .ok (.iconst 4, 1) := by decide +kernel
theorem dX0_pressAndTake_4 : decode cX0_pressAndTake 4 = .ok (.if_icmp .ge 79, 3) := by decide +kernel
theorem dX0_pressAndTake_7 : decode cX0_pressAndTake 7 = .ok (.aload_n 1, 1) := by decide +kernel
theorem dX0_pressAndTake_8 : decode cX0_pressAndTake 8 = .ok (.getfield 58, 3) := by decide +kernel
theorem dX0_pressAndTake_11 : decode cX0_pressAndTake 11 = .ok (.iload_n 2, 1) := by decide +kernel
theorem dX0_pressAndTake_12 : decode cX0_pressAndTake 12 = .ok (.invokestatic 76, 3) := by decide +kernel
theorem dX0_pressAndTake_15 : decode cX0_pressAndTake 15 = .ok (.istore_n 3, 1) := by decide +kernel
theorem dX0_pressAndTake_16 : decode cX0_pressAndTake 16 = .ok (.aload_n 1, 1) := by decide +kernel
theorem dX0_pressAndTake_17 : decode cX0_pressAndTake 17 = .ok (.getfield 80, 3) := by decide +kernel
theorem dX0_pressAndTake_20 : decode cX0_pressAndTake 20 = .ok (.iload_n 2, 1) := by decide +kernel
theorem dX0_pressAndTake_21 : decode cX0_pressAndTake 21 = .ok (.iaload, 1) := by decide +kernel
theorem dX0_pressAndTake_22 : decode cX0_pressAndTake 22 = .ok (.istore 4, 2) := by decide +kernel
theorem dX0_pressAndTake_24 : decode cX0_pressAndTake 24 = .ok (.aload_n 0, 1) := by decide +kernel
theorem dX0_pressAndTake_25 : decode cX0_pressAndTake 25 = .ok (.getfield 9, 3) := by decide +kernel
theorem dX0_pressAndTake_28 : decode cX0_pressAndTake 28 = .ok (.iload_n 3, 1) := by decide +kernel
theorem dX0_pressAndTake_29 : decode cX0_pressAndTake 29 = .ok (.iaload, 1) := by decide +kernel
theorem dX0_pressAndTake_30 : decode cX0_pressAndTake 30 = .ok (.istore 5, 2) := by decide +kernel
theorem dX0_pressAndTake_32 : decode cX0_pressAndTake 32 = .ok (.iload 4, 2) := by decide +kernel
theorem dX0_pressAndTake_34 : decode cX0_pressAndTake 34 = .ok (.iconst (-1), 1) := by decide +kernel
theorem dX0_pressAndTake_35 : decode cX0_pressAndTake 35 = .ok (.if_icmp .ne 14, 3) := by decide +kernel
theorem dX0_pressAndTake_38 : decode cX0_pressAndTake 38 = .ok (.aload_n 1, 1) := by decide +kernel
theorem dX0_pressAndTake_39 : decode cX0_pressAndTake 39 = .ok (.getfield 80, 3) := by decide +kernel
theorem dX0_pressAndTake_42 : decode cX0_pressAndTake 42 = .ok (.iload_n 2, 1) := by decide +kernel
theorem dX0_pressAndTake_43 : decode cX0_pressAndTake 43 = .ok (.iload 5, 2) := by decide +kernel
theorem dX0_pressAndTake_45 : decode cX0_pressAndTake 45 = .ok (.iastore, 1) := by decide +kernel
theorem dX0_pressAndTake_46 : decode cX0_pressAndTake 46 = .ok (.goto 31, 3) := by decide +kernel
theorem dX0_pressAndTake_49 : decode cX0_pressAndTake 49 = .ok (.aload_n 0, 1) := by decide +kernel
theorem dX0_pressAndTake_50 : decode cX0_pressAndTake 50 = .ok (.getfield 9, 3) := by decide +kernel
theorem dX0_pressAndTake_53 : decode cX0_pressAndTake 53 = .ok (.iload_n 3, 1) := by decide +kernel
theorem dX0_pressAndTake_54 : decode cX0_pressAndTake 54 = .ok (.aload_n 1, 1) := by decide +kernel
theorem dX0_pressAndTake_55 : decode cX0_pressAndTake 55 = .ok (.iload 4, 2) := by decide +kernel
theorem dX0_pressAndTake_57 : decode cX0_pressAndTake 57 = .ok (.iload 5, 2) := by decide +kernel
theorem dX0_pressAndTake_59 : decode cX0_pressAndTake 59 = .ok (.invokevirtual 83, 3) := by decide +kernel
theorem dX0_pressAndTake_62 : decode cX0_pressAndTake 62 = .ok (.iastore, 1) := by decide +kernel
theorem dX0_pressAndTake_63 : decode cX0_pressAndTake 63 = .ok (.aload_n 1, 1) := by decide +kernel
theorem dX0_pressAndTake_64 : decode cX0_pressAndTake 64 = .ok (.getfield 80, 3) := by decide +kernel
theorem dX0_pressAndTake_67 : decode cX0_pressAndTake 67 = .ok (.iload_n 2, 1) := by decide +kernel
theorem dX0_pressAndTake_68 : decode cX0_pressAndTake 68 = .ok (.aload_n 1, 1) := by decide +kernel
theorem dX0_pressAndTake_69 : decode cX0_pressAndTake 69 = .ok (.iload 4, 2) := by decide +kernel
theorem dX0_pressAndTake_71 : decode cX0_pressAndTake 71 = .ok (.iload 5, 2) := by decide +kernel
theorem dX0_pressAndTake_73 : decode cX0_pressAndTake 73 = .ok (.invokevirtual 86, 3) := by decide +kernel
theorem dX0_pressAndTake_76 : decode cX0_pressAndTake 76 = .ok (.iastore, 1) := by decide +kernel
theorem dX0_pressAndTake_77 : decode cX0_pressAndTake 77 = .ok (.iinc 2 1, 3) := by decide +kernel
theorem dX0_pressAndTake_80 : decode cX0_pressAndTake 80 = .ok (.goto (-78), 3) := by decide +kernel
theorem dX0_pressAndTake_83 : decode cX0_pressAndTake 83 = .ok (.return_, 1) := by decide +kernel
theorem dX0_springAt_0 : decode cX0_springAt 0 = .ok (.aload_n 0, 1) := by decide +kernel
theorem dX0_springAt_1 : decode cX0_springAt 1 = .ok (.getfield 28, 3) := by decide +kernel
theorem dX0_springAt_4 : decode cX0_springAt 4 = .ok (.iload_n 1, 1) := by decide +kernel
theorem dX0_springAt_5 : decode cX0_springAt 5 = .ok (.iushr, 1) := by decide +kernel
theorem dX0_springAt_6 : decode cX0_springAt 6 = .ok (.iconst 1, 1) := by decide +kernel
theorem dX0_springAt_7 : decode cX0_springAt 7 = .ok (.iand, 1) := by decide +kernel
theorem dX0_springAt_8 : decode cX0_springAt 8 = .ok (.ireturn, 1) := by decide +kernel
theorem dX0_setSpring_0 : decode cX0_setSpring 0 = .ok (.iload_n 2, 1) := by decide +kernel
theorem dX0_setSpring_1 : decode cX0_setSpring 1 = .ok (.iconst 1, 1) := by decide +kernel
theorem dX0_setSpring_2 : decode cX0_setSpring 2 = .ok (.if_icmp .ne 18, 3) := by decide +kernel
theorem dX0_setSpring_5 : decode cX0_setSpring 5 = .ok (.aload_n 0, 1) := by decide +kernel
theorem dX0_setSpring_6 : decode cX0_setSpring 6 = .ok (.dup, 1) := by decide +kernel
theorem dX0_setSpring_7 : decode cX0_setSpring 7 = .ok (.getfield 28, 3) := by decide +kernel
theorem dX0_setSpring_10 : decode cX0_setSpring 10 = .ok (.iconst 1, 1) := by decide +kernel
theorem dX0_setSpring_11 : decode cX0_setSpring 11 = .ok (.iload_n 1, 1) := by decide +kernel
theorem dX0_setSpring_12 : decode cX0_setSpring 12 = .ok (.ishl, 1) := by decide +kernel
theorem dX0_setSpring_13 : decode cX0_setSpring 13 = .ok (.ior, 1) := by decide +kernel
theorem dX0_setSpring_14 : decode cX0_setSpring 14 = .ok (.putfield 28, 3) := by decide +kernel
theorem dX0_setSpring_17 : decode cX0_setSpring 17 = .ok (.goto 17, 3) := by decide +kernel
theorem dX0_setSpring_20 : decode cX0_setSpring 20 = .ok (.aload_n 0, 1) := by decide +kernel
theorem dX0_setSpring_21 : decode cX0_setSpring 21 = .ok (.dup, 1) := by decide +kernel
theorem dX0_setSpring_22 : decode cX0_setSpring 22 = .ok (.getfield 28, 3) := by decide +kernel
theorem dX0_setSpring_25 : decode cX0_setSpring 25 = .ok (.iconst 1, 1) := by decide +kernel
theorem dX0_setSpring_26 : decode cX0_setSpring 26 = .ok (.iload_n 1, 1) := by decide +kernel
theorem dX0_setSpring_27 : decode cX0_setSpring 27 = .ok (.ishl, 1) := by decide +kernel
theorem dX0_setSpring_28 : decode cX0_setSpring 28 = .ok (.iconst (-1), 1) := by decide +kernel
theorem dX0_setSpring_29 : decode cX0_setSpring 29 = .ok (.ixor, 1) := by decide +kernel
theorem dX0_setSpring_30 : decode cX0_setSpring 30 = .ok (.iand, 1) := by decide +kernel
theorem dX0_setSpring_31 : decode cX0_setSpring 31 = .ok (.putfield 28, 3) := by decide +kernel
theorem dX0_setSpring_34 : decode cX0_setSpring 34 = .ok (.return_, 1) := by decide +kernel
theorem dX0_tentsOver_0 : decode cX0_tentsOver 0 = .ok (.iconst 0, 1) := by decide +kernel
theorem dX0_tentsOver_1 : decode cX0_tentsOver 1 = .ok (.istore_n 2, 1) := by decide +kernel
theorem dX0_tentsOver_2 : decode cX0_tentsOver 2 = .ok (.iconst 0, 1) := by decide +kernel
theorem dX0_tentsOver_3 : decode cX0_tentsOver 3 = .ok (.istore_n 3, 1) := by decide +kernel
theorem dX0_tentsOver_4 : decode cX0_tentsOver 4 = .ok (.iload_n 3, 1) := by decide +kernel
theorem dX0_tentsOver_5 : decode cX0_tentsOver 5 = .ok (.aload_n 0, 1) := by decide +kernel
theorem dX0_tentsOver_6 : decode cX0_tentsOver 6 = .ok (.getfield 24, 3) := by decide +kernel
theorem dX0_tentsOver_9 : decode cX0_tentsOver 9 = .ok (.if_icmp .ge 47, 3) := by decide +kernel
theorem dX0_tentsOver_12 : decode cX0_tentsOver 12 = .ok (.aload_n 0, 1) := by decide +kernel
theorem dX0_tentsOver_13 : decode cX0_tentsOver 13 = .ok (.getfield 20, 3) := by decide +kernel
theorem dX0_tentsOver_16 : decode cX0_tentsOver 16 = .ok (.iload_n 3, 1) := by decide +kernel
theorem dX0_tentsOver_17 : decode cX0_tentsOver 17 = .ok (.aaload, 1) := by decide +kernel
theorem dX0_tentsOver_18 : decode cX0_tentsOver 18 = .ok (.invokevirtual 65, 3) := by decide +kernel
theorem dX0_tentsOver_21 : decode cX0_tentsOver 21 = .ok (.ifCond .eq 29, 3) := by decide +kernel
theorem dX0_tentsOver_24 : decode cX0_tentsOver 24 = .ok (.aload_n 0, 1) := by decide +kernel
theorem dX0_tentsOver_25 : decode cX0_tentsOver 25 = .ok (.getfield 20, 3) := by decide +kernel
theorem dX0_tentsOver_28 : decode cX0_tentsOver 28 = .ok (.iload_n 3, 1) := by decide +kernel
theorem dX0_tentsOver_29 : decode cX0_tentsOver 29 = .ok (.aaload, 1) := by decide +kernel
theorem dX0_tentsOver_30 : decode cX0_tentsOver 30 = .ok (.getfield 58, 3) := by decide +kernel
theorem dX0_tentsOver_33 : decode cX0_tentsOver 33 = .ok (.invokestatic 89, 3) := by decide +kernel
theorem dX0_tentsOver_36 : decode cX0_tentsOver 36 = .ok (.iload_n 1, 1) := by decide +kernel
theorem dX0_tentsOver_37 : decode cX0_tentsOver 37 = .ok (.iushr, 1) := by decide +kernel
theorem dX0_tentsOver_38 : decode cX0_tentsOver 38 = .ok (.iconst 1, 1) := by decide +kernel
theorem dX0_tentsOver_39 : decode cX0_tentsOver 39 = .ok (.iand, 1) := by decide +kernel
theorem dX0_tentsOver_40 : decode cX0_tentsOver 40 = .ok (.iconst 1, 1) := by decide +kernel
theorem dX0_tentsOver_41 : decode cX0_tentsOver 41 = .ok (.if_icmp .ne 9, 3) := by decide +kernel
theorem dX0_tentsOver_44 : decode cX0_tentsOver 44 = .ok (.iload_n 2, 1) := by decide +kernel
theorem dX0_tentsOver_45 : decode cX0_tentsOver 45 = .ok (.iconst 1, 1) := by decide +kernel
theorem dX0_tentsOver_46 : decode cX0_tentsOver 46 = .ok (.iload_n 3, 1) := by decide +kernel
theorem dX0_tentsOver_47 : decode cX0_tentsOver 47 = .ok (.ishl, 1) := by decide +kernel
theorem dX0_tentsOver_48 : decode cX0_tentsOver 48 = .ok (.ior, 1) := by decide +kernel
theorem dX0_tentsOver_49 : decode cX0_tentsOver 49 = .ok (.istore_n 2, 1) := by decide +kernel
theorem dX0_tentsOver_50 : decode cX0_tentsOver 50 = .ok (.iinc 3 1, 3) := by decide +kernel
theorem dX0_tentsOver_53 : decode cX0_tentsOver 53 = .ok (.goto (-49), 3) := by decide +kernel
theorem dX0_tentsOver_56 : decode cX0_tentsOver 56 = .ok (.iload_n 2, 1) := by decide +kernel
theorem dX0_tentsOver_57 : decode cX0_tentsOver 57 = .ok (.ireturn, 1) := by decide +kernel
theorem dX0_cellsUnder_0 : decode cX0_cellsUnder 0 = .ok (.iconst 0, 1) := by decide +kernel
theorem dX0_cellsUnder_1 : decode cX0_cellsUnder 1 = .ok (.istore_n 1, 1) := by decide +kernel
theorem dX0_cellsUnder_2 : decode cX0_cellsUnder 2 = .ok (.iconst 0, 1) := by decide +kernel
theorem dX0_cellsUnder_3 : decode cX0_cellsUnder 3 = .ok (.istore_n 2, 1) := by decide +kernel
theorem dX0_cellsUnder_4 : decode cX0_cellsUnder 4 = .ok (.iload_n 2, 1) := by decide +kernel
theorem dX0_cellsUnder_5 : decode cX0_cellsUnder 5 = .ok (.iconst 4, 1) := by decide +kernel
theorem dX0_cellsUnder_6 : decode cX0_cellsUnder 6 = .ok (.if_icmp .ge 19, 3) := by decide +kernel
theorem dX0_cellsUnder_9 : decode cX0_cellsUnder 9 = .ok (.iload_n 1, 1) := by decide +kernel
theorem dX0_cellsUnder_10 : decode cX0_cellsUnder 10 = .ok (.iconst 1, 1) := by decide +kernel
theorem dX0_cellsUnder_11 : decode cX0_cellsUnder 11 = .ok (.iload_n 0, 1) := by decide +kernel
theorem dX0_cellsUnder_12 : decode cX0_cellsUnder 12 = .ok (.iload_n 2, 1) := by decide +kernel
theorem dX0_cellsUnder_13 : decode cX0_cellsUnder 13 = .ok (.invokestatic 76, 3) := by decide +kernel
theorem dX0_cellsUnder_16 : decode cX0_cellsUnder 16 = .ok (.ishl, 1) := by decide +kernel
theorem dX0_cellsUnder_17 : decode cX0_cellsUnder 17 = .ok (.ior, 1) := by decide +kernel
theorem dX0_cellsUnder_18 : decode cX0_cellsUnder 18 = .ok (.istore_n 1, 1) := by decide +kernel
theorem dX0_cellsUnder_19 : decode cX0_cellsUnder 19 = .ok (.iinc 2 1, 3) := by decide +kernel
theorem dX0_cellsUnder_22 : decode cX0_cellsUnder 22 = .ok (.goto (-18), 3) := by decide +kernel
theorem dX0_cellsUnder_25 : decode cX0_cellsUnder 25 = .ok (.iload_n 1, 1) := by decide +kernel
theorem dX0_cellsUnder_26 : decode cX0_cellsUnder 26 = .ok (.ireturn, 1) := by decide +kernel
theorem dX0_dryPitches_0 : decode cX0_dryPitches 0 = .ok (.iconst 0, 1) := by decide +kernel
theorem dX0_dryPitches_1 : decode cX0_dryPitches 1 = .ok (.istore_n 1, 1) := by decide +kernel
theorem dX0_dryPitches_2 : decode cX0_dryPitches 2 = .ok (.iconst 0, 1) := by decide +kernel
theorem dX0_dryPitches_3 : decode cX0_dryPitches 3 = .ok (.istore_n 2, 1) := by decide +kernel
theorem dX0_dryPitches_4 : decode cX0_dryPitches 4 = .ok (.iload_n 2, 1) := by decide +kernel
theorem dX0_dryPitches_5 : decode cX0_dryPitches 5 = .ok (.bipush 16, 2) := by decide +kernel
theorem dX0_dryPitches_7 : decode cX0_dryPitches 7 = .ok (.if_icmp .ge 24, 3) := by decide +kernel
theorem dX0_dryPitches_10 : decode cX0_dryPitches 10 = .ok (.iload_n 2, 1) := by decide +kernel
theorem dX0_dryPitches_11 : decode cX0_dryPitches 11 = .ok (.invokestatic 89, 3) := by decide +kernel
theorem dX0_dryPitches_14 : decode cX0_dryPitches 14 = .ok (.aload_n 0, 1) := by decide +kernel
theorem dX0_dryPitches_15 : decode cX0_dryPitches 15 = .ok (.getfield 28, 3) := by decide +kernel
theorem dX0_dryPitches_18 : decode cX0_dryPitches 18 = .ok (.iand, 1) := by decide +kernel
theorem dX0_dryPitches_19 : decode cX0_dryPitches 19 = .ok (.ifCond .ne 6, 3) := by decide +kernel
theorem dX0_dryPitches_22 : decode cX0_dryPitches 22 = .ok (.iinc 1 1, 3) := by decide +kernel
theorem dX0_dryPitches_25 : decode cX0_dryPitches 25 = .ok (.iinc 2 1, 3) := by decide +kernel
theorem dX0_dryPitches_28 : decode cX0_dryPitches 28 = .ok (.goto (-24), 3) := by decide +kernel
theorem dX0_dryPitches_31 : decode cX0_dryPitches 31 = .ok (.iload_n 1, 1) := by decide +kernel
theorem dX0_dryPitches_32 : decode cX0_dryPitches 32 = .ok (.ireturn, 1) := by decide +kernel
theorem dX0_steepnessAt_0 : decode cX0_steepnessAt 0 = .ok (.iconst 0, 1) := by decide +kernel
theorem dX0_steepnessAt_1 : decode cX0_steepnessAt 1 = .ok (.istore_n 2, 1) := by decide +kernel
theorem dX0_steepnessAt_2 : decode cX0_steepnessAt 2 = .ok (.iconst 0, 1) := by decide +kernel
theorem dX0_steepnessAt_3 : decode cX0_steepnessAt 3 = .ok (.istore_n 3, 1) := by decide +kernel
theorem dX0_steepnessAt_4 : decode cX0_steepnessAt 4 = .ok (.iload_n 3, 1) := by decide +kernel
theorem dX0_steepnessAt_5 : decode cX0_steepnessAt 5 = .ok (.iconst 4, 1) := by decide +kernel
theorem dX0_steepnessAt_6 : decode cX0_steepnessAt 6 = .ok (.if_icmp .ge 34, 3) := by decide +kernel
theorem dX0_steepnessAt_9 : decode cX0_steepnessAt 9 = .ok (.iload_n 1, 1) := by decide +kernel
theorem dX0_steepnessAt_10 : decode cX0_steepnessAt 10 = .ok (.iload_n 3, 1) := by decide +kernel
theorem dX0_steepnessAt_11 : decode cX0_steepnessAt 11 = .ok (.invokestatic 93, 3) := by decide +kernel
theorem dX0_steepnessAt_14 : decode cX0_steepnessAt 14 = .ok (.istore 4, 2) := by decide +kernel
theorem dX0_steepnessAt_16 : decode cX0_steepnessAt 16 = .ok (.iload 4, 2) := by decide +kernel
theorem dX0_steepnessAt_18 : decode cX0_steepnessAt 18 = .ok (.iconst (-1), 1) := by decide +kernel
theorem dX0_steepnessAt_19 : decode cX0_steepnessAt 19 = .ok (.if_icmp .eq 15, 3) := by decide +kernel
theorem dX0_steepnessAt_22 : decode cX0_steepnessAt 22 = .ok (.iload_n 2, 1) := by decide +kernel
theorem dX0_steepnessAt_23 : decode cX0_steepnessAt 23 = .ok (.aload_n 0, 1) := by decide +kernel
theorem dX0_steepnessAt_24 : decode cX0_steepnessAt 24 = .ok (.iload_n 1, 1) := by decide +kernel
theorem dX0_steepnessAt_25 : decode cX0_steepnessAt 25 = .ok (.iload 4, 2) := by decide +kernel
theorem dX0_steepnessAt_27 : decode cX0_steepnessAt 27 = .ok (.invokevirtual 96, 3) := by decide +kernel
theorem dX0_steepnessAt_30 : decode cX0_steepnessAt 30 = .ok (.invokestatic 99, 3) := by decide +kernel
theorem dX0_steepnessAt_33 : decode cX0_steepnessAt 33 = .ok (.istore_n 2, 1) := by decide +kernel
theorem dX0_steepnessAt_34 : decode cX0_steepnessAt 34 = .ok (.iinc 3 1, 3) := by decide +kernel
theorem dX0_steepnessAt_37 : decode cX0_steepnessAt 37 = .ok (.goto (-33), 3) := by decide +kernel
theorem dX0_steepnessAt_40 : decode cX0_steepnessAt 40 = .ok (.iload_n 2, 1) := by decide +kernel
theorem dX0_steepnessAt_41 : decode cX0_steepnessAt 41 = .ok (.ireturn, 1) := by decide +kernel
theorem dX0_climbBetween_0 : decode cX0_climbBetween 0 = .ok (.aload_n 0, 1) := by decide +kernel
theorem dX0_climbBetween_1 : decode cX0_climbBetween 1 = .ok (.getfield 9, 3) := by decide +kernel
theorem dX0_climbBetween_4 : decode cX0_climbBetween 4 = .ok (.iload_n 1, 1) := by decide +kernel
theorem dX0_climbBetween_5 : decode cX0_climbBetween 5 = .ok (.iaload, 1) := by decide +kernel
theorem dX0_climbBetween_6 : decode cX0_climbBetween 6 = .ok (.aload_n 0, 1) := by decide +kernel
theorem dX0_climbBetween_7 : decode cX0_climbBetween 7 = .ok (.getfield 9, 3) := by decide +kernel
theorem dX0_climbBetween_10 : decode cX0_climbBetween 10 = .ok (.iload_n 2, 1) := by decide +kernel
theorem dX0_climbBetween_11 : decode cX0_climbBetween 11 = .ok (.iaload, 1) := by decide +kernel
theorem dX0_climbBetween_12 : decode cX0_climbBetween 12 = .ok (.isub, 1) := by decide +kernel
theorem dX0_climbBetween_13 : decode cX0_climbBetween 13 = .ok (.invokestatic 104, 3) := by decide +kernel
theorem dX0_climbBetween_16 : decode cX0_climbBetween 16 = .ok (.ireturn, 1) := by decide +kernel
theorem dX0_isStep_0 : decode cX0_isStep 0 = .ok (.iconst 0, 1) := by decide +kernel
theorem dX0_isStep_1 : decode cX0_isStep 1 = .ok (.istore 4, 2) := by decide +kernel
theorem dX0_isStep_3 : decode cX0_isStep 3 = .ok (.iload 4, 2) := by decide +kernel
theorem dX0_isStep_5 : decode cX0_isStep 5 = .ok (.iconst 4, 1) := by decide +kernel
theorem dX0_isStep_6 : decode cX0_isStep 6 = .ok (.if_icmp .ge 35, 3) := by decide +kernel
theorem dX0_isStep_9 : decode cX0_isStep 9 = .ok (.iload_n 1, 1) := by decide +kernel
theorem dX0_isStep_10 : decode cX0_isStep 10 = .ok (.iload 4, 2) := by decide +kernel
theorem dX0_isStep_12 : decode cX0_isStep 12 = .ok (.invokestatic 93, 3) := by decide +kernel
theorem dX0_isStep_15 : decode cX0_isStep 15 = .ok (.iload_n 2, 1) := by decide +kernel
theorem dX0_isStep_16 : decode cX0_isStep 16 = .ok (.if_icmp .ne 19, 3) := by decide +kernel
theorem dX0_isStep_19 : decode cX0_isStep 19 = .ok (.aload_n 0, 1) := by decide +kernel
theorem dX0_isStep_20 : decode cX0_isStep 20 = .ok (.iload_n 1, 1) := by decide +kernel
theorem dX0_isStep_21 : decode cX0_isStep 21 = .ok (.iload_n 2, 1) := by decide +kernel
theorem dX0_isStep_22 : decode cX0_isStep 22 = .ok (.invokevirtual 96, 3) := by decide +kernel
theorem dX0_isStep_25 : decode cX0_isStep 25 = .ok (.iload_n 3, 1) := by decide +kernel
theorem dX0_isStep_26 : decode cX0_isStep 26 = .ok (.if_icmp .gt 7, 3) := by decide +kernel
theorem dX0_isStep_29 : decode cX0_isStep 29 = .ok (.iconst 1, 1) := by decide +kernel
theorem dX0_isStep_30 : decode cX0_isStep 30 = .ok (.goto 4, 3) := by decide +kernel
theorem dX0_isStep_33 : decode cX0_isStep 33 = .ok (.iconst 0, 1) := by decide +kernel
theorem dX0_isStep_34 : decode cX0_isStep 34 = .ok (.ireturn, 1) := by decide +kernel
theorem dX0_isStep_35 : decode cX0_isStep 35 = .ok (.iinc 4 1, 3) := by decide +kernel
theorem dX0_isStep_38 : decode cX0_isStep 38 = .ok (.goto (-35), 3) := by decide +kernel
theorem dX0_isStep_41 : decode cX0_isStep 41 = .ok (.iconst 0, 1) := by decide +kernel
theorem dX0_isStep_42 : decode cX0_isStep 42 = .ok (.ireturn, 1) := by decide +kernel
theorem dX0_heightSum_0 : decode cX0_heightSum 0 = .ok (.iconst 0, 1) := by decide +kernel
theorem dX0_heightSum_1 : decode cX0_heightSum 1 = .ok (.istore_n 1, 1) := by decide +kernel
theorem dX0_heightSum_2 : decode cX0_heightSum 2 = .ok (.iconst 0, 1) := by decide +kernel
theorem dX0_heightSum_3 : decode cX0_heightSum 3 = .ok (.istore_n 2, 1) := by decide +kernel
theorem dX0_heightSum_4 : decode cX0_heightSum 4 = .ok (.iload_n 2, 1) := by decide +kernel
theorem dX0_heightSum_5 : decode cX0_heightSum 5 = .ok (.bipush 25, 2) := by decide +kernel
theorem dX0_heightSum_7 : decode cX0_heightSum 7 = .ok (.if_icmp .ge 18, 3) := by decide +kernel
theorem dX0_heightSum_10 : decode cX0_heightSum 10 = .ok (.iload_n 1, 1) := by decide +kernel
theorem dX0_heightSum_11 : decode cX0_heightSum 11 = .ok (.aload_n 0, 1) := by decide +kernel
theorem dX0_heightSum_12 : decode cX0_heightSum 12 = .ok (.getfield 9, 3) := by decide +kernel
theorem dX0_heightSum_15 : decode cX0_heightSum 15 = .ok (.iload_n 2, 1) := by decide +kernel
theorem dX0_heightSum_16 : decode cX0_heightSum 16 = .ok (.iaload, 1) := by decide +kernel
theorem dX0_heightSum_17 : decode cX0_heightSum 17 = .ok (.iadd, 1) := by decide +kernel
theorem dX0_heightSum_18 : decode cX0_heightSum 18 = .ok (.istore_n 1, 1) := by decide +kernel
theorem dX0_heightSum_19 : decode cX0_heightSum 19 = .ok (.iinc 2 1, 3) := by decide +kernel
theorem dX0_heightSum_22 : decode cX0_heightSum 22 = .ok (.goto (-18), 3) := by decide +kernel
theorem dX0_heightSum_25 : decode cX0_heightSum 25 = .ok (.iload_n 1, 1) := by decide +kernel
theorem dX0_heightSum_26 : decode cX0_heightSum 26 = .ok (.ireturn, 1) := by decide +kernel
theorem dX0_relief_0 : decode cX0_relief 0 = .ok (.aload_n 0, 1) := by decide +kernel
theorem dX0_relief_1 : decode cX0_relief 1 = .ok (.getfield 9, 3) := by decide +kernel
theorem dX0_relief_4 : decode cX0_relief 4 = .ok (.iconst 0, 1) := by decide +kernel
theorem dX0_relief_5 : decode cX0_relief 5 = .ok (.iaload, 1) := by decide +kernel
theorem dX0_relief_6 : decode cX0_relief 6 = .ok (.istore_n 1, 1) := by decide +kernel
theorem dX0_relief_7 : decode cX0_relief 7 = .ok (.aload_n 0, 1) := by decide +kernel
theorem dX0_relief_8 : decode cX0_relief 8 = .ok (.getfield 9, 3) := by decide +kernel
theorem dX0_relief_11 : decode cX0_relief 11 = .ok (.iconst 0, 1) := by decide +kernel
theorem dX0_relief_12 : decode cX0_relief 12 = .ok (.iaload, 1) := by decide +kernel
theorem dX0_relief_13 : decode cX0_relief 13 = .ok (.istore_n 2, 1) := by decide +kernel
theorem dX0_relief_14 : decode cX0_relief 14 = .ok (.iconst 1, 1) := by decide +kernel
theorem dX0_relief_15 : decode cX0_relief 15 = .ok (.istore_n 3, 1) := by decide +kernel
theorem dX0_relief_16 : decode cX0_relief 16 = .ok (.iload_n 3, 1) := by decide +kernel
theorem dX0_relief_17 : decode cX0_relief 17 = .ok (.bipush 25, 2) := by decide +kernel
theorem dX0_relief_19 : decode cX0_relief 19 = .ok (.if_icmp .ge 31, 3) := by decide +kernel
theorem dX0_relief_22 : decode cX0_relief 22 = .ok (.iload_n 1, 1) := by decide +kernel
theorem dX0_relief_23 : decode cX0_relief 23 = .ok (.aload_n 0, 1) := by decide +kernel
theorem dX0_relief_24 : decode cX0_relief 24 = .ok (.getfield 9, 3) := by decide +kernel
theorem dX0_relief_27 : decode cX0_relief 27 = .ok (.iload_n 3, 1) := by decide +kernel
theorem dX0_relief_28 : decode cX0_relief 28 = .ok (.iaload, 1) := by decide +kernel
theorem dX0_relief_29 : decode cX0_relief 29 = .ok (.invokestatic 99, 3) := by decide +kernel
theorem dX0_relief_32 : decode cX0_relief 32 = .ok (.istore_n 1, 1) := by decide +kernel
theorem dX0_relief_33 : decode cX0_relief 33 = .ok (.iload_n 2, 1) := by decide +kernel
theorem dX0_relief_34 : decode cX0_relief 34 = .ok (.aload_n 0, 1) := by decide +kernel
theorem dX0_relief_35 : decode cX0_relief 35 = .ok (.getfield 9, 3) := by decide +kernel
theorem dX0_relief_38 : decode cX0_relief 38 = .ok (.iload_n 3, 1) := by decide +kernel
theorem dX0_relief_39 : decode cX0_relief 39 = .ok (.iaload, 1) := by decide +kernel
theorem dX0_relief_40 : decode cX0_relief 40 = .ok (.invokestatic 107, 3) := by decide +kernel
theorem dX0_relief_43 : decode cX0_relief 43 = .ok (.istore_n 2, 1) := by decide +kernel
theorem dX0_relief_44 : decode cX0_relief 44 = .ok (.iinc 3 1, 3) := by decide +kernel
theorem dX0_relief_47 : decode cX0_relief 47 = .ok (.goto (-31), 3) := by decide +kernel
theorem dX0_relief_50 : decode cX0_relief 50 = .ok (.iload_n 1, 1) := by decide +kernel
theorem dX0_relief_51 : decode cX0_relief 51 = .ok (.iload_n 2, 1) := by decide +kernel
theorem dX0_relief_52 : decode cX0_relief 52 = .ok (.isub, 1) := by decide +kernel
theorem dX0_relief_53 : decode cX0_relief 53 = .ok (.ireturn, 1) := by decide +kernel
theorem dX0_liesAs_0 : decode cX0_liesAs 0 = .ok (.iconst 0, 1) := by decide +kernel
theorem dX0_liesAs_1 : decode cX0_liesAs 1 = .ok (.istore_n 2, 1) := by decide +kernel
theorem dX0_liesAs_2 : decode cX0_liesAs 2 = .ok (.iload_n 2, 1) := by decide +kernel
theorem dX0_liesAs_3 : decode cX0_liesAs 3 = .ok (.bipush 25, 2) := by decide +kernel
theorem dX0_liesAs_5 : decode cX0_liesAs 5 = .ok (.if_icmp .ge 23, 3) := by decide +kernel
theorem dX0_liesAs_8 : decode cX0_liesAs 8 = .ok (.aload_n 0, 1) := by decide +kernel
theorem dX0_liesAs_9 : decode cX0_liesAs 9 = .ok (.getfield 9, 3) := by decide +kernel
theorem dX0_liesAs_12 : decode cX0_liesAs 12 = .ok (.iload_n 2, 1) := by decide +kernel
theorem dX0_liesAs_13 : decode cX0_liesAs 13 = .ok (.iaload, 1) := by decide +kernel
theorem dX0_liesAs_14 : decode cX0_liesAs 14 = .ok (.aload_n 1, 1) := by decide +kernel
theorem dX0_liesAs_15 : decode cX0_liesAs 15 = .ok (.iload_n 2, 1) := by decide +kernel
theorem dX0_liesAs_16 : decode cX0_liesAs 16 = .ok (.iaload, 1) := by decide +kernel
theorem dX0_liesAs_17 : decode cX0_liesAs 17 = .ok (.if_icmp .eq 5, 3) := by decide +kernel
theorem dX0_liesAs_20 : decode cX0_liesAs 20 = .ok (.iconst 0, 1) := by decide +kernel
theorem dX0_liesAs_21 : decode cX0_liesAs 21 = .ok (.ireturn, 1) := by decide +kernel
theorem dX0_liesAs_22 : decode cX0_liesAs 22 = .ok (.iinc 2 1, 3) := by decide +kernel
theorem dX0_liesAs_25 : decode cX0_liesAs 25 = .ok (.goto (-23), 3) := by decide +kernel
theorem dX0_liesAs_28 : decode cX0_liesAs 28 = .ok (.iconst 1, 1) := by decide +kernel
theorem dX0_liesAs_29 : decode cX0_liesAs 29 = .ok (.ireturn, 1) := by decide +kernel
theorem dX0_pitchedSet_0 : decode cX0_pitchedSet 0 = .ok (.iconst 0, 1) := by decide +kernel
theorem dX0_pitchedSet_1 : decode cX0_pitchedSet 1 = .ok (.istore_n 1, 1) := by decide +kernel
theorem dX0_pitchedSet_2 : decode cX0_pitchedSet 2 = .ok (.iconst 0, 1) := by decide +kernel
theorem dX0_pitchedSet_3 : decode cX0_pitchedSet 3 = .ok (.istore_n 2, 1) := by decide +kernel
theorem dX0_pitchedSet_4 : decode cX0_pitchedSet 4 = .ok (.iload_n 2, 1) := by decide +kernel
theorem dX0_pitchedSet_5 : decode cX0_pitchedSet 5 = .ok (.aload_n 0, 1) := by decide +kernel
theorem dX0_pitchedSet_6 : decode cX0_pitchedSet 6 = .ok (.getfield 24, 3) := by decide +kernel
theorem dX0_pitchedSet_9 : decode cX0_pitchedSet 9 = .ok (.if_icmp .ge 27, 3) := by decide +kernel
theorem dX0_pitchedSet_12 : decode cX0_pitchedSet 12 = .ok (.aload_n 0, 1) := by decide +kernel
theorem dX0_pitchedSet_13 : decode cX0_pitchedSet 13 = .ok (.getfield 20, 3) := by decide +kernel
theorem dX0_pitchedSet_16 : decode cX0_pitchedSet 16 = .ok (.iload_n 2, 1) := by decide +kernel
theorem dX0_pitchedSet_17 : decode cX0_pitchedSet 17 = .ok (.aaload, 1) := by decide +kernel
theorem dX0_pitchedSet_18 : decode cX0_pitchedSet 18 = .ok (.invokevirtual 65, 3) := by decide +kernel
theorem dX0_pitchedSet_21 : decode cX0_pitchedSet 21 = .ok (.ifCond .eq 9, 3) := by decide +kernel
theorem dX0_pitchedSet_24 : decode cX0_pitchedSet 24 = .ok (.iload_n 1, 1) := by decide +kernel
theorem dX0_pitchedSet_25 : decode cX0_pitchedSet 25 = .ok (.iconst 1, 1) := by decide +kernel
theorem dX0_pitchedSet_26 : decode cX0_pitchedSet 26 = .ok (.iload_n 2, 1) := by decide +kernel
theorem dX0_pitchedSet_27 : decode cX0_pitchedSet 27 = .ok (.ishl, 1) := by decide +kernel
theorem dX0_pitchedSet_28 : decode cX0_pitchedSet 28 = .ok (.ior, 1) := by decide +kernel
theorem dX0_pitchedSet_29 : decode cX0_pitchedSet 29 = .ok (.istore_n 1, 1) := by decide +kernel
theorem dX0_pitchedSet_30 : decode cX0_pitchedSet 30 = .ok (.iinc 2 1, 3) := by decide +kernel
theorem dX0_pitchedSet_33 : decode cX0_pitchedSet 33 = .ok (.goto (-29), 3) := by decide +kernel
theorem dX0_pitchedSet_36 : decode cX0_pitchedSet 36 = .ok (.iload_n 1, 1) := by decide +kernel
theorem dX0_pitchedSet_37 : decode cX0_pitchedSet 37 = .ok (.ireturn, 1) := by decide +kernel
theorem dX0_wornSum_0 : decode cX0_wornSum 0 = .ok (.iconst 0, 1) := by decide +kernel
theorem dX0_wornSum_1 : decode cX0_wornSum 1 = .ok (.istore_n 1, 1) := by decide +kernel
theorem dX0_wornSum_2 : decode cX0_wornSum 2 = .ok (.iconst 0, 1) := by decide +kernel
theorem dX0_wornSum_3 : decode cX0_wornSum 3 = .ok (.istore_n 2, 1) := by decide +kernel
theorem dX0_wornSum_4 : decode cX0_wornSum 4 = .ok (.iload_n 2, 1) := by decide +kernel
theorem dX0_wornSum_5 : decode cX0_wornSum 5 = .ok (.aload_n 0, 1) := by decide +kernel
theorem dX0_wornSum_6 : decode cX0_wornSum 6 = .ok (.getfield 24, 3) := by decide +kernel
theorem dX0_wornSum_9 : decode cX0_wornSum 9 = .ok (.if_icmp .ge 21, 3) := by decide +kernel
theorem dX0_wornSum_12 : decode cX0_wornSum 12 = .ok (.iload_n 1, 1) := by decide +kernel
theorem dX0_wornSum_13 : decode cX0_wornSum 13 = .ok (.aload_n 0, 1) := by decide +kernel
theorem dX0_wornSum_14 : decode cX0_wornSum 14 = .ok (.getfield 20, 3) := by decide +kernel
theorem dX0_wornSum_17 : decode cX0_wornSum 17 = .ok (.iload_n 2, 1) := by decide +kernel
theorem dX0_wornSum_18 : decode cX0_wornSum 18 = .ok (.aaload, 1) := by decide +kernel
theorem dX0_wornSum_19 : decode cX0_wornSum 19 = .ok (.getfield 110, 3) := by decide +kernel
theorem dX0_wornSum_22 : decode cX0_wornSum 22 = .ok (.iadd, 1) := by decide +kernel
theorem dX0_wornSum_23 : decode cX0_wornSum 23 = .ok (.istore_n 1, 1) := by decide +kernel
theorem dX0_wornSum_24 : decode cX0_wornSum 24 = .ok (.iinc 2 1, 3) := by decide +kernel
theorem dX0_wornSum_27 : decode cX0_wornSum 27 = .ok (.goto (-23), 3) := by decide +kernel
theorem dX0_wornSum_30 : decode cX0_wornSum 30 = .ok (.iload_n 1, 1) := by decide +kernel
theorem dX0_wornSum_31 : decode cX0_wornSum 31 = .ok (.ireturn, 1) := by decide +kernel
theorem dX0_spotsHeld_0 : decode cX0_spotsHeld 0 = .ok (.iconst 0, 1) := by decide +kernel
theorem dX0_spotsHeld_1 : decode cX0_spotsHeld 1 = .ok (.istore_n 1, 1) := by decide +kernel
theorem dX0_spotsHeld_2 : decode cX0_spotsHeld 2 = .ok (.iconst 0, 1) := by decide +kernel
theorem dX0_spotsHeld_3 : decode cX0_spotsHeld 3 = .ok (.istore_n 2, 1) := by decide +kernel
theorem dX0_spotsHeld_4 : decode cX0_spotsHeld 4 = .ok (.iload_n 2, 1) := by decide +kernel
theorem dX0_spotsHeld_5 : decode cX0_spotsHeld 5 = .ok (.bipush 10, 2) := by decide +kernel
theorem dX0_spotsHeld_7 : decode cX0_spotsHeld 7 = .ok (.if_icmp .ge 22, 3) := by decide +kernel
theorem dX0_spotsHeld_10 : decode cX0_spotsHeld 10 = .ok (.aload_n 0, 1) := by decide +kernel
theorem dX0_spotsHeld_11 : decode cX0_spotsHeld 11 = .ok (.getfield 15, 3) := by decide +kernel
theorem dX0_spotsHeld_14 : decode cX0_spotsHeld 14 = .ok (.iload_n 2, 1) := by decide +kernel
theorem dX0_spotsHeld_15 : decode cX0_spotsHeld 15 = .ok (.iaload, 1) := by decide +kernel
theorem dX0_spotsHeld_16 : decode cX0_spotsHeld 16 = .ok (.iconst (-1), 1) := by decide +kernel
theorem dX0_spotsHeld_17 : decode cX0_spotsHeld 17 = .ok (.if_icmp .eq 6, 3) := by decide +kernel
theorem dX0_spotsHeld_20 : decode cX0_spotsHeld 20 = .ok (.iinc 1 1, 3) := by decide +kernel
theorem dX0_spotsHeld_23 : decode cX0_spotsHeld 23 = .ok (.iinc 2 1, 3) := by decide +kernel
theorem dX0_spotsHeld_26 : decode cX0_spotsHeld 26 = .ok (.goto (-22), 3) := by decide +kernel
theorem dX0_spotsHeld_29 : decode cX0_spotsHeld 29 = .ok (.iload_n 1, 1) := by decide +kernel
theorem dX0_spotsHeld_30 : decode cX0_spotsHeld 30 = .ok (.ireturn, 1) := by decide +kernel
theorem dX0_gap_0 : decode cX0_gap 0 = .ok (.aload_n 1, 1) := by decide +kernel
theorem dX0_gap_1 : decode cX0_gap 1 = .ok (.getfield 80, 3) := by decide +kernel
theorem dX0_gap_4 : decode cX0_gap 4 = .ok (.iload_n 2, 1) := by decide +kernel
theorem dX0_gap_5 : decode cX0_gap 5 = .ok (.iaload, 1) := by decide +kernel
theorem dX0_gap_6 : decode cX0_gap 6 = .ok (.iconst (-1), 1) := by decide +kernel
theorem dX0_gap_7 : decode cX0_gap 7 = .ok (.if_icmp .ne 5, 3) := by decide +kernel
theorem dX0_gap_10 : decode cX0_gap 10 = .ok (.iconst 0, 1) := by decide +kernel
theorem dX0_gap_11 : decode cX0_gap 11 = .ok (.ireturn, 1) := by decide +kernel
theorem dX0_gap_12 : decode cX0_gap 12 = .ok (.aload_n 1, 1) := by decide +kernel
theorem dX0_gap_13 : decode cX0_gap 13 = .ok (.getfield 80, 3) := by decide +kernel
theorem dX0_gap_16 : decode cX0_gap 16 = .ok (.iload_n 2, 1) := by decide +kernel
theorem dX0_gap_17 : decode cX0_gap 17 = .ok (.iaload, 1) := by decide +kernel
theorem dX0_gap_18 : decode cX0_gap 18 = .ok (.aload_n 0, 1) := by decide +kernel
theorem dX0_gap_19 : decode cX0_gap 19 = .ok (.getfield 9, 3) := by decide +kernel
theorem dX0_gap_22 : decode cX0_gap 22 = .ok (.iload_n 3, 1) := by decide +kernel
theorem dX0_gap_23 : decode cX0_gap 23 = .ok (.iload_n 2, 1) := by decide +kernel
theorem dX0_gap_24 : decode cX0_gap 24 = .ok (.invokestatic 76, 3) := by decide +kernel
theorem dX0_gap_27 : decode cX0_gap 27 = .ok (.iaload, 1) := by decide +kernel
theorem dX0_gap_28 : decode cX0_gap 28 = .ok (.isub, 1) := by decide +kernel
theorem dX0_gap_29 : decode cX0_gap 29 = .ok (.invokestatic 104, 3) := by decide +kernel
theorem dX0_gap_32 : decode cX0_gap 32 = .ok (.ireturn, 1) := by decide +kernel
theorem dX0_unlikeness_0 : decode cX0_unlikeness 0 = .ok (.iconst 0, 1) := by decide +kernel
theorem dX0_unlikeness_1 : decode cX0_unlikeness 1 = .ok (.istore_n 3, 1) := by decide +kernel
theorem dX0_unlikeness_2 : decode cX0_unlikeness 2 = .ok (.iconst 0, 1) := by decide +kernel
theorem dX0_unlikeness_3 : decode cX0_unlikeness 3 = .ok (.istore 4, 2) := by decide +kernel
theorem dX0_unlikeness_5 : decode cX0_unlikeness 5 = .ok (.iload 4, 2) := by decide +kernel
theorem dX0_unlikeness_7 : decode cX0_unlikeness 7 = .ok (.iconst 4, 1) := by decide +kernel
theorem dX0_unlikeness_8 : decode cX0_unlikeness 8 = .ok (.if_icmp .ge 20, 3) := by decide +kernel
theorem dX0_unlikeness_11 : decode cX0_unlikeness 11 = .ok (.iload_n 3, 1) := by decide +kernel
end
section
theorem dX0_unlikeness_12 : decode cX0_unlikeness 12 = .ok (.aload_n 0, 1) := by decide +kernel
theorem dX0_unlikeness_13 : decode cX0_unlikeness 13 = .ok (.aload_n 1, 1) := by decide +kernel
theorem dX0_unlikeness_14 : decode cX0_unlikeness 14 = .ok (.iload 4, 2) := by decide +kernel
theorem dX0_unlikeness_16 : decode cX0_unlikeness 16 = .ok (.iload_n 2, 1) := by decide +kernel
theorem dX0_unlikeness_17 : decode cX0_unlikeness 17 = .ok (.invokevirtual 113, 3) := by decide +kernel
theorem dX0_unlikeness_20 : decode cX0_unlikeness 20 = .ok (.iadd, 1) := by decide +kernel
theorem dX0_unlikeness_21 : decode cX0_unlikeness 21 = .ok (.istore_n 3, 1) := by decide +kernel
theorem dX0_unlikeness_22 : decode cX0_unlikeness 22 = .ok (.iinc 4 1, 3) := by decide +kernel
theorem dX0_unlikeness_25 : decode cX0_unlikeness 25 = .ok (.goto (-20), 3) := by decide +kernel
theorem dX0_unlikeness_28 : decode cX0_unlikeness 28 = .ok (.iload_n 3, 1) := by decide +kernel
theorem dX0_unlikeness_29 : decode cX0_unlikeness 29 = .ok (.ireturn, 1) := by decide +kernel
theorem dX0_greatestGap_0 : decode cX0_greatestGap 0 = .ok (.iconst 0, 1) := by decide +kernel
theorem dX0_greatestGap_1 : decode cX0_greatestGap 1 = .ok (.istore_n 2, 1) := by decide +kernel
theorem dX0_greatestGap_2 : decode cX0_greatestGap 2 = .ok (.iconst 0, 1) := by decide +kernel
theorem dX0_greatestGap_3 : decode cX0_greatestGap 3 = .ok (.istore_n 3, 1) := by decide +kernel
theorem dX0_greatestGap_4 : decode cX0_greatestGap 4 = .ok (.iload_n 3, 1) := by decide +kernel
theorem dX0_greatestGap_5 : decode cX0_greatestGap 5 = .ok (.iconst 4, 1) := by decide +kernel
theorem dX0_greatestGap_6 : decode cX0_greatestGap 6 = .ok (.if_icmp .ge 24, 3) := by decide +kernel
theorem dX0_greatestGap_9 : decode cX0_greatestGap 9 = .ok (.iload_n 2, 1) := by decide +kernel
theorem dX0_greatestGap_10 : decode cX0_greatestGap 10 = .ok (.aload_n 0, 1) := by decide +kernel
theorem dX0_greatestGap_11 : decode cX0_greatestGap 11 = .ok (.aload_n 1, 1) := by decide +kernel
theorem dX0_greatestGap_12 : decode cX0_greatestGap 12 = .ok (.iload_n 3, 1) := by decide +kernel
theorem dX0_greatestGap_13 : decode cX0_greatestGap 13 = .ok (.aload_n 1, 1) := by decide +kernel
theorem dX0_greatestGap_14 : decode cX0_greatestGap 14 = .ok (.getfield 58, 3) := by decide +kernel
theorem dX0_greatestGap_17 : decode cX0_greatestGap 17 = .ok (.invokevirtual 113, 3) := by decide +kernel
theorem dX0_greatestGap_20 : decode cX0_greatestGap 20 = .ok (.invokestatic 99, 3) := by decide +kernel
theorem dX0_greatestGap_23 : decode cX0_greatestGap 23 = .ok (.istore_n 2, 1) := by decide +kernel
theorem dX0_greatestGap_24 : decode cX0_greatestGap 24 = .ok (.iinc 3 1, 3) := by decide +kernel
theorem dX0_greatestGap_27 : decode cX0_greatestGap 27 = .ok (.goto (-23), 3) := by decide +kernel
theorem dX0_greatestGap_30 : decode cX0_greatestGap 30 = .ok (.iload_n 2, 1) := by decide +kernel
theorem dX0_greatestGap_31 : decode cX0_greatestGap 31 = .ok (.ireturn, 1) := by decide +kernel
theorem dX1_init_0 : decode cX1_init 0 = .ok (.aload_n 0, 1) := by decide +kernel
theorem dX1_init_1 : decode cX1_init 1 = .ok (.invokespecial 3, 3) := by decide +kernel
theorem dX1_init_4 : decode cX1_init 4 = .ok (.aload_n 0, 1) := by decide +kernel
theorem dX1_init_5 : decode cX1_init 5 = .ok (.bipush 25, 2) := by decide +kernel
theorem dX1_init_7 : decode cX1_init 7 = .ok (.newarray .int, 2) := by decide +kernel
theorem dX1_init_9 : decode cX1_init 9 = .ok (.putfield 9, 3) := by decide +kernel
theorem dX1_init_12 : decode cX1_init 12 = .ok (.aload_n 0, 1) := by decide +kernel
theorem dX1_init_13 : decode cX1_init 13 = .ok (.bipush 25, 2) := by decide +kernel
theorem dX1_init_15 : decode cX1_init 15 = .ok (.newarray .int, 2) := by decide +kernel
theorem dX1_init_17 : decode cX1_init 17 = .ok (.putfield 15, 3) := by decide +kernel
theorem dX1_init_20 : decode cX1_init 20 = .ok (.aload_n 0, 1) := by decide +kernel
theorem dX1_init_21 : decode cX1_init 21 = .ok (.bipush 25, 2) := by decide +kernel
theorem dX1_init_23 : decode cX1_init 23 = .ok (.newarray .int, 2) := by decide +kernel
theorem dX1_init_25 : decode cX1_init 25 = .ok (.putfield 18, 3) := by decide +kernel
theorem dX1_init_28 : decode cX1_init 28 = .ok (.aload_n 0, 1) := by decide +kernel
theorem dX1_init_29 : decode cX1_init 29 = .ok (.iconst 0, 1) := by decide +kernel
theorem dX1_init_30 : decode cX1_init 30 = .ok (.putfield 21, 3) := by decide +kernel
theorem dX1_init_33 : decode cX1_init 33 = .ok (.return_, 1) := by decide +kernel
theorem dX1_stepsBetween_0 : decode cX1_stepsBetween 0 = .ok (.aload_n 0, 1) := by decide +kernel
theorem dX1_stepsBetween_1 : decode cX1_stepsBetween 1 = .ok (.aload_n 1, 1) := by decide +kernel
theorem dX1_stepsBetween_2 : decode cX1_stepsBetween 2 = .ok (.iload_n 2, 1) := by decide +kernel
theorem dX1_stepsBetween_3 : decode cX1_stepsBetween 3 = .ok (.iload 4, 2) := by decide +kernel
theorem dX1_stepsBetween_5 : decode cX1_stepsBetween 5 = .ok (.invokevirtual 25, 3) := by decide +kernel
theorem dX1_stepsBetween_8 : decode cX1_stepsBetween 8 = .ok (.aload_n 0, 1) := by decide +kernel
theorem dX1_stepsBetween_9 : decode cX1_stepsBetween 9 = .ok (.getfield 9, 3) := by decide +kernel
theorem dX1_stepsBetween_12 : decode cX1_stepsBetween 12 = .ok (.iload_n 3, 1) := by decide +kernel
theorem dX1_stepsBetween_13 : decode cX1_stepsBetween 13 = .ok (.iaload, 1) := by decide +kernel
theorem dX1_stepsBetween_14 : decode cX1_stepsBetween 14 = .ok (.ireturn, 1) := by decide +kernel
theorem dX1_roam_0 : decode cX1_roam 0 = .ok (.aload_n 0, 1) := by decide +kernel
theorem dX1_roam_1 : decode cX1_roam 1 = .ok (.getfield 9, 3) := by decide +kernel
theorem dX1_roam_4 : decode cX1_roam 4 = .ok (.iconst (-1), 1) := by decide +kernel
theorem dX1_roam_5 : decode cX1_roam 5 = .ok (.invokestatic 29, 3) := by decide +kernel
theorem dX1_roam_8 : decode cX1_roam 8 = .ok (.aload_n 0, 1) := by decide +kernel
theorem dX1_roam_9 : decode cX1_roam 9 = .ok (.getfield 9, 3) := by decide +kernel
theorem dX1_roam_12 : decode cX1_roam 12 = .ok (.iload_n 2, 1) := by decide +kernel
theorem dX1_roam_13 : decode cX1_roam 13 = .ok (.iconst 0, 1) := by decide +kernel
theorem dX1_roam_14 : decode cX1_roam 14 = .ok (.iastore, 1) := by decide +kernel
theorem dX1_roam_15 : decode cX1_roam 15 = .ok (.aload_n 0, 1) := by decide +kernel
theorem dX1_roam_16 : decode cX1_roam 16 = .ok (.getfield 15, 3) := by decide +kernel
theorem dX1_roam_19 : decode cX1_roam 19 = .ok (.iconst 0, 1) := by decide +kernel
theorem dX1_roam_20 : decode cX1_roam 20 = .ok (.iload_n 2, 1) := by decide +kernel
theorem dX1_roam_21 : decode cX1_roam 21 = .ok (.iastore, 1) := by decide +kernel
theorem dX1_roam_22 : decode cX1_roam 22 = .ok (.iconst 1, 1) := by decide +kernel
theorem dX1_roam_23 : decode cX1_roam 23 = .ok (.istore 4, 2) := by decide +kernel
theorem dX1_roam_25 : decode cX1_roam 25 = .ok (.iconst 0, 1) := by decide +kernel
theorem dX1_roam_26 : decode cX1_roam 26 = .ok (.istore 5, 2) := by decide +kernel
theorem dX1_roam_28 : decode cX1_roam 28 = .ok (.iload 5, 2) := by decide +kernel
theorem dX1_roam_30 : decode cX1_roam 30 = .ok (.iload 4, 2) := by decide +kernel
theorem dX1_roam_32 : decode cX1_roam 32 = .ok (.if_icmp .ge 113, 3) := by decide +kernel
theorem dX1_roam_35 : decode cX1_roam 35 = .ok (.iload 5, 2) := by decide +kernel
theorem dX1_roam_37 : decode cX1_roam 37 = .ok (.bipush 25, 2) := by decide +kernel
theorem dX1_roam_39 : decode cX1_roam 39 = .ok (.if_icmp .ge 106, 3) := by decide +kernel
theorem dX1_roam_42 : decode cX1_roam 42 = .ok (.aload_n 0, 1) := by decide +kernel
theorem dX1_roam_43 : decode cX1_roam 43 = .ok (.getfield 15, 3) := by decide +kernel
theorem dX1_roam_46 : decode cX1_roam 46 = .ok (.iload 5, 2) := by decide +kernel
theorem dX1_roam_48 : decode cX1_roam 48 = .ok (.iaload, 1) := by decide +kernel
theorem dX1_roam_49 : decode cX1_roam 49 = .ok (.istore 6, 2) := by decide +kernel
theorem dX1_roam_51 : decode cX1_roam 51 = .ok (.iconst 0, 1) := by decide +kernel
theorem dX1_roam_52 : decode cX1_roam 52 = .ok (.istore 7, 2) := by decide +kernel
theorem dX1_roam_54 : decode cX1_roam 54 = .ok (.iload 7, 2) := by decide +kernel
theorem dX1_roam_56 : decode cX1_roam 56 = .ok (.iconst 4, 1) := by decide +kernel
theorem dX1_roam_57 : decode cX1_roam 57 = .ok (.if_icmp .ge 82, 3) := by decide +kernel
theorem dX1_roam_60 : decode cX1_roam 60 = .ok (.iload 6, 2) := by decide +kernel
theorem dX1_roam_62 : decode cX1_roam 62 = .ok (.iload 7, 2) := by decide +kernel
theorem dX1_roam_64 : decode cX1_roam 64 = .ok (.invokestatic 35, 3) := by decide +kernel
theorem dX1_roam_67 : decode cX1_roam 67 = .ok (.istore 8, 2) := by decide +kernel
theorem dX1_roam_69 : decode cX1_roam 69 = .ok (.iload 8, 2) := by decide +kernel
theorem dX1_roam_71 : decode cX1_roam 71 = .ok (.iconst (-1), 1) := by decide +kernel
theorem dX1_roam_72 : decode cX1_roam 72 = .ok (.if_icmp .eq 61, 3) := by decide +kernel
theorem dX1_roam_75 : decode cX1_roam 75 = .ok (.aload_n 0, 1) := by decide +kernel
theorem dX1_roam_76 : decode cX1_roam 76 = .ok (.getfield 9, 3) := by decide +kernel
theorem dX1_roam_79 : decode cX1_roam 79 = .ok (.iload 8, 2) := by decide +kernel
theorem dX1_roam_81 : decode cX1_roam 81 = .ok (.iaload, 1) := by decide +kernel
theorem dX1_roam_82 : decode cX1_roam 82 = .ok (.iconst (-1), 1) := by decide +kernel
theorem dX1_roam_83 : decode cX1_roam 83 = .ok (.if_icmp .ne 50, 3) := by decide +kernel
theorem dX1_roam_86 : decode cX1_roam 86 = .ok (.iload 4, 2) := by decide +kernel
theorem dX1_roam_88 : decode cX1_roam 88 = .ok (.bipush 25, 2) := by decide +kernel
theorem dX1_roam_90 : decode cX1_roam 90 = .ok (.if_icmp .ge 43, 3) := by decide +kernel
theorem dX1_roam_93 : decode cX1_roam 93 = .ok (.aload_n 1, 1) := by decide +kernel
theorem dX1_roam_94 : decode cX1_roam 94 = .ok (.iload 6, 2) := by decide +kernel
theorem dX1_roam_96 : decode cX1_roam 96 = .ok (.iload 8, 2) := by decide +kernel
theorem dX1_roam_98 : decode cX1_roam 98 = .ok (.invokevirtual 39, 3) := by decide +kernel
theorem dX1_roam_101 : decode cX1_roam 101 = .ok (.iload_n 3, 1) := by decide +kernel
theorem dX1_roam_102 : decode cX1_roam 102 = .ok (.if_icmp .gt 31, 3) := by decide +kernel
theorem dX1_roam_105 : decode cX1_roam 105 = .ok (.aload_n 0, 1) := by decide +kernel
theorem dX1_roam_106 : decode cX1_roam 106 = .ok (.getfield 9, 3) := by decide +kernel
theorem dX1_roam_109 : decode cX1_roam 109 = .ok (.iload 8, 2) := by decide +kernel
theorem dX1_roam_111 : decode cX1_roam 111 = .ok (.aload_n 0, 1) := by decide +kernel
theorem dX1_roam_112 : decode cX1_roam 112 = .ok (.getfield 9, 3) := by decide +kernel
theorem dX1_roam_115 : decode cX1_roam 115 = .ok (.iload 6, 2) := by decide +kernel
theorem dX1_roam_117 : decode cX1_roam 117 = .ok (.iaload, 1) := by decide +kernel
theorem dX1_roam_118 : decode cX1_roam 118 = .ok (.iconst 1, 1) := by decide +kernel
theorem dX1_roam_119 : decode cX1_roam 119 = .ok (.iadd, 1) := by decide +kernel
theorem dX1_roam_120 : decode cX1_roam 120 = .ok (.iastore, 1) := by decide +kernel
theorem dX1_roam_121 : decode cX1_roam 121 = .ok (.aload_n 0, 1) := by decide +kernel
theorem dX1_roam_122 : decode cX1_roam 122 = .ok (.getfield 15, 3) := by decide +kernel
theorem dX1_roam_125 : decode cX1_roam 125 = .ok (.iload 4, 2) := by decide +kernel
theorem dX1_roam_127 : decode cX1_roam 127 = .ok (.iload 8, 2) := by decide +kernel
theorem dX1_roam_129 : decode cX1_roam 129 = .ok (.iastore, 1) := by decide +kernel
theorem dX1_roam_130 : decode cX1_roam 130 = .ok (.iinc 4 1, 3) := by decide +kernel
theorem dX1_roam_133 : decode cX1_roam 133 = .ok (.iinc 7 1, 3) := by decide +kernel
theorem dX1_roam_136 : decode cX1_roam 136 = .ok (.goto (-82), 3) := by decide +kernel
theorem dX1_roam_139 : decode cX1_roam 139 = .ok (.iinc 5 1, 3) := by decide +kernel
theorem dX1_roam_142 : decode cX1_roam 142 = .ok (.goto (-114), 3) := by decide +kernel
theorem dX1_roam_145 : decode cX1_roam 145 = .ok (.return_, 1) := by decide +kernel
theorem dX1_reachedSet_0 : decode cX1_reachedSet 0 = .ok (.iconst 0, 1) := by decide +kernel
theorem dX1_reachedSet_1 : decode cX1_reachedSet 1 = .ok (.istore_n 1, 1) := by decide +kernel
theorem dX1_reachedSet_2 : decode cX1_reachedSet 2 = .ok (.iconst 0, 1) := by decide +kernel
theorem dX1_reachedSet_3 : decode cX1_reachedSet 3 = .ok (.istore_n 2, 1) := by decide +kernel
theorem dX1_reachedSet_4 : decode cX1_reachedSet 4 = .ok (.iload_n 2, 1) := by decide +kernel
theorem dX1_reachedSet_5 : decode cX1_reachedSet 5 = .ok (.bipush 25, 2) := by decide +kernel
theorem dX1_reachedSet_7 : decode cX1_reachedSet 7 = .ok (.if_icmp .ge 25, 3) := by decide +kernel
theorem dX1_reachedSet_10 : decode cX1_reachedSet 10 = .ok (.aload_n 0, 1) := by decide +kernel
theorem dX1_reachedSet_11 : decode cX1_reachedSet 11 = .ok (.getfield 9, 3) := by decide +kernel
theorem dX1_reachedSet_14 : decode cX1_reachedSet 14 = .ok (.iload_n 2, 1) := by decide +kernel
theorem dX1_reachedSet_15 : decode cX1_reachedSet 15 = .ok (.iaload, 1) := by decide +kernel
theorem dX1_reachedSet_16 : decode cX1_reachedSet 16 = .ok (.iconst (-1), 1) := by decide +kernel
theorem dX1_reachedSet_17 : decode cX1_reachedSet 17 = .ok (.if_icmp .eq 9, 3) := by decide +kernel
theorem dX1_reachedSet_20 : decode cX1_reachedSet 20 = .ok (.iload_n 1, 1) := by decide +kernel
theorem dX1_reachedSet_21 : decode cX1_reachedSet 21 = .ok (.iconst 1, 1) := by decide +kernel
theorem dX1_reachedSet_22 : decode cX1_reachedSet 22 = .ok (.iload_n 2, 1) := by decide +kernel
theorem dX1_reachedSet_23 : decode cX1_reachedSet 23 = .ok (.ishl, 1) := by decide +kernel
theorem dX1_reachedSet_24 : decode cX1_reachedSet 24 = .ok (.ior, 1) := by decide +kernel
theorem dX1_reachedSet_25 : decode cX1_reachedSet 25 = .ok (.istore_n 1, 1) := by decide +kernel
theorem dX1_reachedSet_26 : decode cX1_reachedSet 26 = .ok (.iinc 2 1, 3) := by decide +kernel
theorem dX1_reachedSet_29 : decode cX1_reachedSet 29 = .ok (.goto (-25), 3) := by decide +kernel
theorem dX1_reachedSet_32 : decode cX1_reachedSet 32 = .ok (.iload_n 1, 1) := by decide +kernel
theorem dX1_reachedSet_33 : decode cX1_reachedSet 33 = .ok (.ireturn, 1) := by decide +kernel
theorem dX1_nearestOf_0 : decode cX1_nearestOf 0 = .ok (.iconst (-1), 1) := by decide +kernel
theorem dX1_nearestOf_1 : decode cX1_nearestOf 1 = .ok (.istore_n 2, 1) := by decide +kernel
theorem dX1_nearestOf_2 : decode cX1_nearestOf 2 = .ok (.iconst 0, 1) := by decide +kernel
theorem dX1_nearestOf_3 : decode cX1_nearestOf 3 = .ok (.istore_n 3, 1) := by decide +kernel
theorem dX1_nearestOf_4 : decode cX1_nearestOf 4 = .ok (.iload_n 3, 1) := by decide +kernel
theorem dX1_nearestOf_5 : decode cX1_nearestOf 5 = .ok (.bipush 25, 2) := by decide +kernel
theorem dX1_nearestOf_7 : decode cX1_nearestOf 7 = .ok (.if_icmp .ge 62, 3) := by decide +kernel
theorem dX1_nearestOf_10 : decode cX1_nearestOf 10 = .ok (.iload_n 1, 1) := by decide +kernel
theorem dX1_nearestOf_11 : decode cX1_nearestOf 11 = .ok (.iload_n 3, 1) := by decide +kernel
theorem dX1_nearestOf_12 : decode cX1_nearestOf 12 = .ok (.iushr, 1) := by decide +kernel
theorem dX1_nearestOf_13 : decode cX1_nearestOf 13 = .ok (.iconst 1, 1) := by decide +kernel
theorem dX1_nearestOf_14 : decode cX1_nearestOf 14 = .ok (.iand, 1) := by decide +kernel
theorem dX1_nearestOf_15 : decode cX1_nearestOf 15 = .ok (.iconst 1, 1) := by decide +kernel
theorem dX1_nearestOf_16 : decode cX1_nearestOf 16 = .ok (.if_icmp .ne 17, 3) := by decide +kernel
theorem dX1_nearestOf_19 : decode cX1_nearestOf 19 = .ok (.aload_n 0, 1) := by decide +kernel
theorem dX1_nearestOf_20 : decode cX1_nearestOf 20 = .ok (.getfield 9, 3) := by decide +kernel
theorem dX1_nearestOf_23 : decode cX1_nearestOf 23 = .ok (.iload_n 3, 1) := by decide +kernel
theorem dX1_nearestOf_24 : decode cX1_nearestOf 24 = .ok (.iaload, 1) := by decide +kernel
theorem dX1_nearestOf_25 : decode cX1_nearestOf 25 = .ok (.iconst (-1), 1) := by decide +kernel
theorem dX1_nearestOf_26 : decode cX1_nearestOf 26 = .ok (.if_icmp .eq 7, 3) := by decide +kernel
theorem dX1_nearestOf_29 : decode cX1_nearestOf 29 = .ok (.iconst 1, 1) := by decide +kernel
theorem dX1_nearestOf_30 : decode cX1_nearestOf 30 = .ok (.goto 4, 3) := by decide +kernel
theorem dX1_nearestOf_33 : decode cX1_nearestOf 33 = .ok (.iconst 0, 1) := by decide +kernel
theorem dX1_nearestOf_34 : decode cX1_nearestOf 34 = .ok (.istore 4, 2) := by decide +kernel
theorem dX1_nearestOf_36 : decode cX1_nearestOf 36 = .ok (.iload 4, 2) := by decide +kernel
theorem dX1_nearestOf_38 : decode cX1_nearestOf 38 = .ok (.ifCond .eq 25, 3) := by decide +kernel
theorem dX1_nearestOf_41 : decode cX1_nearestOf 41 = .ok (.iload_n 2, 1) := by decide +kernel
theorem dX1_nearestOf_42 : decode cX1_nearestOf 42 = .ok (.iconst (-1), 1) := by decide +kernel
theorem dX1_nearestOf_43 : decode cX1_nearestOf 43 = .ok (.if_icmp .eq 18, 3) := by decide +kernel
theorem dX1_nearestOf_46 : decode cX1_nearestOf 46 = .ok (.aload_n 0, 1) := by decide +kernel
theorem dX1_nearestOf_47 : decode cX1_nearestOf 47 = .ok (.getfield 9, 3) := by decide +kernel
theorem dX1_nearestOf_50 : decode cX1_nearestOf 50 = .ok (.iload_n 3, 1) := by decide +kernel
theorem dX1_nearestOf_51 : decode cX1_nearestOf 51 = .ok (.iaload, 1) := by decide +kernel
theorem dX1_nearestOf_52 : decode cX1_nearestOf 52 = .ok (.aload_n 0, 1) := by decide +kernel
theorem dX1_nearestOf_53 : decode cX1_nearestOf 53 = .ok (.getfield 9, 3) := by decide +kernel
theorem dX1_nearestOf_56 : decode cX1_nearestOf 56 = .ok (.iload_n 2, 1) := by decide +kernel
theorem dX1_nearestOf_57 : decode cX1_nearestOf 57 = .ok (.iaload, 1) := by decide +kernel
theorem dX1_nearestOf_58 : decode cX1_nearestOf 58 = .ok (.if_icmp .ge 5, 3) := by decide +kernel
theorem dX1_nearestOf_61 : decode cX1_nearestOf 61 = .ok (.iload_n 3, 1) := by decide +kernel
theorem dX1_nearestOf_62 : decode cX1_nearestOf 62 = .ok (.istore_n 2, 1) := by decide +kernel
theorem dX1_nearestOf_63 : decode cX1_nearestOf 63 = .ok (.iinc 3 1, 3) := by decide +kernel
theorem dX1_nearestOf_66 : decode cX1_nearestOf 66 = .ok (.goto (-62), 3) := by decide +kernel
theorem dX1_nearestOf_69 : decode cX1_nearestOf 69 = .ok (.iload_n 2, 1) := by decide +kernel
theorem dX1_nearestOf_70 : decode cX1_nearestOf 70 = .ok (.ireturn, 1) := by decide +kernel
theorem dX1_leastClimb_0 : decode cX1_leastClimb 0 = .ok (.aload_n 0, 1) := by decide +kernel
theorem dX1_leastClimb_1 : decode cX1_leastClimb 1 = .ok (.getfield 18, 3) := by decide +kernel
theorem dX1_leastClimb_4 : decode cX1_leastClimb 4 = .ok (.bipush 99, 2) := by decide +kernel
theorem dX1_leastClimb_6 : decode cX1_leastClimb 6 = .ok (.invokestatic 29, 3) := by decide +kernel
theorem dX1_leastClimb_9 : decode cX1_leastClimb 9 = .ok (.aload_n 0, 1) := by decide +kernel
theorem dX1_leastClimb_10 : decode cX1_leastClimb 10 = .ok (.getfield 18, 3) := by decide +kernel
theorem dX1_leastClimb_13 : decode cX1_leastClimb 13 = .ok (.iload_n 2, 1) := by decide +kernel
theorem dX1_leastClimb_14 : decode cX1_leastClimb 14 = .ok (.iconst 0, 1) := by decide +kernel
theorem dX1_leastClimb_15 : decode cX1_leastClimb 15 = .ok (.iastore, 1) := by decide +kernel
theorem dX1_leastClimb_16 : decode cX1_leastClimb 16 = .ok (.aload_n 0, 1) := by decide +kernel
theorem dX1_leastClimb_17 : decode cX1_leastClimb 17 = .ok (.iconst 0, 1) := by decide +kernel
theorem dX1_leastClimb_18 : decode cX1_leastClimb 18 = .ok (.putfield 21, 3) := by decide +kernel
theorem dX1_leastClimb_21 : decode cX1_leastClimb 21 = .ok (.iconst 0, 1) := by decide +kernel
theorem dX1_leastClimb_22 : decode cX1_leastClimb 22 = .ok (.istore 4, 2) := by decide +kernel
theorem dX1_leastClimb_24 : decode cX1_leastClimb 24 = .ok (.iload 4, 2) := by decide +kernel
theorem dX1_leastClimb_26 : decode cX1_leastClimb 26 = .ok (.bipush 25, 2) := by decide +kernel
theorem dX1_leastClimb_28 : decode cX1_leastClimb 28 = .ok (.if_icmp .ge 114, 3) := by decide +kernel
theorem dX1_leastClimb_31 : decode cX1_leastClimb 31 = .ok (.aload_n 0, 1) := by decide +kernel
theorem dX1_leastClimb_32 : decode cX1_leastClimb 32 = .ok (.iload_n 3, 1) := by decide +kernel
theorem dX1_leastClimb_33 : decode cX1_leastClimb 33 = .ok (.invokevirtual 44, 3) := by decide +kernel
theorem dX1_leastClimb_36 : decode cX1_leastClimb 36 = .ok (.ifCond .ne 106, 3) := by decide +kernel
theorem dX1_leastClimb_39 : decode cX1_leastClimb 39 = .ok (.aload_n 0, 1) := by decide +kernel
theorem dX1_leastClimb_40 : decode cX1_leastClimb 40 = .ok (.invokevirtual 48, 3) := by decide +kernel
theorem dX1_leastClimb_43 : decode cX1_leastClimb 43 = .ok (.istore 5, 2) := by decide +kernel
theorem dX1_leastClimb_45 : decode cX1_leastClimb 45 = .ok (.aload_n 0, 1) := by decide +kernel
theorem dX1_leastClimb_46 : decode cX1_leastClimb 46 = .ok (.dup, 1) := by decide +kernel
theorem dX1_leastClimb_47 : decode cX1_leastClimb 47 = .ok (.getfield 21, 3) := by decide +kernel
theorem dX1_leastClimb_50 : decode cX1_leastClimb 50 = .ok (.iconst 1, 1) := by decide +kernel
theorem dX1_leastClimb_51 : decode cX1_leastClimb 51 = .ok (.iload 5, 2) := by decide +kernel
theorem dX1_leastClimb_53 : decode cX1_leastClimb 53 = .ok (.ishl, 1) := by decide +kernel
theorem dX1_leastClimb_54 : decode cX1_leastClimb 54 = .ok (.ior, 1) := by decide +kernel
theorem dX1_leastClimb_55 : decode cX1_leastClimb 55 = .ok (.putfield 21, 3) := by decide +kernel
theorem dX1_leastClimb_58 : decode cX1_leastClimb 58 = .ok (.iconst 0, 1) := by decide +kernel
theorem dX1_leastClimb_59 : decode cX1_leastClimb 59 = .ok (.istore 6, 2) := by decide +kernel
theorem dX1_leastClimb_61 : decode cX1_leastClimb 61 = .ok (.iload 6, 2) := by decide +kernel
theorem dX1_leastClimb_63 : decode cX1_leastClimb 63 = .ok (.iconst 4, 1) := by decide +kernel
theorem dX1_leastClimb_64 : decode cX1_leastClimb 64 = .ok (.if_icmp .ge 72, 3) := by decide +kernel
theorem dX1_leastClimb_67 : decode cX1_leastClimb 67 = .ok (.iload 5, 2) := by decide +kernel
theorem dX1_leastClimb_69 : decode cX1_leastClimb 69 = .ok (.iload 6, 2) := by decide +kernel
theorem dX1_leastClimb_71 : decode cX1_leastClimb 71 = .ok (.invokestatic 35, 3) := by decide +kernel
theorem dX1_leastClimb_74 : decode cX1_leastClimb 74 = .ok (.istore 7, 2) := by decide +kernel
theorem dX1_leastClimb_76 : decode cX1_leastClimb 76 = .ok (.iload 7, 2) := by decide +kernel
theorem dX1_leastClimb_78 : decode cX1_leastClimb 78 = .ok (.iconst (-1), 1) := by decide +kernel
theorem dX1_leastClimb_79 : decode cX1_leastClimb 79 = .ok (.if_icmp .eq 51, 3) := by decide +kernel
theorem dX1_leastClimb_82 : decode cX1_leastClimb 82 = .ok (.aload_n 0, 1) := by decide +kernel
theorem dX1_leastClimb_83 : decode cX1_leastClimb 83 = .ok (.iload 7, 2) := by decide +kernel
theorem dX1_leastClimb_85 : decode cX1_leastClimb 85 = .ok (.invokevirtual 44, 3) := by decide +kernel
theorem dX1_leastClimb_88 : decode cX1_leastClimb 88 = .ok (.ifCond .ne 42, 3) := by decide +kernel
theorem dX1_leastClimb_91 : decode cX1_leastClimb 91 = .ok (.aload_n 0, 1) := by decide +kernel
theorem dX1_leastClimb_92 : decode cX1_leastClimb 92 = .ok (.getfield 18, 3) := by decide +kernel
theorem dX1_leastClimb_95 : decode cX1_leastClimb 95 = .ok (.iload 5, 2) := by decide +kernel
theorem dX1_leastClimb_97 : decode cX1_leastClimb 97 = .ok (.iaload, 1) := by decide +kernel
theorem dX1_leastClimb_98 : decode cX1_leastClimb 98 = .ok (.aload_n 1, 1) := by decide +kernel
theorem dX1_leastClimb_99 : decode cX1_leastClimb 99 = .ok (.iload 5, 2) := by decide +kernel
theorem dX1_leastClimb_101 : decode cX1_leastClimb 101 = .ok (.iload 7, 2) := by decide +kernel
theorem dX1_leastClimb_103 : decode cX1_leastClimb 103 = .ok (.invokevirtual 39, 3) := by decide +kernel
theorem dX1_leastClimb_106 : decode cX1_leastClimb 106 = .ok (.invokestatic 52, 3) := by decide +kernel
theorem dX1_leastClimb_109 : decode cX1_leastClimb 109 = .ok (.istore 8, 2) := by decide +kernel
theorem dX1_leastClimb_111 : decode cX1_leastClimb 111 = .ok (.aload_n 0, 1) := by decide +kernel
theorem dX1_leastClimb_112 : decode cX1_leastClimb 112 = .ok (.getfield 18, 3) := by decide +kernel
theorem dX1_leastClimb_115 : decode cX1_leastClimb 115 = .ok (.iload 7, 2) := by decide +kernel
theorem dX1_leastClimb_117 : decode cX1_leastClimb 117 = .ok (.aload_n 0, 1) := by decide +kernel
theorem dX1_leastClimb_118 : decode cX1_leastClimb 118 = .ok (.getfield 18, 3) := by decide +kernel
theorem dX1_leastClimb_121 : decode cX1_leastClimb 121 = .ok (.iload 7, 2) := by decide +kernel
theorem dX1_leastClimb_123 : decode cX1_leastClimb 123 = .ok (.iaload, 1) := by decide +kernel
theorem dX1_leastClimb_124 : decode cX1_leastClimb 124 = .ok (.iload 8, 2) := by decide +kernel
theorem dX1_leastClimb_126 : decode cX1_leastClimb 126 = .ok (.invokestatic 57, 3) := by decide +kernel
theorem dX1_leastClimb_129 : decode cX1_leastClimb 129 = .ok (.iastore, 1) := by decide +kernel
theorem dX1_leastClimb_130 : decode cX1_leastClimb 130 = .ok (.iinc 6 1, 3) := by decide +kernel
theorem dX1_leastClimb_133 : decode cX1_leastClimb 133 = .ok (.goto (-72), 3) := by decide +kernel
theorem dX1_leastClimb_136 : decode cX1_leastClimb 136 = .ok (.iinc 4 1, 3) := by decide +kernel
theorem dX1_leastClimb_139 : decode cX1_leastClimb 139 = .ok (.goto (-115), 3) := by decide +kernel
theorem dX1_leastClimb_142 : decode cX1_leastClimb 142 = .ok (.aload_n 0, 1) := by decide +kernel
theorem dX1_leastClimb_143 : decode cX1_leastClimb 143 = .ok (.getfield 18, 3) := by decide +kernel
theorem dX1_leastClimb_146 : decode cX1_leastClimb 146 = .ok (.iload_n 3, 1) := by decide +kernel
theorem dX1_leastClimb_147 : decode cX1_leastClimb 147 = .ok (.iaload, 1) := by decide +kernel
theorem dX1_leastClimb_148 : decode cX1_leastClimb 148 = .ok (.ireturn, 1) := by decide +kernel
theorem dX1_isSettled_0 : decode cX1_isSettled 0 = .ok (.aload_n 0, 1) := by decide +kernel
theorem dX1_isSettled_1 : decode cX1_isSettled 1 = .ok (.getfield 21, 3) := by decide +kernel
theorem dX1_isSettled_4 : decode cX1_isSettled 4 = .ok (.iload_n 1, 1) := by decide +kernel
theorem dX1_isSettled_5 : decode cX1_isSettled 5 = .ok (.iushr, 1) := by decide +kernel
theorem dX1_isSettled_6 : decode cX1_isSettled 6 = .ok (.iconst 1, 1) := by decide +kernel
theorem dX1_isSettled_7 : decode cX1_isSettled 7 = .ok (.iand, 1) := by decide +kernel
theorem dX1_isSettled_8 : decode cX1_isSettled 8 = .ok (.iconst 1, 1) := by decide +kernel
theorem dX1_isSettled_9 : decode cX1_isSettled 9 = .ok (.if_icmp .ne 7, 3) := by decide +kernel
theorem dX1_isSettled_12 : decode cX1_isSettled 12 = .ok (.iconst 1, 1) := by decide +kernel
theorem dX1_isSettled_13 : decode cX1_isSettled 13 = .ok (.goto 4, 3) := by decide +kernel
theorem dX1_isSettled_16 : decode cX1_isSettled 16 = .ok (.iconst 0, 1) := by decide +kernel
theorem dX1_isSettled_17 : decode cX1_isSettled 17 = .ok (.ireturn, 1) := by decide +kernel
theorem dX1_easiest_0 : decode cX1_easiest 0 = .ok (.iconst 0, 1) := by decide +kernel
theorem dX1_easiest_1 : decode cX1_easiest 1 = .ok (.istore_n 1, 1) := by decide +kernel
theorem dX1_easiest_2 : decode cX1_easiest 2 = .ok (.iconst 1, 1) := by decide +kernel
theorem dX1_easiest_3 : decode cX1_easiest 3 = .ok (.istore_n 2, 1) := by decide +kernel
theorem dX1_easiest_4 : decode cX1_easiest 4 = .ok (.iload_n 2, 1) := by decide +kernel
theorem dX1_easiest_5 : decode cX1_easiest 5 = .ok (.bipush 25, 2) := by decide +kernel
theorem dX1_easiest_7 : decode cX1_easiest 7 = .ok (.if_icmp .ge 42, 3) := by decide +kernel
theorem dX1_easiest_10 : decode cX1_easiest 10 = .ok (.aload_n 0, 1) := by decide +kernel
theorem dX1_easiest_11 : decode cX1_easiest 11 = .ok (.iload_n 2, 1) := by decide +kernel
theorem dX1_easiest_12 : decode cX1_easiest 12 = .ok (.invokevirtual 44, 3) := by decide +kernel
theorem dX1_easiest_15 : decode cX1_easiest 15 = .ok (.ifCond .ne 28, 3) := by decide +kernel
theorem dX1_easiest_18 : decode cX1_easiest 18 = .ok (.aload_n 0, 1) := by decide +kernel
theorem dX1_easiest_19 : decode cX1_easiest 19 = .ok (.iload_n 1, 1) := by decide +kernel
theorem dX1_easiest_20 : decode cX1_easiest 20 = .ok (.invokevirtual 44, 3) := by decide +kernel
theorem dX1_easiest_23 : decode cX1_easiest 23 = .ok (.ifCond .ne 18, 3) := by decide +kernel
theorem dX1_easiest_26 : decode cX1_easiest 26 = .ok (.aload_n 0, 1) := by decide +kernel
theorem dX1_easiest_27 : decode cX1_easiest 27 = .ok (.getfield 18, 3) := by decide +kernel
theorem dX1_easiest_30 : decode cX1_easiest 30 = .ok (.iload_n 2, 1) := by decide +kernel
theorem dX1_easiest_31 : decode cX1_easiest 31 = .ok (.iaload, 1) := by decide +kernel
theorem dX1_easiest_32 : decode cX1_easiest 32 = .ok (.aload_n 0, 1) := by decide +kernel
theorem dX1_easiest_33 : decode cX1_easiest 33 = .ok (.getfield 18, 3) := by decide +kernel
theorem dX1_easiest_36 : decode cX1_easiest 36 = .ok (.iload_n 1, 1) := by decide +kernel
theorem dX1_easiest_37 : decode cX1_easiest 37 = .ok (.iaload, 1) := by decide +kernel
theorem dX1_easiest_38 : decode cX1_easiest 38 = .ok (.if_icmp .ge 5, 3) := by decide +kernel
theorem dX1_easiest_41 : decode cX1_easiest 41 = .ok (.iload_n 2, 1) := by decide +kernel
theorem dX1_easiest_42 : decode cX1_easiest 42 = .ok (.istore_n 1, 1) := by decide +kernel
theorem dX1_easiest_43 : decode cX1_easiest 43 = .ok (.iinc 2 1, 3) := by decide +kernel
theorem dX1_easiest_46 : decode cX1_easiest 46 = .ok (.goto (-42), 3) := by decide +kernel
theorem dX1_easiest_49 : decode cX1_easiest 49 = .ok (.iload_n 1, 1) := by decide +kernel
theorem dX1_easiest_50 : decode cX1_easiest 50 = .ok (.ireturn, 1) := by decide +kernel
theorem dX3_init_0 : decode cX3_init 0 = .ok (.aload_n 0, 1) := by decide +kernel
theorem dX3_init_1 : decode cX3_init 1 = .ok (.invokespecial 3, 3) := by decide +kernel
theorem dX3_init_4 : decode cX3_init 4 = .ok (.aload_n 0, 1) := by decide +kernel
theorem dX3_init_5 : decode cX3_init 5 = .ok (.bipush 120, 2) := by decide +kernel
theorem dX3_init_7 : decode cX3_init 7 = .ok (.newarray .int, 2) := by decide +kernel
theorem dX3_init_9 : decode cX3_init 9 = .ok (.putfield 9, 3) := by decide +kernel
theorem dX3_init_12 : decode cX3_init 12 = .ok (.aload_n 0, 1) := by decide +kernel
theorem dX3_init_13 : decode cX3_init 13 = .ok (.iconst 0, 1) := by decide +kernel
theorem dX3_init_14 : decode cX3_init 14 = .ok (.putfield 15, 3) := by decide +kernel
theorem dX3_init_17 : decode cX3_init 17 = .ok (.aload_n 0, 1) := by decide +kernel
theorem dX3_init_18 : decode cX3_init 18 = .ok (.iconst 0, 1) := by decide +kernel
theorem dX3_init_19 : decode cX3_init 19 = .ok (.putfield 19, 3) := by decide +kernel
theorem dX3_init_22 : decode cX3_init 22 = .ok (.aload_n 0, 1) := by decide +kernel
theorem dX3_init_23 : decode cX3_init 23 = .ok (.iconst 0, 1) := by decide +kernel
theorem dX3_init_24 : decode cX3_init 24 = .ok (.putfield 22, 3) := by decide +kernel
theorem dX3_init_27 : decode cX3_init 27 = .ok (.aload_n 0, 1) := by decide +kernel
theorem dX3_init_28 : decode cX3_init 28 = .ok (.iconst 0, 1) := by decide +kernel
theorem dX3_init_29 : decode cX3_init 29 = .ok (.putfield 25, 3) := by decide +kernel
theorem dX3_init_32 : decode cX3_init 32 = .ok (.aload_n 0, 1) := by decide +kernel
theorem dX3_init_33 : decode cX3_init 33 = .ok (.iconst 0, 1) := by decide +kernel
theorem dX3_init_34 : decode cX3_init 34 = .ok (.putfield 28, 3) := by decide +kernel
theorem dX3_init_37 : decode cX3_init 37 = .ok (.return_, 1) := by decide +kernel
theorem dX3_append_0 : decode cX3_append 0 = .ok (.aload_n 0, 1) := by decide +kernel
theorem dX3_append_1 : decode cX3_append 1 = .ok (.getfield 15, 3) := by decide +kernel
theorem dX3_append_4 : decode cX3_append 4 = .ok (.bipush 120, 2) := by decide +kernel
theorem dX3_append_6 : decode cX3_append 6 = .ok (.if_icmp .ge 23, 3) := by decide +kernel
theorem dX3_append_9 : decode cX3_append 9 = .ok (.aload_n 0, 1) := by decide +kernel
theorem dX3_append_10 : decode cX3_append 10 = .ok (.getfield 9, 3) := by decide +kernel
theorem dX3_append_13 : decode cX3_append 13 = .ok (.aload_n 0, 1) := by decide +kernel
theorem dX3_append_14 : decode cX3_append 14 = .ok (.getfield 15, 3) := by decide +kernel
theorem dX3_append_17 : decode cX3_append 17 = .ok (.iload_n 1, 1) := by decide +kernel
theorem dX3_append_18 : decode cX3_append 18 = .ok (.iastore, 1) := by decide +kernel
theorem dX3_append_19 : decode cX3_append 19 = .ok (.aload_n 0, 1) := by decide +kernel
theorem dX3_append_20 : decode cX3_append 20 = .ok (.dup, 1) := by decide +kernel
theorem dX3_append_21 : decode cX3_append 21 = .ok (.getfield 15, 3) := by decide +kernel
theorem dX3_append_24 : decode cX3_append 24 = .ok (.iconst 1, 1) := by decide +kernel
theorem dX3_append_25 : decode cX3_append 25 = .ok (.iadd, 1) := by decide +kernel
theorem dX3_append_26 : decode cX3_append 26 = .ok (.putfield 15, 3) := by decide +kernel
theorem dX3_append_29 : decode cX3_append 29 = .ok (.return_, 1) := by decide +kernel
theorem dX3_readText_0 : decode cX3_readText 0 = .ok (.aload_n 0, 1) := by decide +kernel
theorem dX3_readText_1 : decode cX3_readText 1 = .ok (.iconst 0, 1) := by decide +kernel
theorem dX3_readText_2 : decode cX3_readText 2 = .ok (.putfield 25, 3) := by decide +kernel
theorem dX3_readText_5 : decode cX3_readText 5 = .ok (.aload_n 0, 1) := by decide +kernel
theorem dX3_readText_6 : decode cX3_readText 6 = .ok (.invokevirtual 31, 3) := by decide +kernel
theorem dX3_readText_9 : decode cX3_readText 9 = .ok (.iconst 1, 1) := by decide +kernel
theorem dX3_readText_10 : decode cX3_readText 10 = .ok (.istore_n 2, 1) := by decide +kernel
theorem dX3_readText_11 : decode cX3_readText 11 = .ok (.iload_n 2, 1) := by decide +kernel
theorem dX3_readText_12 : decode cX3_readText 12 = .ok (.bipush 120, 2) := by decide +kernel
theorem dX3_readText_14 : decode cX3_readText 14 = .ok (.if_icmp .gt 52, 3) := by decide +kernel
theorem dX3_readText_17 : decode cX3_readText 17 = .ok (.aload_n 0, 1) := by decide +kernel
theorem dX3_readText_18 : decode cX3_readText 18 = .ok (.aload_n 1, 1) := by decide +kernel
theorem dX3_readText_19 : decode cX3_readText 19 = .ok (.invokevirtual 34, 3) := by decide +kernel
theorem dX3_readText_22 : decode cX3_readText 22 = .ok (.ifCond .ne 10, 3) := by decide +kernel
theorem dX3_readText_25 : decode cX3_readText 25 = .ok (.iconst (-1), 1) := by decide +kernel
theorem dX3_readText_26 : decode cX3_readText 26 = .ok (.aload_n 0, 1) := by decide +kernel
theorem dX3_readText_27 : decode cX3_readText 27 = .ok (.getfield 22, 3) := by decide +kernel
theorem dX3_readText_30 : decode cX3_readText 30 = .ok (.isub, 1) := by decide +kernel
theorem dX3_readText_31 : decode cX3_readText 31 = .ok (.ireturn, 1) := by decide +kernel
theorem dX3_readText_32 : decode cX3_readText 32 = .ok (.aload_n 0, 1) := by decide +kernel
theorem dX3_readText_33 : decode cX3_readText 33 = .ok (.getfield 19, 3) := by decide +kernel
theorem dX3_readText_36 : decode cX3_readText 36 = .ok (.ifCond .ne 5, 3) := by decide +kernel
theorem dX3_readText_39 : decode cX3_readText 39 = .ok (.iload_n 2, 1) := by decide +kernel
theorem dX3_readText_40 : decode cX3_readText 40 = .ok (.ireturn, 1) := by decide +kernel
theorem dX3_readText_41 : decode cX3_readText 41 = .ok (.aload_n 0, 1) := by decide +kernel
theorem dX3_readText_42 : decode cX3_readText 42 = .ok (.getfield 19, 3) := by decide +kernel
theorem dX3_readText_45 : decode cX3_readText 45 = .ok (.iconst 3, 1) := by decide +kernel
theorem dX3_readText_46 : decode cX3_readText 46 = .ok (.if_icmp .eq 10, 3) := by decide +kernel
theorem dX3_readText_49 : decode cX3_readText 49 = .ok (.iconst (-1), 1) := by decide +kernel
theorem dX3_readText_50 : decode cX3_readText 50 = .ok (.aload_n 0, 1) := by decide +kernel
theorem dX3_readText_51 : decode cX3_readText 51 = .ok (.getfield 22, 3) := by decide +kernel
theorem dX3_readText_54 : decode cX3_readText 54 = .ok (.isub, 1) := by decide +kernel
theorem dX3_readText_55 : decode cX3_readText 55 = .ok (.ireturn, 1) := by decide +kernel
theorem dX3_readText_56 : decode cX3_readText 56 = .ok (.aload_n 0, 1) := by decide +kernel
theorem dX3_readText_57 : decode cX3_readText 57 = .ok (.invokevirtual 31, 3) := by decide +kernel
theorem dX3_readText_60 : decode cX3_readText 60 = .ok (.iinc 2 1, 3) := by decide +kernel
theorem dX3_readText_63 : decode cX3_readText 63 = .ok (.goto (-52), 3) := by decide +kernel
theorem dX3_readText_66 : decode cX3_readText 66 = .ok (.iconst (-1), 1) := by decide +kernel
theorem dX3_readText_67 : decode cX3_readText 67 = .ok (.aload_n 0, 1) := by decide +kernel
theorem dX3_readText_68 : decode cX3_readText 68 = .ok (.getfield 22, 3) := by decide +kernel
theorem dX3_readText_71 : decode cX3_readText 71 = .ok (.isub, 1) := by decide +kernel
theorem dX3_readText_72 : decode cX3_readText 72 = .ok (.ireturn, 1) := by decide +kernel
theorem dX3_readItem_0 : decode cX3_readItem 0 = .ok (.iconst 0, 1) := by decide +kernel
theorem dX3_readItem_1 : decode cX3_readItem 1 = .ok (.istore_n 2, 1) := by decide +kernel
theorem dX3_readItem_2 : decode cX3_readItem 2 = .ok (.iload_n 2, 1) := by decide +kernel
theorem dX3_readItem_3 : decode cX3_readItem 3 = .ok (.bipush 7, 2) := by decide +kernel
theorem dX3_readItem_5 : decode cX3_readItem 5 = .ok (.if_icmp .ge 27, 3) := by decide +kernel
theorem dX3_readItem_8 : decode cX3_readItem 8 = .ok (.aload_n 0, 1) := by decide +kernel
theorem dX3_readItem_9 : decode cX3_readItem 9 = .ok (.iload_n 2, 1) := by decide +kernel
theorem dX3_readItem_10 : decode cX3_readItem 10 = .ok (.invokestatic 38, 3) := by decide +kernel
theorem dX3_readItem_13 : decode cX3_readItem 13 = .ok (.invokevirtual 42, 3) := by decide +kernel
theorem dX3_readItem_16 : decode cX3_readItem 16 = .ok (.ifCond .eq 10, 3) := by decide +kernel
theorem dX3_readItem_19 : decode cX3_readItem 19 = .ok (.aload_n 0, 1) := by decide +kernel
theorem dX3_readItem_20 : decode cX3_readItem 20 = .ok (.aload_n 1, 1) := by decide +kernel
theorem dX3_readItem_21 : decode cX3_readItem 21 = .ok (.iload_n 2, 1) := by decide +kernel
theorem dX3_readItem_22 : decode cX3_readItem 22 = .ok (.invokevirtual 46, 3) := by decide +kernel
theorem dX3_readItem_25 : decode cX3_readItem 25 = .ok (.ireturn, 1) := by decide +kernel
theorem dX3_readItem_26 : decode cX3_readItem 26 = .ok (.iinc 2 1, 3) := by decide +kernel
theorem dX3_readItem_29 : decode cX3_readItem 29 = .ok (.goto (-27), 3) := by decide +kernel
theorem dX3_readItem_32 : decode cX3_readItem 32 = .ok (.aload_n 0, 1) := by decide +kernel
theorem dX3_readItem_33 : decode cX3_readItem 33 = .ok (.ldc 50, 2) := by decide +kernel
theorem dX3_readItem_35 : decode cX3_readItem 35 = .ok (.invokevirtual 42, 3) := by decide +kernel
theorem dX3_readItem_38 : decode cX3_readItem 38 = .ok (.ifCond .eq 9, 3) := by decide +kernel
theorem dX3_readItem_41 : decode cX3_readItem 41 = .ok (.aload_n 0, 1) := by decide +kernel
theorem dX3_readItem_42 : decode cX3_readItem 42 = .ok (.aload_n 1, 1) := by decide +kernel
theorem dX3_readItem_43 : decode cX3_readItem 43 = .ok (.invokevirtual 52, 3) := by decide +kernel
theorem dX3_readItem_46 : decode cX3_readItem 46 = .ok (.ireturn, 1) := by decide +kernel
theorem dX3_readItem_47 : decode cX3_readItem 47 = .ok (.aload_n 0, 1) := by decide +kernel
theorem dX3_readItem_48 : decode cX3_readItem 48 = .ok (.ldc 55, 2) := by decide +kernel
theorem dX3_readItem_50 : decode cX3_readItem 50 = .ok (.invokevirtual 42, 3) := by decide +kernel
theorem dX3_readItem_53 : decode cX3_readItem 53 = .ok (.ifCond .eq 10, 3) := by decide +kernel
theorem dX3_readItem_56 : decode cX3_readItem 56 = .ok (.aload_n 0, 1) := by decide +kernel
theorem dX3_readItem_57 : decode cX3_readItem 57 = .ok (.aload_n 1, 1) := by decide +kernel
theorem dX3_readItem_58 : decode cX3_readItem 58 = .ok (.iconst 1, 1) := by decide +kernel
theorem dX3_readItem_59 : decode cX3_readItem 59 = .ok (.invokevirtual 57, 3) := by decide +kernel
theorem dX3_readItem_62 : decode cX3_readItem 62 = .ok (.ireturn, 1) := by decide +kernel
theorem dX3_readItem_63 : decode cX3_readItem 63 = .ok (.aload_n 0, 1) := by decide +kernel
theorem dX3_readItem_64 : decode cX3_readItem 64 = .ok (.ldc 60, 2) := by decide +kernel
theorem dX3_readItem_66 : decode cX3_readItem 66 = .ok (.invokevirtual 42, 3) := by decide +kernel
theorem dX3_readItem_69 : decode cX3_readItem 69 = .ok (.ifCond .eq 16, 3) := by decide +kernel
theorem dX3_readItem_72 : decode cX3_readItem 72 = .ok (.aload_n 0, 1) := by decide +kernel
theorem dX3_readItem_73 : decode cX3_readItem 73 = .ok (.aload_n 1, 1) := by decide +kernel
theorem dX3_readItem_74 : decode cX3_readItem 74 = .ok (.iconst 0, 1) := by decide +kernel
theorem dX3_readItem_75 : decode cX3_readItem 75 = .ok (.invokevirtual 57, 3) := by decide +kernel
theorem dX3_readItem_78 : decode cX3_readItem 78 = .ok (.ifCond .eq 7, 3) := by decide +kernel
theorem dX3_readItem_81 : decode cX3_readItem 81 = .ok (.iconst 1, 1) := by decide +kernel
theorem dX3_readItem_82 : decode cX3_readItem 82 = .ok (.goto 4, 3) := by decide +kernel
theorem dX3_readItem_85 : decode cX3_readItem 85 = .ok (.iconst 0, 1) := by decide +kernel
theorem dX3_readItem_86 : decode cX3_readItem 86 = .ok (.ireturn, 1) := by decide +kernel
theorem dX3_nameOf_0 : decode cX3_nameOf 0 = .ok (.iload_n 0, 1) := by decide +kernel
theorem dX3_nameOf_1 : decode cX3_nameOf 1 = .ok (.tableswitch 57 1 6 #[39, 42, 45, 48, 51, 54], 39) := by decide +kernel
theorem dX3_nameOf_40 : decode cX3_nameOf 40 = .ok (.ldc 62, 2) := by decide +kernel
theorem dX3_nameOf_42 : decode cX3_nameOf 42 = .ok (.areturn, 1) := by decide +kernel
theorem dX3_nameOf_43 : decode cX3_nameOf 43 = .ok (.ldc 64, 2) := by decide +kernel
theorem dX3_nameOf_45 : decode cX3_nameOf 45 = .ok (.areturn, 1) := by decide +kernel
theorem dX3_nameOf_46 : decode cX3_nameOf 46 = .ok (.ldc 66, 2) := by decide +kernel
theorem dX3_nameOf_48 : decode cX3_nameOf 48 = .ok (.areturn, 1) := by decide +kernel
theorem dX3_nameOf_49 : decode cX3_nameOf 49 = .ok (.ldc 68, 2) := by decide +kernel
theorem dX3_nameOf_51 : decode cX3_nameOf 51 = .ok (.areturn, 1) := by decide +kernel
theorem dX3_nameOf_52 : decode cX3_nameOf 52 = .ok (.ldc 70, 2) := by decide +kernel
theorem dX3_nameOf_54 : decode cX3_nameOf 54 = .ok (.areturn, 1) := by decide +kernel
theorem dX3_nameOf_55 : decode cX3_nameOf 55 = .ok (.ldc 72, 2) := by decide +kernel
theorem dX3_nameOf_57 : decode cX3_nameOf 57 = .ok (.areturn, 1) := by decide +kernel
theorem dX3_nameOf_58 : decode cX3_nameOf 58 = .ok (.ldc 74, 2) := by decide +kernel
theorem dX3_nameOf_60 : decode cX3_nameOf 60 = .ok (.areturn, 1) := by decide +kernel
theorem dX3_readTent_0 : decode cX3_readTent 0 = .ok (.aload_n 1, 1) := by decide +kernel
theorem dX3_readTent_1 : decode cX3_readTent 1 = .ok (.getfield 76, 3) := by decide +kernel
theorem dX3_readTent_4 : decode cX3_readTent 4 = .ok (.bipush 6, 2) := by decide +kernel
theorem dX3_readTent_6 : decode cX3_readTent 6 = .ok (.if_icmp .lt 5, 3) := by decide +kernel
theorem dX3_readTent_9 : decode cX3_readTent 9 = .ok (.iconst 0, 1) := by decide +kernel
theorem dX3_readTent_10 : decode cX3_readTent 10 = .ok (.ireturn, 1) := by decide +kernel
theorem dX3_readTent_11 : decode cX3_readTent 11 = .ok (.aload_n 1, 1) := by decide +kernel
theorem dX3_readTent_12 : decode cX3_readTent 12 = .ok (.getfield 81, 3) := by decide +kernel
theorem dX3_readTent_15 : decode cX3_readTent 15 = .ok (.aload_n 1, 1) := by decide +kernel
theorem dX3_readTent_16 : decode cX3_readTent 16 = .ok (.getfield 76, 3) := by decide +kernel
theorem dX3_readTent_19 : decode cX3_readTent 19 = .ok (.aaload, 1) := by decide +kernel
theorem dX3_readTent_20 : decode cX3_readTent 20 = .ok (.astore_n 3, 1) := by decide +kernel
theorem dX3_readTent_21 : decode cX3_readTent 21 = .ok (.aload_n 1, 1) := by decide +kernel
theorem dX3_readTent_22 : decode cX3_readTent 22 = .ok (.iload_n 2, 1) := by decide +kernel
theorem dX3_readTent_23 : decode cX3_readTent 23 = .ok (.invokevirtual 85, 3) := by decide +kernel
theorem dX3_readTent_26 : decode cX3_readTent 26 = .ok (.aload_n 0, 1) := by decide +kernel
theorem dX3_readTent_27 : decode cX3_readTent 27 = .ok (.invokevirtual 31, 3) := by decide +kernel
theorem dX3_readTent_30 : decode cX3_readTent 30 = .ok (.aload_n 0, 1) := by decide +kernel
theorem dX3_readTent_31 : decode cX3_readTent 31 = .ok (.aload_n 3, 1) := by decide +kernel
theorem dX3_readTent_32 : decode cX3_readTent 32 = .ok (.invokevirtual 89, 3) := by decide +kernel
theorem dX3_readTent_35 : decode cX3_readTent 35 = .ok (.ifCond .eq 23, 3) := by decide +kernel
theorem dX3_readTent_38 : decode cX3_readTent 38 = .ok (.aload_n 0, 1) := by decide +kernel
theorem dX3_readTent_39 : decode cX3_readTent 39 = .ok (.aload_n 3, 1) := by decide +kernel
theorem dX3_readTent_40 : decode cX3_readTent 40 = .ok (.invokevirtual 93, 3) := by decide +kernel
theorem dX3_readTent_43 : decode cX3_readTent 43 = .ok (.ifCond .eq 15, 3) := by decide +kernel
theorem dX3_readTent_46 : decode cX3_readTent 46 = .ok (.aload_n 0, 1) := by decide +kernel
theorem dX3_readTent_47 : decode cX3_readTent 47 = .ok (.aload_n 3, 1) := by decide +kernel
theorem dX3_readTent_48 : decode cX3_readTent 48 = .ok (.invokevirtual 96, 3) := by decide +kernel
theorem dX3_readTent_51 : decode cX3_readTent 51 = .ok (.ifCond .eq 7, 3) := by decide +kernel
theorem dX3_readTent_54 : decode cX3_readTent 54 = .ok (.iconst 1, 1) := by decide +kernel
theorem dX3_readTent_55 : decode cX3_readTent 55 = .ok (.goto 4, 3) := by decide +kernel
theorem dX3_readTent_58 : decode cX3_readTent 58 = .ok (.iconst 0, 1) := by decide +kernel
theorem dX3_readTent_59 : decode cX3_readTent 59 = .ok (.ireturn, 1) := by decide +kernel
theorem dX3_readPitch_0 : decode cX3_readPitch 0 = .ok (.aload_n 0, 1) := by decide +kernel
theorem dX3_readPitch_1 : decode cX3_readPitch 1 = .ok (.ldc 99, 2) := by decide +kernel
theorem dX3_readPitch_3 : decode cX3_readPitch 3 = .ok (.invokevirtual 42, 3) := by decide +kernel
theorem dX3_readPitch_6 : decode cX3_readPitch 6 = .ok (.ifCond .ne 5, 3) := by decide +kernel
theorem dX3_readPitch_9 : decode cX3_readPitch 9 = .ok (.iconst 1, 1) := by decide +kernel
theorem dX3_readPitch_10 : decode cX3_readPitch 10 = .ok (.ireturn, 1) := by decide +kernel
theorem dX3_readPitch_11 : decode cX3_readPitch 11 = .ok (.aload_n 0, 1) := by decide +kernel
theorem dX3_readPitch_12 : decode cX3_readPitch 12 = .ok (.invokevirtual 31, 3) := by decide +kernel
theorem dX3_readPitch_15 : decode cX3_readPitch 15 = .ok (.aload_n 0, 1) := by decide +kernel
theorem dX3_readPitch_16 : decode cX3_readPitch 16 = .ok (.bipush 15, 2) := by decide +kernel
theorem dX3_readPitch_18 : decode cX3_readPitch 18 = .ok (.invokevirtual 101, 3) := by decide +kernel
theorem dX3_readPitch_21 : decode cX3_readPitch 21 = .ok (.ifCond .ne 5, 3) := by decide +kernel
theorem dX3_readPitch_24 : decode cX3_readPitch 24 = .ok (.iconst 0, 1) := by decide +kernel
theorem dX3_readPitch_25 : decode cX3_readPitch 25 = .ok (.ireturn, 1) := by decide +kernel
theorem dX3_readPitch_26 : decode cX3_readPitch 26 = .ok (.aload_n 1, 1) := by decide +kernel
theorem dX3_readPitch_27 : decode cX3_readPitch 27 = .ok (.aload_n 0, 1) := by decide +kernel
theorem dX3_readPitch_28 : decode cX3_readPitch 28 = .ok (.getfield 28, 3) := by decide +kernel
theorem dX3_readPitch_31 : decode cX3_readPitch 31 = .ok (.putfield 105, 3) := by decide +kernel
theorem dX3_readPitch_34 : decode cX3_readPitch 34 = .ok (.aload_n 0, 1) := by decide +kernel
theorem dX3_readPitch_35 : decode cX3_readPitch 35 = .ok (.invokevirtual 31, 3) := by decide +kernel
theorem dX3_readPitch_38 : decode cX3_readPitch 38 = .ok (.iconst 1, 1) := by decide +kernel
theorem dX3_readPitch_39 : decode cX3_readPitch 39 = .ok (.ireturn, 1) := by decide +kernel
theorem dX3_readWorn_0 : decode cX3_readWorn 0 = .ok (.aload_n 0, 1) := by decide +kernel
theorem dX3_readWorn_1 : decode cX3_readWorn 1 = .ok (.ldc 110, 2) := by decide +kernel
theorem dX3_readWorn_3 : decode cX3_readWorn 3 = .ok (.invokevirtual 42, 3) := by decide +kernel
theorem dX3_readWorn_6 : decode cX3_readWorn 6 = .ok (.ifCond .ne 5, 3) := by decide +kernel
theorem dX3_readWorn_9 : decode cX3_readWorn 9 = .ok (.iconst 1, 1) := by decide +kernel
theorem dX3_readWorn_10 : decode cX3_readWorn 10 = .ok (.ireturn, 1) := by decide +kernel
theorem dX3_readWorn_11 : decode cX3_readWorn 11 = .ok (.aload_n 0, 1) := by decide +kernel
theorem dX3_readWorn_12 : decode cX3_readWorn 12 = .ok (.invokevirtual 31, 3) := by decide +kernel
theorem dX3_readWorn_15 : decode cX3_readWorn 15 = .ok (.aload_n 0, 1) := by decide +kernel
theorem dX3_readWorn_16 : decode cX3_readWorn 16 = .ok (.bipush 99, 2) := by decide +kernel
theorem dX3_readWorn_18 : decode cX3_readWorn 18 = .ok (.invokevirtual 101, 3) := by decide +kernel
theorem dX3_readWorn_21 : decode cX3_readWorn 21 = .ok (.ifCond .ne 5, 3) := by decide +kernel
theorem dX3_readWorn_24 : decode cX3_readWorn 24 = .ok (.iconst 0, 1) := by decide +kernel
theorem dX3_readWorn_25 : decode cX3_readWorn 25 = .ok (.ireturn, 1) := by decide +kernel
theorem dX3_readWorn_26 : decode cX3_readWorn 26 = .ok (.aload_n 1, 1) := by decide +kernel
theorem dX3_readWorn_27 : decode cX3_readWorn 27 = .ok (.aload_n 0, 1) := by decide +kernel
theorem dX3_readWorn_28 : decode cX3_readWorn 28 = .ok (.getfield 28, 3) := by decide +kernel
theorem dX3_readWorn_31 : decode cX3_readWorn 31 = .ok (.putfield 112, 3) := by decide +kernel
theorem dX3_readWorn_34 : decode cX3_readWorn 34 = .ok (.aload_n 0, 1) := by decide +kernel
theorem dX3_readWorn_35 : decode cX3_readWorn 35 = .ok (.invokevirtual 31, 3) := by decide +kernel
theorem dX3_readWorn_38 : decode cX3_readWorn 38 = .ok (.iconst 1, 1) := by decide +kernel
theorem dX3_readWorn_39 : decode cX3_readWorn 39 = .ok (.ireturn, 1) := by decide +kernel
theorem dX3_readFelt_0 : decode cX3_readFelt 0 = .ok (.aload_n 0, 1) := by decide +kernel
theorem dX3_readFelt_1 : decode cX3_readFelt 1 = .ok (.ldc 114, 2) := by decide +kernel
theorem dX3_readFelt_3 : decode cX3_readFelt 3 = .ok (.invokevirtual 42, 3) := by decide +kernel
theorem dX3_readFelt_6 : decode cX3_readFelt 6 = .ok (.ifCond .ne 5, 3) := by decide +kernel
theorem dX3_readFelt_9 : decode cX3_readFelt 9 = .ok (.iconst 1, 1) := by decide +kernel
theorem dX3_readFelt_10 : decode cX3_readFelt 10 = .ok (.ireturn, 1) := by decide +kernel
theorem dX3_readFelt_11 : decode cX3_readFelt 11 = .ok (.aload_n 0, 1) := by decide +kernel
theorem dX3_readFelt_12 : decode cX3_readFelt 12 = .ok (.invokevirtual 31, 3) := by decide +kernel
theorem dX3_readFelt_15 : decode cX3_readFelt 15 = .ok (.iconst 0, 1) := by decide +kernel
theorem dX3_readFelt_16 : decode cX3_readFelt 16 = .ok (.istore_n 2, 1) := by decide +kernel
theorem dX3_readFelt_17 : decode cX3_readFelt 17 = .ok (.iload_n 2, 1) := by decide +kernel
theorem dX3_readFelt_18 : decode cX3_readFelt 18 = .ok (.iconst 4, 1) := by decide +kernel
theorem dX3_readFelt_19 : decode cX3_readFelt 19 = .ok (.if_icmp .ge 34, 3) := by decide +kernel
theorem dX3_readFelt_22 : decode cX3_readFelt 22 = .ok (.aload_n 0, 1) := by decide +kernel
theorem dX3_readFelt_23 : decode cX3_readFelt 23 = .ok (.bipush 99, 2) := by decide +kernel
theorem dX3_readFelt_25 : decode cX3_readFelt 25 = .ok (.invokevirtual 101, 3) := by decide +kernel
theorem dX3_readFelt_28 : decode cX3_readFelt 28 = .ok (.ifCond .ne 5, 3) := by decide +kernel
theorem dX3_readFelt_31 : decode cX3_readFelt 31 = .ok (.iconst 0, 1) := by decide +kernel
theorem dX3_readFelt_32 : decode cX3_readFelt 32 = .ok (.ireturn, 1) := by decide +kernel
theorem dX3_readFelt_33 : decode cX3_readFelt 33 = .ok (.aload_n 1, 1) := by decide +kernel
theorem dX3_readFelt_34 : decode cX3_readFelt 34 = .ok (.getfield 116, 3) := by decide +kernel
theorem dX3_readFelt_37 : decode cX3_readFelt 37 = .ok (.iload_n 2, 1) := by decide +kernel
theorem dX3_readFelt_38 : decode cX3_readFelt 38 = .ok (.aload_n 0, 1) := by decide +kernel
theorem dX3_readFelt_39 : decode cX3_readFelt 39 = .ok (.getfield 28, 3) := by decide +kernel
theorem dX3_readFelt_42 : decode cX3_readFelt 42 = .ok (.iastore, 1) := by decide +kernel
theorem dX3_readFelt_43 : decode cX3_readFelt 43 = .ok (.aload_n 0, 1) := by decide +kernel
theorem dX3_readFelt_44 : decode cX3_readFelt 44 = .ok (.invokevirtual 31, 3) := by decide +kernel
theorem dX3_readFelt_47 : decode cX3_readFelt 47 = .ok (.iinc 2 1, 3) := by decide +kernel
theorem dX3_readFelt_50 : decode cX3_readFelt 50 = .ok (.goto (-33), 3) := by decide +kernel
theorem dX3_readFelt_53 : decode cX3_readFelt 53 = .ok (.iconst 1, 1) := by decide +kernel
theorem dX3_readFelt_54 : decode cX3_readFelt 54 = .ok (.ireturn, 1) := by decide +kernel
theorem dX3_readHeight_0 : decode cX3_readHeight 0 = .ok (.aload_n 0, 1) := by decide +kernel
theorem dX3_readHeight_1 : decode cX3_readHeight 1 = .ok (.invokevirtual 31, 3) := by decide +kernel
theorem dX3_readHeight_4 : decode cX3_readHeight 4 = .ok (.aload_n 0, 1) := by decide +kernel
theorem dX3_readHeight_5 : decode cX3_readHeight 5 = .ok (.bipush 24, 2) := by decide +kernel
theorem dX3_readHeight_7 : decode cX3_readHeight 7 = .ok (.invokevirtual 101, 3) := by decide +kernel
theorem dX3_readHeight_10 : decode cX3_readHeight 10 = .ok (.ifCond .ne 5, 3) := by decide +kernel
theorem dX3_readHeight_13 : decode cX3_readHeight 13 = .ok (.iconst 0, 1) := by decide +kernel
theorem dX3_readHeight_14 : decode cX3_readHeight 14 = .ok (.ireturn, 1) := by decide +kernel
theorem dX3_readHeight_15 : decode cX3_readHeight 15 = .ok (.aload_n 0, 1) := by decide +kernel
theorem dX3_readHeight_16 : decode cX3_readHeight 16 = .ok (.getfield 28, 3) := by decide +kernel
theorem dX3_readHeight_19 : decode cX3_readHeight 19 = .ok (.istore_n 2, 1) := by decide +kernel
theorem dX3_readHeight_20 : decode cX3_readHeight 20 = .ok (.aload_n 0, 1) := by decide +kernel
theorem dX3_readHeight_21 : decode cX3_readHeight 21 = .ok (.invokevirtual 31, 3) := by decide +kernel
theorem dX3_readHeight_24 : decode cX3_readHeight 24 = .ok (.aload_n 0, 1) := by decide +kernel
theorem dX3_readHeight_25 : decode cX3_readHeight 25 = .ok (.bipush 99, 2) := by decide +kernel
theorem dX3_readHeight_27 : decode cX3_readHeight 27 = .ok (.invokevirtual 101, 3) := by decide +kernel
theorem dX3_readHeight_30 : decode cX3_readHeight 30 = .ok (.ifCond .ne 5, 3) := by decide +kernel
theorem dX3_readHeight_33 : decode cX3_readHeight 33 = .ok (.iconst 0, 1) := by decide +kernel
theorem dX3_readHeight_34 : decode cX3_readHeight 34 = .ok (.ireturn, 1) := by decide +kernel
theorem dX3_readHeight_35 : decode cX3_readHeight 35 = .ok (.aload_n 1, 1) := by decide +kernel
theorem dX3_readHeight_36 : decode cX3_readHeight 36 = .ok (.getfield 118, 3) := by decide +kernel
theorem dX3_readHeight_39 : decode cX3_readHeight 39 = .ok (.iload_n 2, 1) := by decide +kernel
theorem dX3_readHeight_40 : decode cX3_readHeight 40 = .ok (.aload_n 0, 1) := by decide +kernel
theorem dX3_readHeight_41 : decode cX3_readHeight 41 = .ok (.getfield 28, 3) := by decide +kernel
theorem dX3_readHeight_44 : decode cX3_readHeight 44 = .ok (.iastore, 1) := by decide +kernel
theorem dX3_readHeight_45 : decode cX3_readHeight 45 = .ok (.aload_n 0, 1) := by decide +kernel
theorem dX3_readHeight_46 : decode cX3_readHeight 46 = .ok (.invokevirtual 31, 3) := by decide +kernel
theorem dX3_readHeight_49 : decode cX3_readHeight 49 = .ok (.iconst 1, 1) := by decide +kernel
theorem dX3_readHeight_50 : decode cX3_readHeight 50 = .ok (.ireturn, 1) := by decide +kernel
theorem dX3_readSpring_0 : decode cX3_readSpring 0 = .ok (.aload_n 0, 1) := by decide +kernel
theorem dX3_readSpring_1 : decode cX3_readSpring 1 = .ok (.invokevirtual 31, 3) := by decide +kernel
theorem dX3_readSpring_4 : decode cX3_readSpring 4 = .ok (.aload_n 0, 1) := by decide +kernel
theorem dX3_readSpring_5 : decode cX3_readSpring 5 = .ok (.bipush 24, 2) := by decide +kernel
theorem dX3_readSpring_7 : decode cX3_readSpring 7 = .ok (.invokevirtual 101, 3) := by decide +kernel
theorem dX3_readSpring_10 : decode cX3_readSpring 10 = .ok (.ifCond .ne 5, 3) := by decide +kernel
theorem dX3_readSpring_13 : decode cX3_readSpring 13 = .ok (.iconst 0, 1) := by decide +kernel
theorem dX3_readSpring_14 : decode cX3_readSpring 14 = .ok (.ireturn, 1) := by decide +kernel
theorem dX3_readSpring_15 : decode cX3_readSpring 15 = .ok (.aload_n 1, 1) := by decide +kernel
theorem dX3_readSpring_16 : decode cX3_readSpring 16 = .ok (.aload_n 0, 1) := by decide +kernel
theorem dX3_readSpring_17 : decode cX3_readSpring 17 = .ok (.getfield 28, 3) := by decide +kernel
theorem dX3_readSpring_20 : decode cX3_readSpring 20 = .ok (.iload_n 2, 1) := by decide +kernel
theorem dX3_readSpring_21 : decode cX3_readSpring 21 = .ok (.invokevirtual 121, 3) := by decide +kernel
theorem dX3_readSpring_24 : decode cX3_readSpring 24 = .ok (.aload_n 0, 1) := by decide +kernel
theorem dX3_readSpring_25 : decode cX3_readSpring 25 = .ok (.invokevirtual 31, 3) := by decide +kernel
theorem dX3_readSpring_28 : decode cX3_readSpring 28 = .ok (.iconst 1, 1) := by decide +kernel
theorem dX3_readSpring_29 : decode cX3_readSpring 29 = .ok (.ireturn, 1) := by decide +kernel
theorem dX3_isNumberTo_0 : decode cX3_isNumberTo 0 = .ok (.aload_n 0, 1) := by decide +kernel
theorem dX3_isNumberTo_1 : decode cX3_isNumberTo 1 = .ok (.getfield 19, 3) := by decide +kernel
theorem dX3_isNumberTo_4 : decode cX3_isNumberTo 4 = .ok (.iconst 2, 1) := by decide +kernel
theorem dX3_isNumberTo_5 : decode cX3_isNumberTo 5 = .ok (.if_icmp .ne 19, 3) := by decide +kernel
theorem dX3_isNumberTo_8 : decode cX3_isNumberTo 8 = .ok (.aload_n 0, 1) := by decide +kernel
theorem dX3_isNumberTo_9 : decode cX3_isNumberTo 9 = .ok (.getfield 28, 3) := by decide +kernel
theorem dX3_isNumberTo_12 : decode cX3_isNumberTo 12 = .ok (.iconst 0, 1) := by decide +kernel
theorem dX3_isNumberTo_13 : decode cX3_isNumberTo 13 = .ok (.iload_n 1, 1) := by decide +kernel
theorem dX3_isNumberTo_14 : decode cX3_isNumberTo 14 = .ok (.invokestatic 125, 3) := by decide +kernel
theorem dX3_isNumberTo_17 : decode cX3_isNumberTo 17 = .ok (.ifCond .eq 7, 3) := by decide +kernel
theorem dX3_isNumberTo_20 : decode cX3_isNumberTo 20 = .ok (.iconst 1, 1) := by decide +kernel
theorem dX3_isNumberTo_21 : decode cX3_isNumberTo 21 = .ok (.goto 4, 3) := by decide +kernel
theorem dX3_isNumberTo_24 : decode cX3_isNumberTo 24 = .ok (.iconst 0, 1) := by decide +kernel
theorem dX3_isNumberTo_25 : decode cX3_isNumberTo 25 = .ok (.ireturn, 1) := by decide +kernel
theorem dX3_isWord_0 : decode cX3_isWord 0 = .ok (.aload_n 0, 1) := by decide +kernel
theorem dX3_isWord_1 : decode cX3_isWord 1 = .ok (.getfield 19, 3) := by decide +kernel
theorem dX3_isWord_4 : decode cX3_isWord 4 = .ok (.iconst 1, 1) := by decide +kernel
theorem dX3_isWord_5 : decode cX3_isWord 5 = .ok (.if_icmp .ne 19, 3) := by decide +kernel
theorem dX3_isWord_8 : decode cX3_isWord 8 = .ok (.aload_n 0, 1) := by decide +kernel
theorem dX3_isWord_9 : decode cX3_isWord 9 = .ok (.getfield 25, 3) := by decide +kernel
theorem dX3_isWord_12 : decode cX3_isWord 12 = .ok (.aload_n 0, 1) := by decide +kernel
theorem dX3_isWord_13 : decode cX3_isWord 13 = .ok (.getfield 22, 3) := by decide +kernel
theorem dX3_isWord_16 : decode cX3_isWord 16 = .ok (.isub, 1) := by decide +kernel
theorem dX3_isWord_17 : decode cX3_isWord 17 = .ok (.aload_n 1, 1) := by decide +kernel
theorem dX3_isWord_18 : decode cX3_isWord 18 = .ok (.invokevirtual 129, 3) := by decide +kernel
theorem dX3_isWord_21 : decode cX3_isWord 21 = .ok (.if_icmp .eq 5, 3) := by decide +kernel
theorem dX3_isWord_24 : decode cX3_isWord 24 = .ok (.iconst 0, 1) := by decide +kernel
theorem dX3_isWord_25 : decode cX3_isWord 25 = .ok (.ireturn, 1) := by decide +kernel
theorem dX3_isWord_26 : decode cX3_isWord 26 = .ok (.iconst 0, 1) := by decide +kernel
theorem dX3_isWord_27 : decode cX3_isWord 27 = .ok (.istore_n 2, 1) := by decide +kernel
theorem dX3_isWord_28 : decode cX3_isWord 28 = .ok (.iload_n 2, 1) := by decide +kernel
theorem dX3_isWord_29 : decode cX3_isWord 29 = .ok (.aload_n 1, 1) := by decide +kernel
theorem dX3_isWord_30 : decode cX3_isWord 30 = .ok (.invokevirtual 129, 3) := by decide +kernel
theorem dX3_isWord_33 : decode cX3_isWord 33 = .ok (.if_icmp .ge 30, 3) := by decide +kernel
theorem dX3_isWord_36 : decode cX3_isWord 36 = .ok (.aload_n 0, 1) := by decide +kernel
theorem dX3_isWord_37 : decode cX3_isWord 37 = .ok (.getfield 9, 3) := by decide +kernel
theorem dX3_isWord_40 : decode cX3_isWord 40 = .ok (.aload_n 0, 1) := by decide +kernel
theorem dX3_isWord_41 : decode cX3_isWord 41 = .ok (.getfield 22, 3) := by decide +kernel
theorem dX3_isWord_44 : decode cX3_isWord 44 = .ok (.iload_n 2, 1) := by decide +kernel
theorem dX3_isWord_45 : decode cX3_isWord 45 = .ok (.iadd, 1) := by decide +kernel
theorem dX3_isWord_46 : decode cX3_isWord 46 = .ok (.iaload, 1) := by decide +kernel
theorem dX3_isWord_47 : decode cX3_isWord 47 = .ok (.aload_n 1, 1) := by decide +kernel
theorem dX3_isWord_48 : decode cX3_isWord 48 = .ok (.iload_n 2, 1) := by decide +kernel
theorem dX3_isWord_49 : decode cX3_isWord 49 = .ok (.invokevirtual 134, 3) := by decide +kernel
theorem dX3_isWord_52 : decode cX3_isWord 52 = .ok (.if_icmp .eq 5, 3) := by decide +kernel
theorem dX3_isWord_55 : decode cX3_isWord 55 = .ok (.iconst 0, 1) := by decide +kernel
theorem dX3_isWord_56 : decode cX3_isWord 56 = .ok (.ireturn, 1) := by decide +kernel
theorem dX3_isWord_57 : decode cX3_isWord 57 = .ok (.iinc 2 1, 3) := by decide +kernel
theorem dX3_isWord_60 : decode cX3_isWord 60 = .ok (.goto (-32), 3) := by decide +kernel
theorem dX3_isWord_63 : decode cX3_isWord 63 = .ok (.iconst 1, 1) := by decide +kernel
theorem dX3_isWord_64 : decode cX3_isWord 64 = .ok (.ireturn, 1) := by decide +kernel
theorem dX3_nextToken_0 : decode cX3_nextToken 0 = .ok (.aload_n 0, 1) := by decide +kernel
theorem dX3_nextToken_1 : decode cX3_nextToken 1 = .ok (.aload_n 0, 1) := by decide +kernel
theorem dX3_nextToken_2 : decode cX3_nextToken 2 = .ok (.getfield 25, 3) := by decide +kernel
theorem dX3_nextToken_5 : decode cX3_nextToken 5 = .ok (.putfield 22, 3) := by decide +kernel
theorem dX3_nextToken_8 : decode cX3_nextToken 8 = .ok (.aload_n 0, 1) := by decide +kernel
theorem dX3_nextToken_9 : decode cX3_nextToken 9 = .ok (.getfield 22, 3) := by decide +kernel
theorem dX3_nextToken_12 : decode cX3_nextToken 12 = .ok (.aload_n 0, 1) := by decide +kernel
theorem dX3_nextToken_13 : decode cX3_nextToken 13 = .ok (.getfield 15, 3) := by decide +kernel
theorem dX3_nextToken_16 : decode cX3_nextToken 16 = .ok (.if_icmp .ge 30, 3) := by decide +kernel
theorem dX3_nextToken_19 : decode cX3_nextToken 19 = .ok (.aload_n 0, 1) := by decide +kernel
theorem dX3_nextToken_20 : decode cX3_nextToken 20 = .ok (.getfield 9, 3) := by decide +kernel
theorem dX3_nextToken_23 : decode cX3_nextToken 23 = .ok (.aload_n 0, 1) := by decide +kernel
theorem dX3_nextToken_24 : decode cX3_nextToken 24 = .ok (.getfield 22, 3) := by decide +kernel
theorem dX3_nextToken_27 : decode cX3_nextToken 27 = .ok (.iaload, 1) := by decide +kernel
theorem dX3_nextToken_28 : decode cX3_nextToken 28 = .ok (.bipush 32, 2) := by decide +kernel
theorem dX3_nextToken_30 : decode cX3_nextToken 30 = .ok (.if_icmp .ne 16, 3) := by decide +kernel
theorem dX3_nextToken_33 : decode cX3_nextToken 33 = .ok (.aload_n 0, 1) := by decide +kernel
theorem dX3_nextToken_34 : decode cX3_nextToken 34 = .ok (.dup, 1) := by decide +kernel
theorem dX3_nextToken_35 : decode cX3_nextToken 35 = .ok (.getfield 22, 3) := by decide +kernel
theorem dX3_nextToken_38 : decode cX3_nextToken 38 = .ok (.iconst 1, 1) := by decide +kernel
theorem dX3_nextToken_39 : decode cX3_nextToken 39 = .ok (.iadd, 1) := by decide +kernel
theorem dX3_nextToken_40 : decode cX3_nextToken 40 = .ok (.putfield 22, 3) := by decide +kernel
theorem dX3_nextToken_43 : decode cX3_nextToken 43 = .ok (.goto (-35), 3) := by decide +kernel
theorem dX3_nextToken_46 : decode cX3_nextToken 46 = .ok (.aload_n 0, 1) := by decide +kernel
theorem dX3_nextToken_47 : decode cX3_nextToken 47 = .ok (.aload_n 0, 1) := by decide +kernel
theorem dX3_nextToken_48 : decode cX3_nextToken 48 = .ok (.getfield 22, 3) := by decide +kernel
theorem dX3_nextToken_51 : decode cX3_nextToken 51 = .ok (.putfield 25, 3) := by decide +kernel
theorem dX3_nextToken_54 : decode cX3_nextToken 54 = .ok (.aload_n 0, 1) := by decide +kernel
theorem dX3_nextToken_55 : decode cX3_nextToken 55 = .ok (.aload_n 0, 1) := by decide +kernel
theorem dX3_nextToken_56 : decode cX3_nextToken 56 = .ok (.aload_n 0, 1) := by decide +kernel
theorem dX3_nextToken_57 : decode cX3_nextToken 57 = .ok (.getfield 22, 3) := by decide +kernel
theorem dX3_nextToken_60 : decode cX3_nextToken 60 = .ok (.invokevirtual 138, 3) := by decide +kernel
theorem dX3_nextToken_63 : decode cX3_nextToken 63 = .ok (.putfield 19, 3) := by decide +kernel
theorem dX3_nextToken_66 : decode cX3_nextToken 66 = .ok (.aload_n 0, 1) := by decide +kernel
theorem dX3_nextToken_67 : decode cX3_nextToken 67 = .ok (.getfield 19, 3) := by decide +kernel
theorem dX3_nextToken_70 : decode cX3_nextToken 70 = .ok (.ifCond .ne 4, 3) := by decide +kernel
theorem dX3_nextToken_73 : decode cX3_nextToken 73 = .ok (.return_, 1) := by decide +kernel
theorem dX3_nextToken_74 : decode cX3_nextToken 74 = .ok (.aload_n 0, 1) := by decide +kernel
theorem dX3_nextToken_75 : decode cX3_nextToken 75 = .ok (.dup, 1) := by decide +kernel
theorem dX3_nextToken_76 : decode cX3_nextToken 76 = .ok (.getfield 25, 3) := by decide +kernel
theorem dX3_nextToken_79 : decode cX3_nextToken 79 = .ok (.iconst 1, 1) := by decide +kernel
theorem dX3_nextToken_80 : decode cX3_nextToken 80 = .ok (.iadd, 1) := by decide +kernel
theorem dX3_nextToken_81 : decode cX3_nextToken 81 = .ok (.putfield 25, 3) := by decide +kernel
theorem dX3_nextToken_84 : decode cX3_nextToken 84 = .ok (.aload_n 0, 1) := by decide +kernel
theorem dX3_nextToken_85 : decode cX3_nextToken 85 = .ok (.getfield 19, 3) := by decide +kernel
theorem dX3_nextToken_88 : decode cX3_nextToken 88 = .ok (.iconst 1, 1) := by decide +kernel
theorem dX3_nextToken_89 : decode cX3_nextToken 89 = .ok (.if_icmp .eq 11, 3) := by decide +kernel
theorem dX3_nextToken_92 : decode cX3_nextToken 92 = .ok (.aload_n 0, 1) := by decide +kernel
theorem dX3_nextToken_93 : decode cX3_nextToken 93 = .ok (.getfield 19, 3) := by decide +kernel
theorem dX3_nextToken_96 : decode cX3_nextToken 96 = .ok (.iconst 2, 1) := by decide +kernel
theorem dX3_nextToken_97 : decode cX3_nextToken 97 = .ok (.if_icmp .ne 42, 3) := by decide +kernel
theorem dX3_nextToken_100 : decode cX3_nextToken 100 = .ok (.aload_n 0, 1) := by decide +kernel
theorem dX3_nextToken_101 : decode cX3_nextToken 101 = .ok (.getfield 25, 3) := by decide +kernel
theorem dX3_nextToken_104 : decode cX3_nextToken 104 = .ok (.aload_n 0, 1) := by decide +kernel
theorem dX3_nextToken_105 : decode cX3_nextToken 105 = .ok (.getfield 15, 3) := by decide +kernel
theorem dX3_nextToken_108 : decode cX3_nextToken 108 = .ok (.if_icmp .ge 31, 3) := by decide +kernel
theorem dX3_nextToken_111 : decode cX3_nextToken 111 = .ok (.aload_n 0, 1) := by decide +kernel
theorem dX3_nextToken_112 : decode cX3_nextToken 112 = .ok (.aload_n 0, 1) := by decide +kernel
theorem dX3_nextToken_113 : decode cX3_nextToken 113 = .ok (.getfield 25, 3) := by decide +kernel
theorem dX3_nextToken_116 : decode cX3_nextToken 116 = .ok (.invokevirtual 138, 3) := by decide +kernel
theorem dX3_nextToken_119 : decode cX3_nextToken 119 = .ok (.aload_n 0, 1) := by decide +kernel
theorem dX3_nextToken_120 : decode cX3_nextToken 120 = .ok (.getfield 19, 3) := by decide +kernel
theorem dX3_nextToken_123 : decode cX3_nextToken 123 = .ok (.if_icmp .ne 16, 3) := by decide +kernel
theorem dX3_nextToken_126 : decode cX3_nextToken 126 = .ok (.aload_n 0, 1) := by decide +kernel
theorem dX3_nextToken_127 : decode cX3_nextToken 127 = .ok (.dup, 1) := by decide +kernel
theorem dX3_nextToken_128 : decode cX3_nextToken 128 = .ok (.getfield 25, 3) := by decide +kernel
theorem dX3_nextToken_131 : decode cX3_nextToken 131 = .ok (.iconst 1, 1) := by decide +kernel
theorem dX3_nextToken_132 : decode cX3_nextToken 132 = .ok (.iadd, 1) := by decide +kernel
theorem dX3_nextToken_133 : decode cX3_nextToken 133 = .ok (.putfield 25, 3) := by decide +kernel
theorem dX3_nextToken_136 : decode cX3_nextToken 136 = .ok (.goto (-52), 3) := by decide +kernel
theorem dX3_nextToken_139 : decode cX3_nextToken 139 = .ok (.aload_n 0, 1) := by decide +kernel
theorem dX3_nextToken_140 : decode cX3_nextToken 140 = .ok (.aload_n 0, 1) := by decide +kernel
theorem dX3_nextToken_141 : decode cX3_nextToken 141 = .ok (.getfield 19, 3) := by decide +kernel
theorem dX3_nextToken_144 : decode cX3_nextToken 144 = .ok (.iconst 2, 1) := by decide +kernel
theorem dX3_nextToken_145 : decode cX3_nextToken 145 = .ok (.if_icmp .ne 10, 3) := by decide +kernel
theorem dX3_nextToken_148 : decode cX3_nextToken 148 = .ok (.aload_n 0, 1) := by decide +kernel
theorem dX3_nextToken_149 : decode cX3_nextToken 149 = .ok (.invokevirtual 142, 3) := by decide +kernel
theorem dX3_nextToken_152 : decode cX3_nextToken 152 = .ok (.goto 4, 3) := by decide +kernel
theorem dX3_nextToken_155 : decode cX3_nextToken 155 = .ok (.iconst 0, 1) := by decide +kernel
theorem dX3_nextToken_156 : decode cX3_nextToken 156 = .ok (.putfield 28, 3) := by decide +kernel
theorem dX3_nextToken_159 : decode cX3_nextToken 159 = .ok (.return_, 1) := by decide +kernel
theorem dX3_sortAt_0 : decode cX3_sortAt 0 = .ok (.iload_n 1, 1) := by decide +kernel
theorem dX3_sortAt_1 : decode cX3_sortAt 1 = .ok (.aload_n 0, 1) := by decide +kernel
theorem dX3_sortAt_2 : decode cX3_sortAt 2 = .ok (.getfield 15, 3) := by decide +kernel
theorem dX3_sortAt_5 : decode cX3_sortAt 5 = .ok (.if_icmp .lt 5, 3) := by decide +kernel
theorem dX3_sortAt_8 : decode cX3_sortAt 8 = .ok (.iconst 0, 1) := by decide +kernel
theorem dX3_sortAt_9 : decode cX3_sortAt 9 = .ok (.ireturn, 1) := by decide +kernel
theorem dX3_sortAt_10 : decode cX3_sortAt 10 = .ok (.aload_n 0, 1) := by decide +kernel
theorem dX3_sortAt_11 : decode cX3_sortAt 11 = .ok (.getfield 9, 3) := by decide +kernel
theorem dX3_sortAt_14 : decode cX3_sortAt 14 = .ok (.iload_n 1, 1) := by decide +kernel
theorem dX3_sortAt_15 : decode cX3_sortAt 15 = .ok (.iaload, 1) := by decide +kernel
theorem dX3_sortAt_16 : decode cX3_sortAt 16 = .ok (.istore_n 2, 1) := by decide +kernel
theorem dX3_sortAt_17 : decode cX3_sortAt 17 = .ok (.iload_n 2, 1) := by decide +kernel
theorem dX3_sortAt_18 : decode cX3_sortAt 18 = .ok (.bipush 97, 2) := by decide +kernel
theorem dX3_sortAt_20 : decode cX3_sortAt 20 = .ok (.if_icmp .lt 11, 3) := by decide +kernel
theorem dX3_sortAt_23 : decode cX3_sortAt 23 = .ok (.iload_n 2, 1) := by decide +kernel
theorem dX3_sortAt_24 : decode cX3_sortAt 24 = .ok (.bipush 122, 2) := by decide +kernel
theorem dX3_sortAt_26 : decode cX3_sortAt 26 = .ok (.if_icmp .gt 5, 3) := by decide +kernel
theorem dX3_sortAt_29 : decode cX3_sortAt 29 = .ok (.iconst 1, 1) := by decide +kernel
theorem dX3_sortAt_30 : decode cX3_sortAt 30 = .ok (.ireturn, 1) := by decide +kernel
theorem dX3_sortAt_31 : decode cX3_sortAt 31 = .ok (.iload_n 2, 1) := by decide +kernel
theorem dX3_sortAt_32 : decode cX3_sortAt 32 = .ok (.bipush 48, 2) := by decide +kernel
theorem dX3_sortAt_34 : decode cX3_sortAt 34 = .ok (.if_icmp .lt 11, 3) := by decide +kernel
theorem dX3_sortAt_37 : decode cX3_sortAt 37 = .ok (.iload_n 2, 1) := by decide +kernel
theorem dX3_sortAt_38 : decode cX3_sortAt 38 = .ok (.bipush 57, 2) := by decide +kernel
theorem dX3_sortAt_40 : decode cX3_sortAt 40 = .ok (.if_icmp .gt 5, 3) := by decide +kernel
theorem dX3_sortAt_43 : decode cX3_sortAt 43 = .ok (.iconst 2, 1) := by decide +kernel
theorem dX3_sortAt_44 : decode cX3_sortAt 44 = .ok (.ireturn, 1) := by decide +kernel
theorem dX3_sortAt_45 : decode cX3_sortAt 45 = .ok (.iload_n 2, 1) := by decide +kernel
theorem dX3_sortAt_46 : decode cX3_sortAt 46 = .ok (.bipush 59, 2) := by decide +kernel
theorem dX3_sortAt_48 : decode cX3_sortAt 48 = .ok (.if_icmp .ne 7, 3) := by decide +kernel
theorem dX3_sortAt_51 : decode cX3_sortAt 51 = .ok (.iconst 3, 1) := by decide +kernel
theorem dX3_sortAt_52 : decode cX3_sortAt 52 = .ok (.goto 4, 3) := by decide +kernel
theorem dX3_sortAt_55 : decode cX3_sortAt 55 = .ok (.iconst 4, 1) := by decide +kernel
theorem dX3_sortAt_56 : decode cX3_sortAt 56 = .ok (.ireturn, 1) := by decide +kernel
theorem dX3_numberAtHand_0 : decode cX3_numberAtHand 0 = .ok (.iconst 0, 1) := by decide +kernel
theorem dX3_numberAtHand_1 : decode cX3_numberAtHand 1 = .ok (.istore_n 1, 1) := by decide +kernel
theorem dX3_numberAtHand_2 : decode cX3_numberAtHand 2 = .ok (.aload_n 0, 1) := by decide +kernel
theorem dX3_numberAtHand_3 : decode cX3_numberAtHand 3 = .ok (.getfield 22, 3) := by decide +kernel
theorem dX3_numberAtHand_6 : decode cX3_numberAtHand 6 = .ok (.istore_n 2, 1) := by decide +kernel
theorem dX3_numberAtHand_7 : decode cX3_numberAtHand 7 = .ok (.iload_n 2, 1) := by decide +kernel
theorem dX3_numberAtHand_8 : decode cX3_numberAtHand 8 = .ok (.aload_n 0, 1) := by decide +kernel
theorem dX3_numberAtHand_9 : decode cX3_numberAtHand 9 = .ok (.getfield 25, 3) := by decide +kernel
theorem dX3_numberAtHand_12 : decode cX3_numberAtHand 12 = .ok (.if_icmp .ge 31, 3) := by decide +kernel
theorem dX3_numberAtHand_15 : decode cX3_numberAtHand 15 = .ok (.iload_n 1, 1) := by decide +kernel
theorem dX3_numberAtHand_16 : decode cX3_numberAtHand 16 = .ok (.sipush 999, 3) := by decide +kernel
theorem dX3_numberAtHand_19 : decode cX3_numberAtHand 19 = .ok (.if_icmp .gt 18, 3) := by decide +kernel
theorem dX3_numberAtHand_22 : decode cX3_numberAtHand 22 = .ok (.iload_n 1, 1) := by decide +kernel
theorem dX3_numberAtHand_23 : decode cX3_numberAtHand 23 = .ok (.bipush 10, 2) := by decide +kernel
theorem dX3_numberAtHand_25 : decode cX3_numberAtHand 25 = .ok (.imul, 1) := by decide +kernel
theorem dX3_numberAtHand_26 : decode cX3_numberAtHand 26 = .ok (.aload_n 0, 1) := by decide +kernel
theorem dX3_numberAtHand_27 : decode cX3_numberAtHand 27 = .ok (.getfield 9, 3) := by decide +kernel
theorem dX3_numberAtHand_30 : decode cX3_numberAtHand 30 = .ok (.iload_n 2, 1) := by decide +kernel
theorem dX3_numberAtHand_31 : decode cX3_numberAtHand 31 = .ok (.iaload, 1) := by decide +kernel
theorem dX3_numberAtHand_32 : decode cX3_numberAtHand 32 = .ok (.iadd, 1) := by decide +kernel
theorem dX3_numberAtHand_33 : decode cX3_numberAtHand 33 = .ok (.bipush 48, 2) := by decide +kernel
theorem dX3_numberAtHand_35 : decode cX3_numberAtHand 35 = .ok (.isub, 1) := by decide +kernel
theorem dX3_numberAtHand_36 : decode cX3_numberAtHand 36 = .ok (.istore_n 1, 1) := by decide +kernel
theorem dX3_numberAtHand_37 : decode cX3_numberAtHand 37 = .ok (.iinc 2 1, 3) := by decide +kernel
theorem dX3_numberAtHand_40 : decode cX3_numberAtHand 40 = .ok (.goto (-33), 3) := by decide +kernel
theorem dX3_numberAtHand_43 : decode cX3_numberAtHand 43 = .ok (.iload_n 1, 1) := by decide +kernel
theorem dX3_numberAtHand_44 : decode cX3_numberAtHand 44 = .ok (.ireturn, 1) := by decide +kernel
theorem dX5_init_0 : decode cX5_init 0 = .ok (.aload_n 0, 1) := by decide +kernel
theorem dX5_init_1 : decode cX5_init 1 = .ok (.invokespecial 1, 3) := by decide +kernel
theorem dX5_init_4 : decode cX5_init 4 = .ok (.aload_n 0, 1) := by decide +kernel
theorem dX5_init_5 : decode cX5_init 5 = .ok (.new 7, 3) := by decide +kernel
theorem dX5_init_8 : decode cX5_init 8 = .ok (.dup, 1) := by decide +kernel
theorem dX5_init_9 : decode cX5_init 9 = .ok (.invokespecial 9, 3) := by decide +kernel
theorem dX5_init_12 : decode cX5_init 12 = .ok (.putfield 10, 3) := by decide +kernel
theorem dX5_init_15 : decode cX5_init 15 = .ok (.aload_n 0, 1) := by decide +kernel
theorem dX5_init_16 : decode cX5_init 16 = .ok (.new 7, 3) := by decide +kernel
theorem dX5_init_19 : decode cX5_init 19 = .ok (.dup, 1) := by decide +kernel
theorem dX5_init_20 : decode cX5_init 20 = .ok (.invokespecial 9, 3) := by decide +kernel
theorem dX5_init_23 : decode cX5_init 23 = .ok (.putfield 16, 3) := by decide +kernel
theorem dX5_init_26 : decode cX5_init 26 = .ok (.aload_n 0, 1) := by decide +kernel
theorem dX5_init_27 : decode cX5_init 27 = .ok (.new 7, 3) := by decide +kernel
theorem dX5_init_30 : decode cX5_init 30 = .ok (.dup, 1) := by decide +kernel
theorem dX5_init_31 : decode cX5_init 31 = .ok (.invokespecial 9, 3) := by decide +kernel
theorem dX5_init_34 : decode cX5_init 34 = .ok (.putfield 19, 3) := by decide +kernel
theorem dX5_init_37 : decode cX5_init 37 = .ok (.aload_n 0, 1) := by decide +kernel
theorem dX5_init_38 : decode cX5_init 38 = .ok (.new 22, 3) := by decide +kernel
theorem dX5_init_41 : decode cX5_init 41 = .ok (.dup, 1) := by decide +kernel
theorem dX5_init_42 : decode cX5_init 42 = .ok (.invokespecial 24, 3) := by decide +kernel
theorem dX5_init_45 : decode cX5_init 45 = .ok (.putfield 25, 3) := by decide +kernel
theorem dX5_init_48 : decode cX5_init 48 = .ok (.aload_n 0, 1) := by decide +kernel
theorem dX5_init_49 : decode cX5_init 49 = .ok (.new 29, 3) := by decide +kernel
theorem dX5_init_52 : decode cX5_init 52 = .ok (.dup, 1) := by decide +kernel
theorem dX5_init_53 : decode cX5_init 53 = .ok (.invokespecial 31, 3) := by decide +kernel
theorem dX5_init_56 : decode cX5_init 56 = .ok (.putfield 32, 3) := by decide +kernel
theorem dX5_init_59 : decode cX5_init 59 = .ok (.aload_n 0, 1) := by decide +kernel
theorem dX5_init_60 : decode cX5_init 60 = .ok (.iconst 4, 1) := by decide +kernel
theorem dX5_init_61 : decode cX5_init 61 = .ok (.anewarray 36, 3) := by decide +kernel
theorem dX5_init_64 : decode cX5_init 64 = .ok (.putfield 38, 3) := by decide +kernel
theorem dX5_init_67 : decode cX5_init 67 = .ok (.aload_n 0, 1) := by decide +kernel
theorem dX5_init_68 : decode cX5_init 68 = .ok (.bipush 7, 2) := by decide +kernel
theorem dX5_init_70 : decode cX5_init 70 = .ok (.newarray .int, 2) := by decide +kernel
theorem dX5_init_72 : decode cX5_init 72 = .ok (.putfield 42, 3) := by decide +kernel
theorem dX5_init_75 : decode cX5_init 75 = .ok (.aload_n 0, 1) := by decide +kernel
theorem dX5_init_76 : decode cX5_init 76 = .ok (.bipush 25, 2) := by decide +kernel
theorem dX5_init_78 : decode cX5_init 78 = .ok (.newarray .int, 2) := by decide +kernel
theorem dX5_init_80 : decode cX5_init 80 = .ok (.putfield 46, 3) := by decide +kernel
theorem dX5_init_83 : decode cX5_init 83 = .ok (.aload_n 0, 1) := by decide +kernel
theorem dX5_init_84 : decode cX5_init 84 = .ok (.iconst 0, 1) := by decide +kernel
theorem dX5_init_85 : decode cX5_init 85 = .ok (.putfield 49, 3) := by decide +kernel
theorem dX5_init_88 : decode cX5_init 88 = .ok (.iconst 0, 1) := by decide +kernel
theorem dX5_init_89 : decode cX5_init 89 = .ok (.istore_n 1, 1) := by decide +kernel
theorem dX5_init_90 : decode cX5_init 90 = .ok (.iload_n 1, 1) := by decide +kernel
theorem dX5_init_91 : decode cX5_init 91 = .ok (.iconst 4, 1) := by decide +kernel
theorem dX5_init_92 : decode cX5_init 92 = .ok (.if_icmp .ge 22, 3) := by decide +kernel
theorem dX5_init_95 : decode cX5_init 95 = .ok (.aload_n 0, 1) := by decide +kernel
theorem dX5_init_96 : decode cX5_init 96 = .ok (.getfield 38, 3) := by decide +kernel
theorem dX5_init_99 : decode cX5_init 99 = .ok (.iload_n 1, 1) := by decide +kernel
theorem dX5_init_100 : decode cX5_init 100 = .ok (.new 36, 3) := by decide +kernel
theorem dX5_init_103 : decode cX5_init 103 = .ok (.dup, 1) := by decide +kernel
theorem dX5_init_104 : decode cX5_init 104 = .ok (.invokespecial 53, 3) := by decide +kernel
theorem dX5_init_107 : decode cX5_init 107 = .ok (.aastore, 1) := by decide +kernel
theorem dX5_init_108 : decode cX5_init 108 = .ok (.iinc 1 1, 3) := by decide +kernel
theorem dX5_init_111 : decode cX5_init 111 = .ok (.goto (-21), 3) := by decide +kernel
theorem dX5_init_114 : decode cX5_init 114 = .ok (.return_, 1) := by decide +kernel
theorem dX5_height_0 : decode cX5_height 0 = .ok (.iload_n 1, 1) := by decide +kernel
theorem dX5_height_1 : decode cX5_height 1 = .ok (.invokestatic 54, 3) := by decide +kernel
theorem dX5_height_4 : decode cX5_height 4 = .ok (.ifCond .eq 10, 3) := by decide +kernel
theorem dX5_height_7 : decode cX5_height 7 = .ok (.iload_n 2, 1) := by decide +kernel
theorem dX5_height_8 : decode cX5_height 8 = .ok (.invokestatic 58, 3) := by decide +kernel
theorem dX5_height_11 : decode cX5_height 11 = .ok (.ifCond .ne 9, 3) := by decide +kernel
theorem dX5_height_14 : decode cX5_height 14 = .ok (.aload_n 0, 1) := by decide +kernel
theorem dX5_height_15 : decode cX5_height 15 = .ok (.iconst 0, 1) := by decide +kernel
theorem dX5_height_16 : decode cX5_height 16 = .ok (.invokevirtual 61, 3) := by decide +kernel
theorem dX5_height_19 : decode cX5_height 19 = .ok (.ireturn, 1) := by decide +kernel
theorem dX5_height_20 : decode cX5_height 20 = .ok (.aload_n 0, 1) := by decide +kernel
theorem dX5_height_21 : decode cX5_height 21 = .ok (.getfield 10, 3) := by decide +kernel
theorem dX5_height_24 : decode cX5_height 24 = .ok (.getfield 65, 3) := by decide +kernel
theorem dX5_height_27 : decode cX5_height 27 = .ok (.iload_n 1, 1) := by decide +kernel
theorem dX5_height_28 : decode cX5_height 28 = .ok (.iaload, 1) := by decide +kernel
theorem dX5_height_29 : decode cX5_height 29 = .ok (.istore_n 3, 1) := by decide +kernel
theorem dX5_height_30 : decode cX5_height 30 = .ok (.aload_n 0, 1) := by decide +kernel
theorem dX5_height_31 : decode cX5_height 31 = .ok (.getfield 10, 3) := by decide +kernel
theorem dX5_height_34 : decode cX5_height 34 = .ok (.getfield 65, 3) := by decide +kernel
theorem dX5_height_37 : decode cX5_height 37 = .ok (.iload_n 1, 1) := by decide +kernel
theorem dX5_height_38 : decode cX5_height 38 = .ok (.iload_n 2, 1) := by decide +kernel
theorem dX5_height_39 : decode cX5_height 39 = .ok (.iastore, 1) := by decide +kernel
theorem dX5_height_40 : decode cX5_height 40 = .ok (.iload_n 3, 1) := by decide +kernel
theorem dX5_height_41 : decode cX5_height 41 = .ok (.ireturn, 1) := by decide +kernel
theorem dX5_spring_0 : decode cX5_spring 0 = .ok (.iload_n 1, 1) := by decide +kernel
theorem dX5_spring_1 : decode cX5_spring 1 = .ok (.invokestatic 54, 3) := by decide +kernel
theorem dX5_spring_4 : decode cX5_spring 4 = .ok (.ifCond .eq 12, 3) := by decide +kernel
theorem dX5_spring_7 : decode cX5_spring 7 = .ok (.iload_n 2, 1) := by decide +kernel
theorem dX5_spring_8 : decode cX5_spring 8 = .ok (.iconst 0, 1) := by decide +kernel
theorem dX5_spring_9 : decode cX5_spring 9 = .ok (.iconst 1, 1) := by decide +kernel
theorem dX5_spring_10 : decode cX5_spring 10 = .ok (.invokestatic 68, 3) := by decide +kernel
theorem dX5_spring_13 : decode cX5_spring 13 = .ok (.ifCond .ne 9, 3) := by decide +kernel
theorem dX5_spring_16 : decode cX5_spring 16 = .ok (.aload_n 0, 1) := by decide +kernel
theorem dX5_spring_17 : decode cX5_spring 17 = .ok (.iconst 0, 1) := by decide +kernel
theorem dX5_spring_18 : decode cX5_spring 18 = .ok (.invokevirtual 61, 3) := by decide +kernel
theorem dX5_spring_21 : decode cX5_spring 21 = .ok (.ireturn, 1) := by decide +kernel
theorem dX5_spring_22 : decode cX5_spring 22 = .ok (.aload_n 0, 1) := by decide +kernel
theorem dX5_spring_23 : decode cX5_spring 23 = .ok (.getfield 10, 3) := by decide +kernel
theorem dX5_spring_26 : decode cX5_spring 26 = .ok (.iload_n 1, 1) := by decide +kernel
theorem dX5_spring_27 : decode cX5_spring 27 = .ok (.invokevirtual 72, 3) := by decide +kernel
theorem dX5_spring_30 : decode cX5_spring 30 = .ok (.istore_n 3, 1) := by decide +kernel
theorem dX5_spring_31 : decode cX5_spring 31 = .ok (.aload_n 0, 1) := by decide +kernel
theorem dX5_spring_32 : decode cX5_spring 32 = .ok (.getfield 10, 3) := by decide +kernel
theorem dX5_spring_35 : decode cX5_spring 35 = .ok (.iload_n 1, 1) := by decide +kernel
theorem dX5_spring_36 : decode cX5_spring 36 = .ok (.iload_n 2, 1) := by decide +kernel
theorem dX5_spring_37 : decode cX5_spring 37 = .ok (.invokevirtual 75, 3) := by decide +kernel
theorem dX5_spring_40 : decode cX5_spring 40 = .ok (.iload_n 3, 1) := by decide +kernel
theorem dX5_spring_41 : decode cX5_spring 41 = .ok (.ireturn, 1) := by decide +kernel
theorem dX5_cell_0 : decode cX5_cell 0 = .ok (.iload_n 1, 1) := by decide +kernel
theorem dX5_cell_1 : decode cX5_cell 1 = .ok (.invokestatic 54, 3) := by decide +kernel
theorem dX5_cell_4 : decode cX5_cell 4 = .ok (.ifCond .ne 9, 3) := by decide +kernel
theorem dX5_cell_7 : decode cX5_cell 7 = .ok (.aload_n 0, 1) := by decide +kernel
theorem dX5_cell_8 : decode cX5_cell 8 = .ok (.iconst 0, 1) := by decide +kernel
theorem dX5_cell_9 : decode cX5_cell 9 = .ok (.invokevirtual 61, 3) := by decide +kernel
theorem dX5_cell_12 : decode cX5_cell 12 = .ok (.ireturn, 1) := by decide +kernel
theorem dX5_cell_13 : decode cX5_cell 13 = .ok (.iload_n 2, 1) := by decide +kernel
theorem dX5_cell_14 : decode cX5_cell 14 = .ok (.tableswitch 67 0 3 #[30, 40, 49, 58], 30) := by decide +kernel
theorem dX5_cell_44 : decode cX5_cell 44 = .ok (.aload_n 0, 1) := by decide +kernel
theorem dX5_cell_45 : decode cX5_cell 45 = .ok (.getfield 10, 3) := by decide +kernel
theorem dX5_cell_48 : decode cX5_cell 48 = .ok (.getfield 65, 3) := by decide +kernel
theorem dX5_cell_51 : decode cX5_cell 51 = .ok (.iload_n 1, 1) := by decide +kernel
theorem dX5_cell_52 : decode cX5_cell 52 = .ok (.iaload, 1) := by decide +kernel
theorem dX5_cell_53 : decode cX5_cell 53 = .ok (.ireturn, 1) := by decide +kernel
theorem dX5_cell_54 : decode cX5_cell 54 = .ok (.aload_n 0, 1) := by decide +kernel
theorem dX5_cell_55 : decode cX5_cell 55 = .ok (.getfield 10, 3) := by decide +kernel
theorem dX5_cell_58 : decode cX5_cell 58 = .ok (.iload_n 1, 1) := by decide +kernel
theorem dX5_cell_59 : decode cX5_cell 59 = .ok (.invokevirtual 72, 3) := by decide +kernel
theorem dX5_cell_62 : decode cX5_cell 62 = .ok (.ireturn, 1) := by decide +kernel
theorem dX5_cell_63 : decode cX5_cell 63 = .ok (.aload_n 0, 1) := by decide +kernel
theorem dX5_cell_64 : decode cX5_cell 64 = .ok (.getfield 10, 3) := by decide +kernel
theorem dX5_cell_67 : decode cX5_cell 67 = .ok (.iload_n 1, 1) := by decide +kernel
theorem dX5_cell_68 : decode cX5_cell 68 = .ok (.invokevirtual 79, 3) := by decide +kernel
theorem dX5_cell_71 : decode cX5_cell 71 = .ok (.ireturn, 1) := by decide +kernel
theorem dX5_cell_72 : decode cX5_cell 72 = .ok (.aload_n 0, 1) := by decide +kernel
theorem dX5_cell_73 : decode cX5_cell 73 = .ok (.getfield 10, 3) := by decide +kernel
theorem dX5_cell_76 : decode cX5_cell 76 = .ok (.iload_n 1, 1) := by decide +kernel
theorem dX5_cell_77 : decode cX5_cell 77 = .ok (.invokevirtual 82, 3) := by decide +kernel
theorem dX5_cell_80 : decode cX5_cell 80 = .ok (.ireturn, 1) := by decide +kernel
theorem dX5_cell_81 : decode cX5_cell 81 = .ok (.aload_n 0, 1) := by decide +kernel
theorem dX5_cell_82 : decode cX5_cell 82 = .ok (.iconst 0, 1) := by decide +kernel
theorem dX5_cell_83 : decode cX5_cell 83 = .ok (.invokevirtual 61, 3) := by decide +kernel
theorem dX5_cell_86 : decode cX5_cell 86 = .ok (.ireturn, 1) := by decide +kernel
theorem dX5_tent_0 : decode cX5_tent 0 = .ok (.iload_n 1, 1) := by decide +kernel
theorem dX5_tent_1 : decode cX5_tent 1 = .ok (.invokestatic 85, 3) := by decide +kernel
theorem dX5_tent_4 : decode cX5_tent 4 = .ok (.ifCond .ne 9, 3) := by decide +kernel
theorem dX5_tent_7 : decode cX5_tent 7 = .ok (.aload_n 0, 1) := by decide +kernel
theorem dX5_tent_8 : decode cX5_tent 8 = .ok (.iconst 0, 1) := by decide +kernel
theorem dX5_tent_9 : decode cX5_tent 9 = .ok (.invokevirtual 61, 3) := by decide +kernel
theorem dX5_tent_12 : decode cX5_tent 12 = .ok (.ireturn, 1) := by decide +kernel
theorem dX5_tent_13 : decode cX5_tent 13 = .ok (.aload_n 0, 1) := by decide +kernel
theorem dX5_tent_14 : decode cX5_tent 14 = .ok (.getfield 10, 3) := by decide +kernel
theorem dX5_tent_17 : decode cX5_tent 17 = .ok (.getfield 88, 3) := by decide +kernel
theorem dX5_tent_20 : decode cX5_tent 20 = .ok (.bipush 6, 2) := by decide +kernel
theorem dX5_tent_22 : decode cX5_tent 22 = .ok (.if_icmp .lt 9, 3) := by decide +kernel
theorem dX5_tent_25 : decode cX5_tent 25 = .ok (.aload_n 0, 1) := by decide +kernel
theorem dX5_tent_26 : decode cX5_tent 26 = .ok (.iconst 1, 1) := by decide +kernel
theorem dX5_tent_27 : decode cX5_tent 27 = .ok (.invokevirtual 61, 3) := by decide +kernel
theorem dX5_tent_30 : decode cX5_tent 30 = .ok (.ireturn, 1) := by decide +kernel
theorem dX5_tent_31 : decode cX5_tent 31 = .ok (.aload_n 0, 1) := by decide +kernel
theorem dX5_tent_32 : decode cX5_tent 32 = .ok (.getfield 10, 3) := by decide +kernel
theorem dX5_tent_35 : decode cX5_tent 35 = .ok (.iload_n 1, 1) := by decide +kernel
theorem dX5_tent_36 : decode cX5_tent 36 = .ok (.invokevirtual 92, 3) := by decide +kernel
theorem dX5_tent_39 : decode cX5_tent 39 = .ok (.aload_n 0, 1) := by decide +kernel
theorem dX5_tent_40 : decode cX5_tent 40 = .ok (.getfield 10, 3) := by decide +kernel
theorem dX5_tent_43 : decode cX5_tent 43 = .ok (.getfield 88, 3) := by decide +kernel
theorem dX5_tent_46 : decode cX5_tent 46 = .ok (.iconst 1, 1) := by decide +kernel
theorem dX5_tent_47 : decode cX5_tent 47 = .ok (.isub, 1) := by decide +kernel
theorem dX5_tent_48 : decode cX5_tent 48 = .ok (.ireturn, 1) := by decide +kernel
theorem dX5_of_0 : decode cX5_of 0 = .ok (.aload_n 0, 1) := by decide +kernel
theorem dX5_of_1 : decode cX5_of 1 = .ok (.iload_n 1, 1) := by decide +kernel
theorem dX5_of_2 : decode cX5_of 2 = .ok (.invokevirtual 96, 3) := by decide +kernel
theorem dX5_of_5 : decode cX5_of 5 = .ok (.ifCond .eq 13, 3) := by decide +kernel
theorem dX5_of_8 : decode cX5_of 8 = .ok (.iload_n 2, 1) := by decide +kernel
theorem dX5_of_9 : decode cX5_of 9 = .ok (.iconst 0, 1) := by decide +kernel
theorem dX5_of_10 : decode cX5_of 10 = .ok (.bipush 7, 2) := by decide +kernel
theorem dX5_of_12 : decode cX5_of 12 = .ok (.invokestatic 68, 3) := by decide +kernel
theorem dX5_of_15 : decode cX5_of 15 = .ok (.ifCond .ne 9, 3) := by decide +kernel
theorem dX5_of_18 : decode cX5_of 18 = .ok (.aload_n 0, 1) := by decide +kernel
theorem dX5_of_19 : decode cX5_of 19 = .ok (.iconst 0, 1) := by decide +kernel
theorem dX5_of_20 : decode cX5_of 20 = .ok (.invokevirtual 61, 3) := by decide +kernel
theorem dX5_of_23 : decode cX5_of 23 = .ok (.ireturn, 1) := by decide +kernel
theorem dX5_of_24 : decode cX5_of 24 = .ok (.aload_n 0, 1) := by decide +kernel
theorem dX5_of_25 : decode cX5_of 25 = .ok (.getfield 10, 3) := by decide +kernel
theorem dX5_of_28 : decode cX5_of 28 = .ok (.getfield 99, 3) := by decide +kernel
theorem dX5_of_31 : decode cX5_of 31 = .ok (.iload_n 1, 1) := by decide +kernel
theorem dX5_of_32 : decode cX5_of 32 = .ok (.aaload, 1) := by decide +kernel
theorem dX5_of_33 : decode cX5_of 33 = .ok (.iload_n 2, 1) := by decide +kernel
theorem dX5_of_34 : decode cX5_of 34 = .ok (.invokevirtual 103, 3) := by decide +kernel
theorem dX5_of_37 : decode cX5_of 37 = .ok (.ireturn, 1) := by decide +kernel
theorem dX5_change_0 : decode cX5_change 0 = .ok (.aload_n 0, 1) := by decide +kernel
theorem dX5_change_1 : decode cX5_change 1 = .ok (.iload_n 1, 1) := by decide +kernel
theorem dX5_change_2 : decode cX5_change 2 = .ok (.invokevirtual 96, 3) := by decide +kernel
theorem dX5_change_5 : decode cX5_change 5 = .ok (.ifCond .eq 11, 3) := by decide +kernel
theorem dX5_change_8 : decode cX5_change 8 = .ok (.iload_n 2, 1) := by decide +kernel
theorem dX5_change_9 : decode cX5_change 9 = .ok (.iload_n 3, 1) := by decide +kernel
theorem dX5_change_10 : decode cX5_change 10 = .ok (.invokestatic 108, 3) := by decide +kernel
theorem dX5_change_13 : decode cX5_change 13 = .ok (.ifCond .ne 9, 3) := by decide +kernel
theorem dX5_change_16 : decode cX5_change 16 = .ok (.aload_n 0, 1) := by decide +kernel
theorem dX5_change_17 : decode cX5_change 17 = .ok (.iconst 0, 1) := by decide +kernel
theorem dX5_change_18 : decode cX5_change 18 = .ok (.invokevirtual 61, 3) := by decide +kernel
theorem dX5_change_21 : decode cX5_change 21 = .ok (.ireturn, 1) := by decide +kernel
theorem dX5_change_22 : decode cX5_change 22 = .ok (.aload_n 0, 1) := by decide +kernel
theorem dX5_change_23 : decode cX5_change 23 = .ok (.getfield 10, 3) := by decide +kernel
theorem dX5_change_26 : decode cX5_change 26 = .ok (.getfield 99, 3) := by decide +kernel
theorem dX5_change_29 : decode cX5_change 29 = .ok (.iload_n 1, 1) := by decide +kernel
theorem dX5_change_30 : decode cX5_change 30 = .ok (.aaload, 1) := by decide +kernel
theorem dX5_change_31 : decode cX5_change 31 = .ok (.iload_n 2, 1) := by decide +kernel
theorem dX5_change_32 : decode cX5_change 32 = .ok (.invokevirtual 103, 3) := by decide +kernel
theorem dX5_change_35 : decode cX5_change 35 = .ok (.istore 4, 2) := by decide +kernel
theorem dX5_change_37 : decode cX5_change 37 = .ok (.aload_n 0, 1) := by decide +kernel
theorem dX5_change_38 : decode cX5_change 38 = .ok (.getfield 10, 3) := by decide +kernel
theorem dX5_change_41 : decode cX5_change 41 = .ok (.getfield 99, 3) := by decide +kernel
theorem dX5_change_44 : decode cX5_change 44 = .ok (.iload_n 1, 1) := by decide +kernel
theorem dX5_change_45 : decode cX5_change 45 = .ok (.aaload, 1) := by decide +kernel
theorem dX5_change_46 : decode cX5_change 46 = .ok (.iload_n 2, 1) := by decide +kernel
theorem dX5_change_47 : decode cX5_change 47 = .ok (.iload_n 3, 1) := by decide +kernel
theorem dX5_change_48 : decode cX5_change 48 = .ok (.invokevirtual 112, 3) := by decide +kernel
theorem dX5_change_51 : decode cX5_change 51 = .ok (.iload 4, 2) := by decide +kernel
theorem dX5_change_53 : decode cX5_change 53 = .ok (.ireturn, 1) := by decide +kernel
theorem dX5_beat_0 : decode cX5_beat 0 = .ok (.aload_n 0, 1) := by decide +kernel
theorem dX5_beat_1 : decode cX5_beat 1 = .ok (.iload_n 1, 1) := by decide +kernel
theorem dX5_beat_2 : decode cX5_beat 2 = .ok (.invokevirtual 96, 3) := by decide +kernel
theorem dX5_beat_5 : decode cX5_beat 5 = .ok (.ifCond .ne 9, 3) := by decide +kernel
theorem dX5_beat_8 : decode cX5_beat 8 = .ok (.aload_n 0, 1) := by decide +kernel
theorem dX5_beat_9 : decode cX5_beat 9 = .ok (.iconst 0, 1) := by decide +kernel
theorem dX5_beat_10 : decode cX5_beat 10 = .ok (.invokevirtual 61, 3) := by decide +kernel
theorem dX5_beat_13 : decode cX5_beat 13 = .ok (.ireturn, 1) := by decide +kernel
theorem dX5_beat_14 : decode cX5_beat 14 = .ok (.aload_n 0, 1) := by decide +kernel
theorem dX5_beat_15 : decode cX5_beat 15 = .ok (.getfield 10, 3) := by decide +kernel
theorem dX5_beat_18 : decode cX5_beat 18 = .ok (.getfield 99, 3) := by decide +kernel
theorem dX5_beat_21 : decode cX5_beat 21 = .ok (.iload_n 1, 1) := by decide +kernel
theorem dX5_beat_22 : decode cX5_beat 22 = .ok (.aaload, 1) := by decide +kernel
theorem dX5_beat_23 : decode cX5_beat 23 = .ok (.invokevirtual 115, 3) := by decide +kernel
theorem dX5_beat_26 : decode cX5_beat 26 = .ok (.ireturn, 1) := by decide +kernel
theorem dX5_go_0 : decode cX5_go 0 = .ok (.iload_n 1, 1) := by decide +kernel
theorem dX5_go_1 : decode cX5_go 1 = .ok (.iconst 1, 1) := by decide +kernel
theorem dX5_go_2 : decode cX5_go 2 = .ok (.bipush 60, 2) := by decide +kernel
theorem dX5_go_4 : decode cX5_go 4 = .ok (.invokestatic 68, 3) := by decide +kernel
theorem dX5_go_7 : decode cX5_go 7 = .ok (.ifCond .ne 9, 3) := by decide +kernel
theorem dX5_go_10 : decode cX5_go 10 = .ok (.aload_n 0, 1) := by decide +kernel
theorem dX5_go_11 : decode cX5_go 11 = .ok (.iconst 0, 1) := by decide +kernel
theorem dX5_go_12 : decode cX5_go 12 = .ok (.invokevirtual 61, 3) := by decide +kernel
theorem dX5_go_15 : decode cX5_go 15 = .ok (.ireturn, 1) := by decide +kernel
theorem dX5_go_16 : decode cX5_go 16 = .ok (.aload_n 0, 1) := by decide +kernel
theorem dX5_go_17 : decode cX5_go 17 = .ok (.getfield 10, 3) := by decide +kernel
theorem dX5_go_20 : decode cX5_go 20 = .ok (.getfield 119, 3) := by decide +kernel
theorem dX5_go_23 : decode cX5_go 23 = .ok (.iload_n 1, 1) := by decide +kernel
theorem dX5_go_24 : decode cX5_go 24 = .ok (.iadd, 1) := by decide +kernel
theorem dX5_go_25 : decode cX5_go 25 = .ok (.ldc 122, 2) := by decide +kernel
theorem dX5_go_27 : decode cX5_go 27 = .ok (.if_icmp .le 9, 3) := by decide +kernel
theorem dX5_go_30 : decode cX5_go 30 = .ok (.aload_n 0, 1) := by decide +kernel
theorem dX5_go_31 : decode cX5_go 31 = .ok (.iconst 4, 1) := by decide +kernel
theorem dX5_go_32 : decode cX5_go 32 = .ok (.invokevirtual 61, 3) := by decide +kernel
theorem dX5_go_35 : decode cX5_go 35 = .ok (.ireturn, 1) := by decide +kernel
theorem dX5_go_36 : decode cX5_go 36 = .ok (.aload_n 0, 1) := by decide +kernel
theorem dX5_go_37 : decode cX5_go 37 = .ok (.getfield 10, 3) := by decide +kernel
theorem dX5_go_40 : decode cX5_go 40 = .ok (.iload_n 1, 1) := by decide +kernel
theorem dX5_go_41 : decode cX5_go 41 = .ok (.invokevirtual 123, 3) := by decide +kernel
theorem dX5_go_44 : decode cX5_go 44 = .ok (.aload_n 0, 1) := by decide +kernel
theorem dX5_go_45 : decode cX5_go 45 = .ok (.getfield 10, 3) := by decide +kernel
theorem dX5_go_48 : decode cX5_go 48 = .ok (.invokevirtual 126, 3) := by decide +kernel
theorem dX5_go_51 : decode cX5_go 51 = .ok (.ireturn, 1) := by decide +kernel
theorem dX5_now_0 : decode cX5_now 0 = .ok (.iload_n 1, 1) := by decide +kernel
theorem dX5_now_1 : decode cX5_now 1 = .ok (.tableswitch 87 0 5 #[39, 47, 55, 63, 71, 79], 39) := by decide +kernel
theorem dX5_now_40 : decode cX5_now 40 = .ok (.aload_n 0, 1) := by decide +kernel
theorem dX5_now_41 : decode cX5_now 41 = .ok (.getfield 10, 3) := by decide +kernel
theorem dX5_now_44 : decode cX5_now 44 = .ok (.getfield 119, 3) := by decide +kernel
theorem dX5_now_47 : decode cX5_now 47 = .ok (.ireturn, 1) := by decide +kernel
theorem dX5_now_48 : decode cX5_now 48 = .ok (.aload_n 0, 1) := by decide +kernel
theorem dX5_now_49 : decode cX5_now 49 = .ok (.getfield 10, 3) := by decide +kernel
theorem dX5_now_52 : decode cX5_now 52 = .ok (.invokevirtual 126, 3) := by decide +kernel
theorem dX5_now_55 : decode cX5_now 55 = .ok (.ireturn, 1) := by decide +kernel
theorem dX5_now_56 : decode cX5_now 56 = .ok (.aload_n 0, 1) := by decide +kernel
theorem dX5_now_57 : decode cX5_now 57 = .ok (.getfield 10, 3) := by decide +kernel
theorem dX5_now_60 : decode cX5_now 60 = .ok (.getfield 129, 3) := by decide +kernel
theorem dX5_now_63 : decode cX5_now 63 = .ok (.ireturn, 1) := by decide +kernel
theorem dX5_now_64 : decode cX5_now 64 = .ok (.aload_n 0, 1) := by decide +kernel
theorem dX5_now_65 : decode cX5_now 65 = .ok (.getfield 10, 3) := by decide +kernel
theorem dX5_now_68 : decode cX5_now 68 = .ok (.invokevirtual 132, 3) := by decide +kernel
theorem dX5_now_71 : decode cX5_now 71 = .ok (.ireturn, 1) := by decide +kernel
theorem dX5_now_72 : decode cX5_now 72 = .ok (.aload_n 0, 1) := by decide +kernel
theorem dX5_now_73 : decode cX5_now 73 = .ok (.getfield 10, 3) := by decide +kernel
theorem dX5_now_76 : decode cX5_now 76 = .ok (.invokevirtual 135, 3) := by decide +kernel
theorem dX5_now_79 : decode cX5_now 79 = .ok (.ireturn, 1) := by decide +kernel
theorem dX5_now_80 : decode cX5_now 80 = .ok (.aload_n 0, 1) := by decide +kernel
theorem dX5_now_81 : decode cX5_now 81 = .ok (.getfield 10, 3) := by decide +kernel
theorem dX5_now_84 : decode cX5_now 84 = .ok (.invokevirtual 138, 3) := by decide +kernel
theorem dX5_now_87 : decode cX5_now 87 = .ok (.ireturn, 1) := by decide +kernel
theorem dX5_now_88 : decode cX5_now 88 = .ok (.aload_n 0, 1) := by decide +kernel
theorem dX5_now_89 : decode cX5_now 89 = .ok (.iconst 0, 1) := by decide +kernel
theorem dX5_now_90 : decode cX5_now 90 = .ok (.invokevirtual 61, 3) := by decide +kernel
theorem dX5_now_93 : decode cX5_now 93 = .ok (.ireturn, 1) := by decide +kernel
theorem dX5_way_0 : decode cX5_way 0 = .ok (.iload_n 1, 1) := by decide +kernel
theorem dX5_way_1 : decode cX5_way 1 = .ok (.invokestatic 54, 3) := by decide +kernel
theorem dX5_way_4 : decode cX5_way 4 = .ok (.ifCond .eq 17, 3) := by decide +kernel
theorem dX5_way_7 : decode cX5_way 7 = .ok (.iload_n 2, 1) := by decide +kernel
theorem dX5_way_8 : decode cX5_way 8 = .ok (.invokestatic 54, 3) := by decide +kernel
theorem dX5_way_11 : decode cX5_way 11 = .ok (.ifCond .eq 10, 3) := by decide +kernel
theorem dX5_way_14 : decode cX5_way 14 = .ok (.iload_n 3, 1) := by decide +kernel
theorem dX5_way_15 : decode cX5_way 15 = .ok (.invokestatic 58, 3) := by decide +kernel
theorem dX5_way_18 : decode cX5_way 18 = .ok (.ifCond .ne 9, 3) := by decide +kernel
theorem dX5_way_21 : decode cX5_way 21 = .ok (.aload_n 0, 1) := by decide +kernel
theorem dX5_way_22 : decode cX5_way 22 = .ok (.iconst 0, 1) := by decide +kernel
theorem dX5_way_23 : decode cX5_way 23 = .ok (.invokevirtual 61, 3) := by decide +kernel
theorem dX5_way_26 : decode cX5_way 26 = .ok (.ireturn, 1) := by decide +kernel
theorem dX5_way_27 : decode cX5_way 27 = .ok (.aload_n 0, 1) := by decide +kernel
theorem dX5_way_28 : decode cX5_way 28 = .ok (.getfield 25, 3) := by decide +kernel
theorem dX5_way_31 : decode cX5_way 31 = .ok (.aload_n 0, 1) := by decide +kernel
theorem dX5_way_32 : decode cX5_way 32 = .ok (.getfield 10, 3) := by decide +kernel
theorem dX5_way_35 : decode cX5_way 35 = .ok (.iload_n 1, 1) := by decide +kernel
theorem dX5_way_36 : decode cX5_way 36 = .ok (.iload_n 2, 1) := by decide +kernel
theorem dX5_way_37 : decode cX5_way 37 = .ok (.iload_n 3, 1) := by decide +kernel
theorem dX5_way_38 : decode cX5_way 38 = .ok (.invokevirtual 141, 3) := by decide +kernel
theorem dX5_way_41 : decode cX5_way 41 = .ok (.istore 4, 2) := by decide +kernel
theorem dX5_way_43 : decode cX5_way 43 = .ok (.iload 4, 2) := by decide +kernel
theorem dX5_way_45 : decode cX5_way 45 = .ok (.iconst (-1), 1) := by decide +kernel
theorem dX5_way_46 : decode cX5_way 46 = .ok (.if_icmp .ne 11, 3) := by decide +kernel
theorem dX5_way_49 : decode cX5_way 49 = .ok (.aload_n 0, 1) := by decide +kernel
theorem dX5_way_50 : decode cX5_way 50 = .ok (.iconst 3, 1) := by decide +kernel
theorem dX5_way_51 : decode cX5_way 51 = .ok (.invokevirtual 61, 3) := by decide +kernel
theorem dX5_way_54 : decode cX5_way 54 = .ok (.goto 5, 3) := by decide +kernel
theorem dX5_way_57 : decode cX5_way 57 = .ok (.iload 4, 2) := by decide +kernel
theorem dX5_way_59 : decode cX5_way 59 = .ok (.ireturn, 1) := by decide +kernel
theorem dX5_climb_0 : decode cX5_climb 0 = .ok (.iload_n 1, 1) := by decide +kernel
theorem dX5_climb_1 : decode cX5_climb 1 = .ok (.invokestatic 54, 3) := by decide +kernel
theorem dX5_climb_4 : decode cX5_climb 4 = .ok (.ifCond .eq 10, 3) := by decide +kernel
theorem dX5_climb_7 : decode cX5_climb 7 = .ok (.iload_n 2, 1) := by decide +kernel
theorem dX5_climb_8 : decode cX5_climb 8 = .ok (.invokestatic 54, 3) := by decide +kernel
theorem dX5_climb_11 : decode cX5_climb 11 = .ok (.ifCond .ne 9, 3) := by decide +kernel
theorem dX5_climb_14 : decode cX5_climb 14 = .ok (.aload_n 0, 1) := by decide +kernel
theorem dX5_climb_15 : decode cX5_climb 15 = .ok (.iconst 0, 1) := by decide +kernel
theorem dX5_climb_16 : decode cX5_climb 16 = .ok (.invokevirtual 61, 3) := by decide +kernel
theorem dX5_climb_19 : decode cX5_climb 19 = .ok (.ireturn, 1) := by decide +kernel
theorem dX5_climb_20 : decode cX5_climb 20 = .ok (.aload_n 0, 1) := by decide +kernel
theorem dX5_climb_21 : decode cX5_climb 21 = .ok (.getfield 25, 3) := by decide +kernel
theorem dX5_climb_24 : decode cX5_climb 24 = .ok (.aload_n 0, 1) := by decide +kernel
theorem dX5_climb_25 : decode cX5_climb 25 = .ok (.getfield 10, 3) := by decide +kernel
theorem dX5_climb_28 : decode cX5_climb 28 = .ok (.iload_n 1, 1) := by decide +kernel
theorem dX5_climb_29 : decode cX5_climb 29 = .ok (.iload_n 2, 1) := by decide +kernel
theorem dX5_climb_30 : decode cX5_climb 30 = .ok (.invokevirtual 145, 3) := by decide +kernel
theorem dX5_climb_33 : decode cX5_climb 33 = .ok (.ireturn, 1) := by decide +kernel
theorem dX5_reach_0 : decode cX5_reach 0 = .ok (.iload_n 1, 1) := by decide +kernel
theorem dX5_reach_1 : decode cX5_reach 1 = .ok (.invokestatic 54, 3) := by decide +kernel
theorem dX5_reach_4 : decode cX5_reach 4 = .ok (.ifCond .eq 10, 3) := by decide +kernel
theorem dX5_reach_7 : decode cX5_reach 7 = .ok (.iload_n 2, 1) := by decide +kernel
theorem dX5_reach_8 : decode cX5_reach 8 = .ok (.invokestatic 58, 3) := by decide +kernel
theorem dX5_reach_11 : decode cX5_reach 11 = .ok (.ifCond .ne 9, 3) := by decide +kernel
theorem dX5_reach_14 : decode cX5_reach 14 = .ok (.aload_n 0, 1) := by decide +kernel
theorem dX5_reach_15 : decode cX5_reach 15 = .ok (.iconst 0, 1) := by decide +kernel
theorem dX5_reach_16 : decode cX5_reach 16 = .ok (.invokevirtual 61, 3) := by decide +kernel
theorem dX5_reach_19 : decode cX5_reach 19 = .ok (.ireturn, 1) := by decide +kernel
theorem dX5_reach_20 : decode cX5_reach 20 = .ok (.aload_n 0, 1) := by decide +kernel
theorem dX5_reach_21 : decode cX5_reach 21 = .ok (.getfield 25, 3) := by decide +kernel
theorem dX5_reach_24 : decode cX5_reach 24 = .ok (.aload_n 0, 1) := by decide +kernel
theorem dX5_reach_25 : decode cX5_reach 25 = .ok (.getfield 10, 3) := by decide +kernel
theorem dX5_reach_28 : decode cX5_reach 28 = .ok (.iload_n 1, 1) := by decide +kernel
theorem dX5_reach_29 : decode cX5_reach 29 = .ok (.iload_n 2, 1) := by decide +kernel
theorem dX5_reach_30 : decode cX5_reach 30 = .ok (.invokevirtual 149, 3) := by decide +kernel
theorem dX5_reach_33 : decode cX5_reach 33 = .ok (.aload_n 0, 1) := by decide +kernel
theorem dX5_reach_34 : decode cX5_reach 34 = .ok (.getfield 25, 3) := by decide +kernel
theorem dX5_reach_37 : decode cX5_reach 37 = .ok (.invokevirtual 153, 3) := by decide +kernel
theorem dX5_reach_40 : decode cX5_reach 40 = .ok (.ireturn, 1) := by decide +kernel
theorem dX5_drink_0 : decode cX5_drink 0 = .ok (.iload_n 1, 1) := by decide +kernel
theorem dX5_drink_1 : decode cX5_drink 1 = .ok (.invokestatic 54, 3) := by decide +kernel
theorem dX5_drink_4 : decode cX5_drink 4 = .ok (.ifCond .eq 10, 3) := by decide +kernel
theorem dX5_drink_7 : decode cX5_drink 7 = .ok (.iload_n 2, 1) := by decide +kernel
theorem dX5_drink_8 : decode cX5_drink 8 = .ok (.invokestatic 58, 3) := by decide +kernel
theorem dX5_drink_11 : decode cX5_drink 11 = .ok (.ifCond .ne 9, 3) := by decide +kernel
theorem dX5_drink_14 : decode cX5_drink 14 = .ok (.aload_n 0, 1) := by decide +kernel
theorem dX5_drink_15 : decode cX5_drink 15 = .ok (.iconst 0, 1) := by decide +kernel
theorem dX5_drink_16 : decode cX5_drink 16 = .ok (.invokevirtual 61, 3) := by decide +kernel
theorem dX5_drink_19 : decode cX5_drink 19 = .ok (.ireturn, 1) := by decide +kernel
theorem dX5_drink_20 : decode cX5_drink 20 = .ok (.aload_n 0, 1) := by decide +kernel
theorem dX5_drink_21 : decode cX5_drink 21 = .ok (.getfield 25, 3) := by decide +kernel
theorem dX5_drink_24 : decode cX5_drink 24 = .ok (.aload_n 0, 1) := by decide +kernel
theorem dX5_drink_25 : decode cX5_drink 25 = .ok (.getfield 10, 3) := by decide +kernel
theorem dX5_drink_28 : decode cX5_drink 28 = .ok (.iload_n 1, 1) := by decide +kernel
theorem dX5_drink_29 : decode cX5_drink 29 = .ok (.iload_n 2, 1) := by decide +kernel
theorem dX5_drink_30 : decode cX5_drink 30 = .ok (.invokevirtual 149, 3) := by decide +kernel
theorem dX5_drink_33 : decode cX5_drink 33 = .ok (.aload_n 0, 1) := by decide +kernel
theorem dX5_drink_34 : decode cX5_drink 34 = .ok (.getfield 25, 3) := by decide +kernel
theorem dX5_drink_37 : decode cX5_drink 37 = .ok (.aload_n 0, 1) := by decide +kernel
theorem dX5_drink_38 : decode cX5_drink 38 = .ok (.getfield 10, 3) := by decide +kernel
theorem dX5_drink_41 : decode cX5_drink 41 = .ok (.getfield 129, 3) := by decide +kernel
theorem dX5_drink_44 : decode cX5_drink 44 = .ok (.invokevirtual 156, 3) := by decide +kernel
theorem dX5_drink_47 : decode cX5_drink 47 = .ok (.istore_n 3, 1) := by decide +kernel
theorem dX5_drink_48 : decode cX5_drink 48 = .ok (.iload_n 3, 1) := by decide +kernel
theorem dX5_drink_49 : decode cX5_drink 49 = .ok (.iconst (-1), 1) := by decide +kernel
theorem dX5_drink_50 : decode cX5_drink 50 = .ok (.if_icmp .ne 11, 3) := by decide +kernel
theorem dX5_drink_53 : decode cX5_drink 53 = .ok (.aload_n 0, 1) := by decide +kernel
end
section
theorem dX5_drink_54 : decode cX5_drink 54 = .ok (.iconst 3, 1) := by decide +kernel
theorem dX5_drink_55 : decode cX5_drink 55 = .ok (.invokevirtual 61, 3) := by decide +kernel
theorem dX5_drink_58 : decode cX5_drink 58 = .ok (.goto 4, 3) := by decide +kernel
theorem dX5_drink_61 : decode cX5_drink 61 = .ok (.iload_n 3, 1) := by decide +kernel
theorem dX5_drink_62 : decode cX5_drink 62 = .ok (.ireturn, 1) := by decide +kernel
theorem dX5_ahead_0 : decode cX5_ahead 0 = .ok (.iload_n 1, 1) := by decide +kernel
theorem dX5_ahead_1 : decode cX5_ahead 1 = .ok (.invokestatic 54, 3) := by decide +kernel
theorem dX5_ahead_4 : decode cX5_ahead 4 = .ok (.ifCond .eq 13, 3) := by decide +kernel
theorem dX5_ahead_7 : decode cX5_ahead 7 = .ok (.iload_n 2, 1) := by decide +kernel
theorem dX5_ahead_8 : decode cX5_ahead 8 = .ok (.iconst 0, 1) := by decide +kernel
theorem dX5_ahead_9 : decode cX5_ahead 9 = .ok (.bipush 100, 2) := by decide +kernel
theorem dX5_ahead_11 : decode cX5_ahead 11 = .ok (.invokestatic 68, 3) := by decide +kernel
theorem dX5_ahead_14 : decode cX5_ahead 14 = .ok (.ifCond .ne 9, 3) := by decide +kernel
theorem dX5_ahead_17 : decode cX5_ahead 17 = .ok (.aload_n 0, 1) := by decide +kernel
theorem dX5_ahead_18 : decode cX5_ahead 18 = .ok (.iconst 0, 1) := by decide +kernel
theorem dX5_ahead_19 : decode cX5_ahead 19 = .ok (.invokevirtual 61, 3) := by decide +kernel
theorem dX5_ahead_22 : decode cX5_ahead 22 = .ok (.ireturn, 1) := by decide +kernel
theorem dX5_ahead_23 : decode cX5_ahead 23 = .ok (.aload_n 0, 1) := by decide +kernel
theorem dX5_ahead_24 : decode cX5_ahead 24 = .ok (.getfield 19, 3) := by decide +kernel
theorem dX5_ahead_27 : decode cX5_ahead 27 = .ok (.aload_n 0, 1) := by decide +kernel
theorem dX5_ahead_28 : decode cX5_ahead 28 = .ok (.getfield 10, 3) := by decide +kernel
theorem dX5_ahead_31 : decode cX5_ahead 31 = .ok (.invokevirtual 159, 3) := by decide +kernel
theorem dX5_ahead_34 : decode cX5_ahead 34 = .ok (.aload_n 0, 1) := by decide +kernel
theorem dX5_ahead_35 : decode cX5_ahead 35 = .ok (.getfield 19, 3) := by decide +kernel
theorem dX5_ahead_38 : decode cX5_ahead 38 = .ok (.iload_n 2, 1) := by decide +kernel
theorem dX5_ahead_39 : decode cX5_ahead 39 = .ok (.invokevirtual 123, 3) := by decide +kernel
theorem dX5_ahead_42 : decode cX5_ahead 42 = .ok (.aload_n 0, 1) := by decide +kernel
theorem dX5_ahead_43 : decode cX5_ahead 43 = .ok (.getfield 19, 3) := by decide +kernel
theorem dX5_ahead_46 : decode cX5_ahead 46 = .ok (.getfield 65, 3) := by decide +kernel
theorem dX5_ahead_49 : decode cX5_ahead 49 = .ok (.iload_n 1, 1) := by decide +kernel
theorem dX5_ahead_50 : decode cX5_ahead 50 = .ok (.iaload, 1) := by decide +kernel
theorem dX5_ahead_51 : decode cX5_ahead 51 = .ok (.ireturn, 1) := by decide +kernel
theorem dX5_felt_0 : decode cX5_felt 0 = .ok (.aload_n 0, 1) := by decide +kernel
theorem dX5_felt_1 : decode cX5_felt 1 = .ok (.iload_n 1, 1) := by decide +kernel
theorem dX5_felt_2 : decode cX5_felt 2 = .ok (.invokevirtual 96, 3) := by decide +kernel
theorem dX5_felt_5 : decode cX5_felt 5 = .ok (.ifCond .eq 22, 3) := by decide +kernel
theorem dX5_felt_8 : decode cX5_felt 8 = .ok (.iload_n 2, 1) := by decide +kernel
theorem dX5_felt_9 : decode cX5_felt 9 = .ok (.iconst 0, 1) := by decide +kernel
theorem dX5_felt_10 : decode cX5_felt 10 = .ok (.iconst 3, 1) := by decide +kernel
theorem dX5_felt_11 : decode cX5_felt 11 = .ok (.invokestatic 68, 3) := by decide +kernel
theorem dX5_felt_14 : decode cX5_felt 14 = .ok (.ifCond .eq 13, 3) := by decide +kernel
theorem dX5_felt_17 : decode cX5_felt 17 = .ok (.iload_n 3, 1) := by decide +kernel
theorem dX5_felt_18 : decode cX5_felt 18 = .ok (.iconst 0, 1) := by decide +kernel
theorem dX5_felt_19 : decode cX5_felt 19 = .ok (.bipush 100, 2) := by decide +kernel
theorem dX5_felt_21 : decode cX5_felt 21 = .ok (.invokestatic 68, 3) := by decide +kernel
theorem dX5_felt_24 : decode cX5_felt 24 = .ok (.ifCond .ne 9, 3) := by decide +kernel
theorem dX5_felt_27 : decode cX5_felt 27 = .ok (.aload_n 0, 1) := by decide +kernel
theorem dX5_felt_28 : decode cX5_felt 28 = .ok (.iconst 0, 1) := by decide +kernel
theorem dX5_felt_29 : decode cX5_felt 29 = .ok (.invokevirtual 61, 3) := by decide +kernel
theorem dX5_felt_32 : decode cX5_felt 32 = .ok (.ireturn, 1) := by decide +kernel
theorem dX5_felt_33 : decode cX5_felt 33 = .ok (.aload_n 0, 1) := by decide +kernel
theorem dX5_felt_34 : decode cX5_felt 34 = .ok (.getfield 19, 3) := by decide +kernel
theorem dX5_felt_37 : decode cX5_felt 37 = .ok (.aload_n 0, 1) := by decide +kernel
theorem dX5_felt_38 : decode cX5_felt 38 = .ok (.getfield 10, 3) := by decide +kernel
theorem dX5_felt_41 : decode cX5_felt 41 = .ok (.invokevirtual 159, 3) := by decide +kernel
theorem dX5_felt_44 : decode cX5_felt 44 = .ok (.aload_n 0, 1) := by decide +kernel
theorem dX5_felt_45 : decode cX5_felt 45 = .ok (.getfield 19, 3) := by decide +kernel
theorem dX5_felt_48 : decode cX5_felt 48 = .ok (.iload_n 3, 1) := by decide +kernel
theorem dX5_felt_49 : decode cX5_felt 49 = .ok (.invokevirtual 123, 3) := by decide +kernel
theorem dX5_felt_52 : decode cX5_felt 52 = .ok (.aload_n 0, 1) := by decide +kernel
theorem dX5_felt_53 : decode cX5_felt 53 = .ok (.getfield 19, 3) := by decide +kernel
theorem dX5_felt_56 : decode cX5_felt 56 = .ok (.getfield 99, 3) := by decide +kernel
theorem dX5_felt_59 : decode cX5_felt 59 = .ok (.iload_n 1, 1) := by decide +kernel
theorem dX5_felt_60 : decode cX5_felt 60 = .ok (.aaload, 1) := by decide +kernel
theorem dX5_felt_61 : decode cX5_felt 61 = .ok (.getfield 163, 3) := by decide +kernel
theorem dX5_felt_64 : decode cX5_felt 64 = .ok (.iload_n 2, 1) := by decide +kernel
theorem dX5_felt_65 : decode cX5_felt 65 = .ok (.iaload, 1) := by decide +kernel
theorem dX5_felt_66 : decode cX5_felt 66 = .ok (.ireturn, 1) := by decide +kernel
theorem dX5_when_0 : decode cX5_when 0 = .ok (.iload_n 1, 1) := by decide +kernel
theorem dX5_when_1 : decode cX5_when 1 = .ok (.invokestatic 54, 3) := by decide +kernel
theorem dX5_when_4 : decode cX5_when 4 = .ok (.ifCond .eq 17, 3) := by decide +kernel
theorem dX5_when_7 : decode cX5_when 7 = .ok (.iload_n 2, 1) := by decide +kernel
theorem dX5_when_8 : decode cX5_when 8 = .ok (.invokestatic 54, 3) := by decide +kernel
theorem dX5_when_11 : decode cX5_when 11 = .ok (.ifCond .eq 10, 3) := by decide +kernel
theorem dX5_when_14 : decode cX5_when 14 = .ok (.iload_n 3, 1) := by decide +kernel
theorem dX5_when_15 : decode cX5_when 15 = .ok (.invokestatic 58, 3) := by decide +kernel
theorem dX5_when_18 : decode cX5_when 18 = .ok (.ifCond .ne 9, 3) := by decide +kernel
theorem dX5_when_21 : decode cX5_when 21 = .ok (.aload_n 0, 1) := by decide +kernel
theorem dX5_when_22 : decode cX5_when 22 = .ok (.iconst 0, 1) := by decide +kernel
theorem dX5_when_23 : decode cX5_when 23 = .ok (.invokevirtual 61, 3) := by decide +kernel
theorem dX5_when_26 : decode cX5_when 26 = .ok (.ireturn, 1) := by decide +kernel
theorem dX5_when_27 : decode cX5_when 27 = .ok (.aload_n 0, 1) := by decide +kernel
theorem dX5_when_28 : decode cX5_when 28 = .ok (.getfield 19, 3) := by decide +kernel
theorem dX5_when_31 : decode cX5_when 31 = .ok (.aload_n 0, 1) := by decide +kernel
theorem dX5_when_32 : decode cX5_when 32 = .ok (.getfield 10, 3) := by decide +kernel
theorem dX5_when_35 : decode cX5_when 35 = .ok (.invokevirtual 159, 3) := by decide +kernel
theorem dX5_when_38 : decode cX5_when 38 = .ok (.iconst 0, 1) := by decide +kernel
theorem dX5_when_39 : decode cX5_when 39 = .ok (.istore 4, 2) := by decide +kernel
theorem dX5_when_41 : decode cX5_when 41 = .ok (.iload 4, 2) := by decide +kernel
theorem dX5_when_43 : decode cX5_when 43 = .ok (.bipush 100, 2) := by decide +kernel
theorem dX5_when_45 : decode cX5_when 45 = .ok (.if_icmp .gt 37, 3) := by decide +kernel
theorem dX5_when_48 : decode cX5_when 48 = .ok (.aload_n 0, 1) := by decide +kernel
theorem dX5_when_49 : decode cX5_when 49 = .ok (.getfield 25, 3) := by decide +kernel
theorem dX5_when_52 : decode cX5_when 52 = .ok (.aload_n 0, 1) := by decide +kernel
theorem dX5_when_53 : decode cX5_when 53 = .ok (.getfield 19, 3) := by decide +kernel
theorem dX5_when_56 : decode cX5_when 56 = .ok (.iload_n 1, 1) := by decide +kernel
theorem dX5_when_57 : decode cX5_when 57 = .ok (.iload_n 2, 1) := by decide +kernel
theorem dX5_when_58 : decode cX5_when 58 = .ok (.iload_n 3, 1) := by decide +kernel
theorem dX5_when_59 : decode cX5_when 59 = .ok (.invokevirtual 141, 3) := by decide +kernel
theorem dX5_when_62 : decode cX5_when 62 = .ok (.iconst (-1), 1) := by decide +kernel
theorem dX5_when_63 : decode cX5_when 63 = .ok (.if_icmp .eq 6, 3) := by decide +kernel
theorem dX5_when_66 : decode cX5_when 66 = .ok (.iload 4, 2) := by decide +kernel
theorem dX5_when_68 : decode cX5_when 68 = .ok (.ireturn, 1) := by decide +kernel
theorem dX5_when_69 : decode cX5_when 69 = .ok (.aload_n 0, 1) := by decide +kernel
theorem dX5_when_70 : decode cX5_when 70 = .ok (.getfield 19, 3) := by decide +kernel
theorem dX5_when_73 : decode cX5_when 73 = .ok (.invokevirtual 166, 3) := by decide +kernel
theorem dX5_when_76 : decode cX5_when 76 = .ok (.iinc 4 1, 3) := by decide +kernel
theorem dX5_when_79 : decode cX5_when 79 = .ok (.goto (-38), 3) := by decide +kernel
theorem dX5_when_82 : decode cX5_when 82 = .ok (.aload_n 0, 1) := by decide +kernel
theorem dX5_when_83 : decode cX5_when 83 = .ok (.iconst 3, 1) := by decide +kernel
theorem dX5_when_84 : decode cX5_when 84 = .ok (.invokevirtual 61, 3) := by decide +kernel
theorem dX5_when_87 : decode cX5_when 87 = .ok (.ireturn, 1) := by decide +kernel
theorem dX5_settles_0 : decode cX5_settles 0 = .ok (.aload_n 0, 1) := by decide +kernel
theorem dX5_settles_1 : decode cX5_settles 1 = .ok (.getfield 19, 3) := by decide +kernel
theorem dX5_settles_4 : decode cX5_settles 4 = .ok (.aload_n 0, 1) := by decide +kernel
theorem dX5_settles_5 : decode cX5_settles 5 = .ok (.getfield 10, 3) := by decide +kernel
theorem dX5_settles_8 : decode cX5_settles 8 = .ok (.invokevirtual 159, 3) := by decide +kernel
theorem dX5_settles_11 : decode cX5_settles 11 = .ok (.iconst 0, 1) := by decide +kernel
theorem dX5_settles_12 : decode cX5_settles 12 = .ok (.istore_n 1, 1) := by decide +kernel
theorem dX5_settles_13 : decode cX5_settles 13 = .ok (.iload_n 1, 1) := by decide +kernel
theorem dX5_settles_14 : decode cX5_settles 14 = .ok (.bipush 100, 2) := by decide +kernel
theorem dX5_settles_16 : decode cX5_settles 16 = .ok (.if_icmp .gt 50, 3) := by decide +kernel
theorem dX5_settles_19 : decode cX5_settles 19 = .ok (.aload_n 0, 1) := by decide +kernel
theorem dX5_settles_20 : decode cX5_settles 20 = .ok (.getfield 19, 3) := by decide +kernel
theorem dX5_settles_23 : decode cX5_settles 23 = .ok (.getfield 65, 3) := by decide +kernel
theorem dX5_settles_26 : decode cX5_settles 26 = .ok (.iconst 0, 1) := by decide +kernel
theorem dX5_settles_27 : decode cX5_settles 27 = .ok (.aload_n 0, 1) := by decide +kernel
theorem dX5_settles_28 : decode cX5_settles 28 = .ok (.getfield 46, 3) := by decide +kernel
theorem dX5_settles_31 : decode cX5_settles 31 = .ok (.iconst 0, 1) := by decide +kernel
theorem dX5_settles_32 : decode cX5_settles 32 = .ok (.bipush 25, 2) := by decide +kernel
theorem dX5_settles_34 : decode cX5_settles 34 = .ok (.invokestatic 169, 3) := by decide +kernel
theorem dX5_settles_37 : decode cX5_settles 37 = .ok (.aload_n 0, 1) := by decide +kernel
theorem dX5_settles_38 : decode cX5_settles 38 = .ok (.getfield 19, 3) := by decide +kernel
theorem dX5_settles_41 : decode cX5_settles 41 = .ok (.invokevirtual 166, 3) := by decide +kernel
theorem dX5_settles_44 : decode cX5_settles 44 = .ok (.aload_n 0, 1) := by decide +kernel
theorem dX5_settles_45 : decode cX5_settles 45 = .ok (.getfield 19, 3) := by decide +kernel
theorem dX5_settles_48 : decode cX5_settles 48 = .ok (.aload_n 0, 1) := by decide +kernel
theorem dX5_settles_49 : decode cX5_settles 49 = .ok (.getfield 46, 3) := by decide +kernel
theorem dX5_settles_52 : decode cX5_settles 52 = .ok (.invokevirtual 175, 3) := by decide +kernel
theorem dX5_settles_55 : decode cX5_settles 55 = .ok (.ifCond .eq 5, 3) := by decide +kernel
theorem dX5_settles_58 : decode cX5_settles 58 = .ok (.iload_n 1, 1) := by decide +kernel
theorem dX5_settles_59 : decode cX5_settles 59 = .ok (.ireturn, 1) := by decide +kernel
theorem dX5_settles_60 : decode cX5_settles 60 = .ok (.iinc 1 1, 3) := by decide +kernel
theorem dX5_settles_63 : decode cX5_settles 63 = .ok (.goto (-50), 3) := by decide +kernel
theorem dX5_settles_66 : decode cX5_settles 66 = .ok (.aload_n 0, 1) := by decide +kernel
theorem dX5_settles_67 : decode cX5_settles 67 = .ok (.iconst 3, 1) := by decide +kernel
theorem dX5_settles_68 : decode cX5_settles 68 = .ok (.invokevirtual 61, 3) := by decide +kernel
theorem dX5_settles_71 : decode cX5_settles 71 = .ok (.ireturn, 1) := by decide +kernel
theorem dX5_lies_0 : decode cX5_lies 0 = .ok (.aload_n 0, 1) := by decide +kernel
theorem dX5_lies_1 : decode cX5_lies 1 = .ok (.iload_n 1, 1) := by decide +kernel
theorem dX5_lies_2 : decode cX5_lies 2 = .ok (.invokevirtual 96, 3) := by decide +kernel
theorem dX5_lies_5 : decode cX5_lies 5 = .ok (.ifCond .eq 10, 3) := by decide +kernel
theorem dX5_lies_8 : decode cX5_lies 8 = .ok (.iload_n 2, 1) := by decide +kernel
theorem dX5_lies_9 : decode cX5_lies 9 = .ok (.invokestatic 58, 3) := by decide +kernel
theorem dX5_lies_12 : decode cX5_lies 12 = .ok (.ifCond .ne 9, 3) := by decide +kernel
theorem dX5_lies_15 : decode cX5_lies 15 = .ok (.aload_n 0, 1) := by decide +kernel
theorem dX5_lies_16 : decode cX5_lies 16 = .ok (.iconst 0, 1) := by decide +kernel
theorem dX5_lies_17 : decode cX5_lies 17 = .ok (.invokevirtual 61, 3) := by decide +kernel
theorem dX5_lies_20 : decode cX5_lies 20 = .ok (.ireturn, 1) := by decide +kernel
theorem dX5_lies_21 : decode cX5_lies 21 = .ok (.aload_n 0, 1) := by decide +kernel
theorem dX5_lies_22 : decode cX5_lies 22 = .ok (.getfield 10, 3) := by decide +kernel
theorem dX5_lies_25 : decode cX5_lies 25 = .ok (.getfield 99, 3) := by decide +kernel
theorem dX5_lies_28 : decode cX5_lies 28 = .ok (.iload_n 1, 1) := by decide +kernel
theorem dX5_lies_29 : decode cX5_lies 29 = .ok (.aaload, 1) := by decide +kernel
theorem dX5_lies_30 : decode cX5_lies 30 = .ok (.invokevirtual 179, 3) := by decide +kernel
theorem dX5_lies_33 : decode cX5_lies 33 = .ok (.ifCond .ne 9, 3) := by decide +kernel
theorem dX5_lies_36 : decode cX5_lies 36 = .ok (.aload_n 0, 1) := by decide +kernel
theorem dX5_lies_37 : decode cX5_lies 37 = .ok (.iconst 4, 1) := by decide +kernel
theorem dX5_lies_38 : decode cX5_lies 38 = .ok (.invokevirtual 61, 3) := by decide +kernel
theorem dX5_lies_41 : decode cX5_lies 41 = .ok (.ireturn, 1) := by decide +kernel
theorem dX5_lies_42 : decode cX5_lies 42 = .ok (.aload_n 0, 1) := by decide +kernel
theorem dX5_lies_43 : decode cX5_lies 43 = .ok (.getfield 19, 3) := by decide +kernel
theorem dX5_lies_46 : decode cX5_lies 46 = .ok (.aload_n 0, 1) := by decide +kernel
theorem dX5_lies_47 : decode cX5_lies 47 = .ok (.getfield 10, 3) := by decide +kernel
theorem dX5_lies_50 : decode cX5_lies 50 = .ok (.invokevirtual 159, 3) := by decide +kernel
theorem dX5_lies_53 : decode cX5_lies 53 = .ok (.iconst 0, 1) := by decide +kernel
theorem dX5_lies_54 : decode cX5_lies 54 = .ok (.istore_n 3, 1) := by decide +kernel
theorem dX5_lies_55 : decode cX5_lies 55 = .ok (.iload_n 3, 1) := by decide +kernel
theorem dX5_lies_56 : decode cX5_lies 56 = .ok (.bipush 100, 2) := by decide +kernel
theorem dX5_lies_58 : decode cX5_lies 58 = .ok (.if_icmp .gt 38, 3) := by decide +kernel
theorem dX5_lies_61 : decode cX5_lies 61 = .ok (.aload_n 0, 1) := by decide +kernel
theorem dX5_lies_62 : decode cX5_lies 62 = .ok (.getfield 19, 3) := by decide +kernel
theorem dX5_lies_65 : decode cX5_lies 65 = .ok (.aload_n 0, 1) := by decide +kernel
theorem dX5_lies_66 : decode cX5_lies 66 = .ok (.getfield 19, 3) := by decide +kernel
theorem dX5_lies_69 : decode cX5_lies 69 = .ok (.getfield 99, 3) := by decide +kernel
theorem dX5_lies_72 : decode cX5_lies 72 = .ok (.iload_n 1, 1) := by decide +kernel
theorem dX5_lies_73 : decode cX5_lies 73 = .ok (.aaload, 1) := by decide +kernel
theorem dX5_lies_74 : decode cX5_lies 74 = .ok (.invokevirtual 183, 3) := by decide +kernel
theorem dX5_lies_77 : decode cX5_lies 77 = .ok (.iload_n 2, 1) := by decide +kernel
theorem dX5_lies_78 : decode cX5_lies 78 = .ok (.if_icmp .gt 5, 3) := by decide +kernel
theorem dX5_lies_81 : decode cX5_lies 81 = .ok (.iload_n 3, 1) := by decide +kernel
theorem dX5_lies_82 : decode cX5_lies 82 = .ok (.ireturn, 1) := by decide +kernel
theorem dX5_lies_83 : decode cX5_lies 83 = .ok (.aload_n 0, 1) := by decide +kernel
theorem dX5_lies_84 : decode cX5_lies 84 = .ok (.getfield 19, 3) := by decide +kernel
theorem dX5_lies_87 : decode cX5_lies 87 = .ok (.invokevirtual 166, 3) := by decide +kernel
theorem dX5_lies_90 : decode cX5_lies 90 = .ok (.iinc 3 1, 3) := by decide +kernel
theorem dX5_lies_93 : decode cX5_lies 93 = .ok (.goto (-38), 3) := by decide +kernel
theorem dX5_lies_96 : decode cX5_lies 96 = .ok (.aload_n 0, 1) := by decide +kernel
theorem dX5_lies_97 : decode cX5_lies 97 = .ok (.iconst 3, 1) := by decide +kernel
theorem dX5_lies_98 : decode cX5_lies 98 = .ok (.invokevirtual 61, 3) := by decide +kernel
theorem dX5_lies_101 : decode cX5_lies 101 = .ok (.ireturn, 1) := by decide +kernel
theorem dX5_unlike_0 : decode cX5_unlike 0 = .ok (.aload_n 0, 1) := by decide +kernel
theorem dX5_unlike_1 : decode cX5_unlike 1 = .ok (.iload_n 1, 1) := by decide +kernel
theorem dX5_unlike_2 : decode cX5_unlike 2 = .ok (.invokevirtual 96, 3) := by decide +kernel
theorem dX5_unlike_5 : decode cX5_unlike 5 = .ok (.ifCond .eq 10, 3) := by decide +kernel
theorem dX5_unlike_8 : decode cX5_unlike 8 = .ok (.iload_n 2, 1) := by decide +kernel
theorem dX5_unlike_9 : decode cX5_unlike 9 = .ok (.invokestatic 187, 3) := by decide +kernel
theorem dX5_unlike_12 : decode cX5_unlike 12 = .ok (.ifCond .ne 9, 3) := by decide +kernel
theorem dX5_unlike_15 : decode cX5_unlike 15 = .ok (.aload_n 0, 1) := by decide +kernel
theorem dX5_unlike_16 : decode cX5_unlike 16 = .ok (.iconst 0, 1) := by decide +kernel
theorem dX5_unlike_17 : decode cX5_unlike 17 = .ok (.invokevirtual 61, 3) := by decide +kernel
theorem dX5_unlike_20 : decode cX5_unlike 20 = .ok (.ireturn, 1) := by decide +kernel
theorem dX5_unlike_21 : decode cX5_unlike 21 = .ok (.aload_n 0, 1) := by decide +kernel
theorem dX5_unlike_22 : decode cX5_unlike 22 = .ok (.getfield 10, 3) := by decide +kernel
theorem dX5_unlike_25 : decode cX5_unlike 25 = .ok (.aload_n 0, 1) := by decide +kernel
theorem dX5_unlike_26 : decode cX5_unlike 26 = .ok (.getfield 10, 3) := by decide +kernel
theorem dX5_unlike_29 : decode cX5_unlike 29 = .ok (.getfield 99, 3) := by decide +kernel
theorem dX5_unlike_32 : decode cX5_unlike 32 = .ok (.iload_n 1, 1) := by decide +kernel
theorem dX5_unlike_33 : decode cX5_unlike 33 = .ok (.aaload, 1) := by decide +kernel
theorem dX5_unlike_34 : decode cX5_unlike 34 = .ok (.iload_n 2, 1) := by decide +kernel
theorem dX5_unlike_35 : decode cX5_unlike 35 = .ok (.invokevirtual 190, 3) := by decide +kernel
theorem dX5_unlike_38 : decode cX5_unlike 38 = .ok (.ireturn, 1) := by decide +kernel
theorem dX5_home_0 : decode cX5_home 0 = .ok (.aload_n 0, 1) := by decide +kernel
theorem dX5_home_1 : decode cX5_home 1 = .ok (.iload_n 1, 1) := by decide +kernel
theorem dX5_home_2 : decode cX5_home 2 = .ok (.invokevirtual 96, 3) := by decide +kernel
theorem dX5_home_5 : decode cX5_home 5 = .ok (.ifCond .ne 9, 3) := by decide +kernel
theorem dX5_home_8 : decode cX5_home 8 = .ok (.aload_n 0, 1) := by decide +kernel
theorem dX5_home_9 : decode cX5_home 9 = .ok (.iconst 0, 1) := by decide +kernel
theorem dX5_home_10 : decode cX5_home 10 = .ok (.invokevirtual 61, 3) := by decide +kernel
theorem dX5_home_13 : decode cX5_home 13 = .ok (.ireturn, 1) := by decide +kernel
theorem dX5_home_14 : decode cX5_home 14 = .ok (.iconst 0, 1) := by decide +kernel
theorem dX5_home_15 : decode cX5_home 15 = .ok (.istore_n 2, 1) := by decide +kernel
theorem dX5_home_16 : decode cX5_home 16 = .ok (.iconst 1, 1) := by decide +kernel
theorem dX5_home_17 : decode cX5_home 17 = .ok (.istore_n 3, 1) := by decide +kernel
theorem dX5_home_18 : decode cX5_home 18 = .ok (.iload_n 3, 1) := by decide +kernel
theorem dX5_home_19 : decode cX5_home 19 = .ok (.bipush 16, 2) := by decide +kernel
theorem dX5_home_21 : decode cX5_home 21 = .ok (.if_icmp .ge 48, 3) := by decide +kernel
theorem dX5_home_24 : decode cX5_home 24 = .ok (.aload_n 0, 1) := by decide +kernel
theorem dX5_home_25 : decode cX5_home 25 = .ok (.getfield 10, 3) := by decide +kernel
theorem dX5_home_28 : decode cX5_home 28 = .ok (.aload_n 0, 1) := by decide +kernel
theorem dX5_home_29 : decode cX5_home 29 = .ok (.getfield 10, 3) := by decide +kernel
theorem dX5_home_32 : decode cX5_home 32 = .ok (.getfield 99, 3) := by decide +kernel
theorem dX5_home_35 : decode cX5_home 35 = .ok (.iload_n 1, 1) := by decide +kernel
theorem dX5_home_36 : decode cX5_home 36 = .ok (.aaload, 1) := by decide +kernel
theorem dX5_home_37 : decode cX5_home 37 = .ok (.iload_n 3, 1) := by decide +kernel
theorem dX5_home_38 : decode cX5_home 38 = .ok (.invokevirtual 190, 3) := by decide +kernel
theorem dX5_home_41 : decode cX5_home 41 = .ok (.aload_n 0, 1) := by decide +kernel
theorem dX5_home_42 : decode cX5_home 42 = .ok (.getfield 10, 3) := by decide +kernel
theorem dX5_home_45 : decode cX5_home 45 = .ok (.aload_n 0, 1) := by decide +kernel
theorem dX5_home_46 : decode cX5_home 46 = .ok (.getfield 10, 3) := by decide +kernel
theorem dX5_home_49 : decode cX5_home 49 = .ok (.getfield 99, 3) := by decide +kernel
theorem dX5_home_52 : decode cX5_home 52 = .ok (.iload_n 1, 1) := by decide +kernel
theorem dX5_home_53 : decode cX5_home 53 = .ok (.aaload, 1) := by decide +kernel
theorem dX5_home_54 : decode cX5_home 54 = .ok (.iload_n 2, 1) := by decide +kernel
theorem dX5_home_55 : decode cX5_home 55 = .ok (.invokevirtual 190, 3) := by decide +kernel
theorem dX5_home_58 : decode cX5_home 58 = .ok (.if_icmp .ge 5, 3) := by decide +kernel
theorem dX5_home_61 : decode cX5_home 61 = .ok (.iload_n 3, 1) := by decide +kernel
theorem dX5_home_62 : decode cX5_home 62 = .ok (.istore_n 2, 1) := by decide +kernel
theorem dX5_home_63 : decode cX5_home 63 = .ok (.iinc 3 1, 3) := by decide +kernel
theorem dX5_home_66 : decode cX5_home 66 = .ok (.goto (-48), 3) := by decide +kernel
theorem dX5_home_69 : decode cX5_home 69 = .ok (.iload_n 2, 1) := by decide +kernel
theorem dX5_home_70 : decode cX5_home 70 = .ok (.ireturn, 1) := by decide +kernel
theorem dX5_pitchFor_0 : decode cX5_pitchFor 0 = .ok (.aload_n 0, 1) := by decide +kernel
theorem dX5_pitchFor_1 : decode cX5_pitchFor 1 = .ok (.iload_n 1, 1) := by decide +kernel
theorem dX5_pitchFor_2 : decode cX5_pitchFor 2 = .ok (.invokevirtual 96, 3) := by decide +kernel
theorem dX5_pitchFor_5 : decode cX5_pitchFor 5 = .ok (.ifCond .eq 25, 3) := by decide +kernel
theorem dX5_pitchFor_8 : decode cX5_pitchFor 8 = .ok (.iload_n 2, 1) := by decide +kernel
theorem dX5_pitchFor_9 : decode cX5_pitchFor 9 = .ok (.invokestatic 54, 3) := by decide +kernel
theorem dX5_pitchFor_12 : decode cX5_pitchFor 12 = .ok (.ifCond .eq 18, 3) := by decide +kernel
theorem dX5_pitchFor_15 : decode cX5_pitchFor 15 = .ok (.iload_n 3, 1) := by decide +kernel
theorem dX5_pitchFor_16 : decode cX5_pitchFor 16 = .ok (.invokestatic 54, 3) := by decide +kernel
theorem dX5_pitchFor_19 : decode cX5_pitchFor 19 = .ok (.ifCond .eq 11, 3) := by decide +kernel
theorem dX5_pitchFor_22 : decode cX5_pitchFor 22 = .ok (.iload 4, 2) := by decide +kernel
theorem dX5_pitchFor_24 : decode cX5_pitchFor 24 = .ok (.invokestatic 58, 3) := by decide +kernel
theorem dX5_pitchFor_27 : decode cX5_pitchFor 27 = .ok (.ifCond .ne 9, 3) := by decide +kernel
theorem dX5_pitchFor_30 : decode cX5_pitchFor 30 = .ok (.aload_n 0, 1) := by decide +kernel
theorem dX5_pitchFor_31 : decode cX5_pitchFor 31 = .ok (.iconst 0, 1) := by decide +kernel
theorem dX5_pitchFor_32 : decode cX5_pitchFor 32 = .ok (.invokevirtual 61, 3) := by decide +kernel
theorem dX5_pitchFor_35 : decode cX5_pitchFor 35 = .ok (.ireturn, 1) := by decide +kernel
theorem dX5_pitchFor_36 : decode cX5_pitchFor 36 = .ok (.iconst 0, 1) := by decide +kernel
theorem dX5_pitchFor_37 : decode cX5_pitchFor 37 = .ok (.istore 5, 2) := by decide +kernel
theorem dX5_pitchFor_39 : decode cX5_pitchFor 39 = .ok (.iload 5, 2) := by decide +kernel
theorem dX5_pitchFor_41 : decode cX5_pitchFor 41 = .ok (.bipush 16, 2) := by decide +kernel
theorem dX5_pitchFor_43 : decode cX5_pitchFor 43 = .ok (.if_icmp .ge 63, 3) := by decide +kernel
theorem dX5_pitchFor_46 : decode cX5_pitchFor 46 = .ok (.aload_n 0, 1) := by decide +kernel
theorem dX5_pitchFor_47 : decode cX5_pitchFor 47 = .ok (.getfield 19, 3) := by decide +kernel
theorem dX5_pitchFor_50 : decode cX5_pitchFor 50 = .ok (.aload_n 0, 1) := by decide +kernel
theorem dX5_pitchFor_51 : decode cX5_pitchFor 51 = .ok (.getfield 10, 3) := by decide +kernel
theorem dX5_pitchFor_54 : decode cX5_pitchFor 54 = .ok (.invokevirtual 159, 3) := by decide +kernel
theorem dX5_pitchFor_57 : decode cX5_pitchFor 57 = .ok (.aload_n 0, 1) := by decide +kernel
theorem dX5_pitchFor_58 : decode cX5_pitchFor 58 = .ok (.getfield 19, 3) := by decide +kernel
theorem dX5_pitchFor_61 : decode cX5_pitchFor 61 = .ok (.getfield 99, 3) := by decide +kernel
theorem dX5_pitchFor_64 : decode cX5_pitchFor 64 = .ok (.iload_n 1, 1) := by decide +kernel
theorem dX5_pitchFor_65 : decode cX5_pitchFor 65 = .ok (.aaload, 1) := by decide +kernel
theorem dX5_pitchFor_66 : decode cX5_pitchFor 66 = .ok (.iload 5, 2) := by decide +kernel
theorem dX5_pitchFor_68 : decode cX5_pitchFor 68 = .ok (.putfield 194, 3) := by decide +kernel
theorem dX5_pitchFor_71 : decode cX5_pitchFor 71 = .ok (.aload_n 0, 1) := by decide +kernel
theorem dX5_pitchFor_72 : decode cX5_pitchFor 72 = .ok (.getfield 19, 3) := by decide +kernel
theorem dX5_pitchFor_75 : decode cX5_pitchFor 75 = .ok (.invokevirtual 166, 3) := by decide +kernel
theorem dX5_pitchFor_78 : decode cX5_pitchFor 78 = .ok (.aload_n 0, 1) := by decide +kernel
theorem dX5_pitchFor_79 : decode cX5_pitchFor 79 = .ok (.getfield 25, 3) := by decide +kernel
theorem dX5_pitchFor_82 : decode cX5_pitchFor 82 = .ok (.aload_n 0, 1) := by decide +kernel
theorem dX5_pitchFor_83 : decode cX5_pitchFor 83 = .ok (.getfield 19, 3) := by decide +kernel
theorem dX5_pitchFor_86 : decode cX5_pitchFor 86 = .ok (.iload_n 2, 1) := by decide +kernel
theorem dX5_pitchFor_87 : decode cX5_pitchFor 87 = .ok (.iload_n 3, 1) := by decide +kernel
theorem dX5_pitchFor_88 : decode cX5_pitchFor 88 = .ok (.iload 4, 2) := by decide +kernel
theorem dX5_pitchFor_90 : decode cX5_pitchFor 90 = .ok (.invokevirtual 141, 3) := by decide +kernel
theorem dX5_pitchFor_93 : decode cX5_pitchFor 93 = .ok (.iconst (-1), 1) := by decide +kernel
theorem dX5_pitchFor_94 : decode cX5_pitchFor 94 = .ok (.if_icmp .eq 6, 3) := by decide +kernel
theorem dX5_pitchFor_97 : decode cX5_pitchFor 97 = .ok (.iload 5, 2) := by decide +kernel
theorem dX5_pitchFor_99 : decode cX5_pitchFor 99 = .ok (.ireturn, 1) := by decide +kernel
theorem dX5_pitchFor_100 : decode cX5_pitchFor 100 = .ok (.iinc 5 1, 3) := by decide +kernel
theorem dX5_pitchFor_103 : decode cX5_pitchFor 103 = .ok (.goto (-64), 3) := by decide +kernel
theorem dX5_pitchFor_106 : decode cX5_pitchFor 106 = .ok (.aload_n 0, 1) := by decide +kernel
theorem dX5_pitchFor_107 : decode cX5_pitchFor 107 = .ok (.iconst 3, 1) := by decide +kernel
theorem dX5_pitchFor_108 : decode cX5_pitchFor 108 = .ok (.invokevirtual 61, 3) := by decide +kernel
theorem dX5_pitchFor_111 : decode cX5_pitchFor 111 = .ok (.ireturn, 1) := by decide +kernel
theorem dX5_kindFor_0 : decode cX5_kindFor 0 = .ok (.aload_n 0, 1) := by decide +kernel
theorem dX5_kindFor_1 : decode cX5_kindFor 1 = .ok (.iload_n 1, 1) := by decide +kernel
theorem dX5_kindFor_2 : decode cX5_kindFor 2 = .ok (.invokevirtual 96, 3) := by decide +kernel
theorem dX5_kindFor_5 : decode cX5_kindFor 5 = .ok (.ifCond .eq 13, 3) := by decide +kernel
theorem dX5_kindFor_8 : decode cX5_kindFor 8 = .ok (.iload_n 2, 1) := by decide +kernel
theorem dX5_kindFor_9 : decode cX5_kindFor 9 = .ok (.iconst 0, 1) := by decide +kernel
theorem dX5_kindFor_10 : decode cX5_kindFor 10 = .ok (.bipush 60, 2) := by decide +kernel
theorem dX5_kindFor_12 : decode cX5_kindFor 12 = .ok (.invokestatic 68, 3) := by decide +kernel
theorem dX5_kindFor_15 : decode cX5_kindFor 15 = .ok (.ifCond .ne 9, 3) := by decide +kernel
theorem dX5_kindFor_18 : decode cX5_kindFor 18 = .ok (.aload_n 0, 1) := by decide +kernel
theorem dX5_kindFor_19 : decode cX5_kindFor 19 = .ok (.iconst 0, 1) := by decide +kernel
theorem dX5_kindFor_20 : decode cX5_kindFor 20 = .ok (.invokevirtual 61, 3) := by decide +kernel
theorem dX5_kindFor_23 : decode cX5_kindFor 23 = .ok (.ireturn, 1) := by decide +kernel
theorem dX5_kindFor_24 : decode cX5_kindFor 24 = .ok (.iconst 0, 1) := by decide +kernel
theorem dX5_kindFor_25 : decode cX5_kindFor 25 = .ok (.istore_n 3, 1) := by decide +kernel
theorem dX5_kindFor_26 : decode cX5_kindFor 26 = .ok (.bipush 100, 2) := by decide +kernel
theorem dX5_kindFor_28 : decode cX5_kindFor 28 = .ok (.istore 4, 2) := by decide +kernel
theorem dX5_kindFor_30 : decode cX5_kindFor 30 = .ok (.iconst 0, 1) := by decide +kernel
theorem dX5_kindFor_31 : decode cX5_kindFor 31 = .ok (.istore 5, 2) := by decide +kernel
theorem dX5_kindFor_33 : decode cX5_kindFor 33 = .ok (.iload 5, 2) := by decide +kernel
theorem dX5_kindFor_35 : decode cX5_kindFor 35 = .ok (.bipush 7, 2) := by decide +kernel
theorem dX5_kindFor_37 : decode cX5_kindFor 37 = .ok (.if_icmp .ge 65, 3) := by decide +kernel
theorem dX5_kindFor_40 : decode cX5_kindFor 40 = .ok (.aload_n 0, 1) := by decide +kernel
theorem dX5_kindFor_41 : decode cX5_kindFor 41 = .ok (.getfield 19, 3) := by decide +kernel
theorem dX5_kindFor_44 : decode cX5_kindFor 44 = .ok (.aload_n 0, 1) := by decide +kernel
theorem dX5_kindFor_45 : decode cX5_kindFor 45 = .ok (.getfield 10, 3) := by decide +kernel
theorem dX5_kindFor_48 : decode cX5_kindFor 48 = .ok (.invokevirtual 159, 3) := by decide +kernel
theorem dX5_kindFor_51 : decode cX5_kindFor 51 = .ok (.aload_n 0, 1) := by decide +kernel
theorem dX5_kindFor_52 : decode cX5_kindFor 52 = .ok (.getfield 19, 3) := by decide +kernel
theorem dX5_kindFor_55 : decode cX5_kindFor 55 = .ok (.getfield 99, 3) := by decide +kernel
theorem dX5_kindFor_58 : decode cX5_kindFor 58 = .ok (.iload_n 1, 1) := by decide +kernel
theorem dX5_kindFor_59 : decode cX5_kindFor 59 = .ok (.aaload, 1) := by decide +kernel
theorem dX5_kindFor_60 : decode cX5_kindFor 60 = .ok (.iload 5, 2) := by decide +kernel
theorem dX5_kindFor_62 : decode cX5_kindFor 62 = .ok (.putfield 197, 3) := by decide +kernel
theorem dX5_kindFor_65 : decode cX5_kindFor 65 = .ok (.aload_n 0, 1) := by decide +kernel
theorem dX5_kindFor_66 : decode cX5_kindFor 66 = .ok (.getfield 19, 3) := by decide +kernel
theorem dX5_kindFor_69 : decode cX5_kindFor 69 = .ok (.iload_n 2, 1) := by decide +kernel
theorem dX5_kindFor_70 : decode cX5_kindFor 70 = .ok (.invokevirtual 123, 3) := by decide +kernel
theorem dX5_kindFor_73 : decode cX5_kindFor 73 = .ok (.aload_n 0, 1) := by decide +kernel
theorem dX5_kindFor_74 : decode cX5_kindFor 74 = .ok (.getfield 19, 3) := by decide +kernel
theorem dX5_kindFor_77 : decode cX5_kindFor 77 = .ok (.invokevirtual 138, 3) := by decide +kernel
theorem dX5_kindFor_80 : decode cX5_kindFor 80 = .ok (.istore 6, 2) := by decide +kernel
theorem dX5_kindFor_82 : decode cX5_kindFor 82 = .ok (.iload 6, 2) := by decide +kernel
theorem dX5_kindFor_84 : decode cX5_kindFor 84 = .ok (.iload 4, 2) := by decide +kernel
theorem dX5_kindFor_86 : decode cX5_kindFor 86 = .ok (.if_icmp .ge 10, 3) := by decide +kernel
theorem dX5_kindFor_89 : decode cX5_kindFor 89 = .ok (.iload 6, 2) := by decide +kernel
theorem dX5_kindFor_91 : decode cX5_kindFor 91 = .ok (.istore 4, 2) := by decide +kernel
theorem dX5_kindFor_93 : decode cX5_kindFor 93 = .ok (.iload 5, 2) := by decide +kernel
theorem dX5_kindFor_95 : decode cX5_kindFor 95 = .ok (.istore_n 3, 1) := by decide +kernel
theorem dX5_kindFor_96 : decode cX5_kindFor 96 = .ok (.iinc 5 1, 3) := by decide +kernel
theorem dX5_kindFor_99 : decode cX5_kindFor 99 = .ok (.goto (-66), 3) := by decide +kernel
theorem dX5_kindFor_102 : decode cX5_kindFor 102 = .ok (.iload_n 3, 1) := by decide +kernel
theorem dX5_kindFor_103 : decode cX5_kindFor 103 = .ok (.ireturn, 1) := by decide +kernel
theorem dX5_first_0 : decode cX5_first 0 = .ok (.aload_n 0, 1) := by decide +kernel
theorem dX5_first_1 : decode cX5_first 1 = .ok (.iload_n 1, 1) := by decide +kernel
theorem dX5_first_2 : decode cX5_first 2 = .ok (.invokevirtual 96, 3) := by decide +kernel
theorem dX5_first_5 : decode cX5_first 5 = .ok (.ifCond .eq 23, 3) := by decide +kernel
theorem dX5_first_8 : decode cX5_first 8 = .ok (.aload_n 0, 1) := by decide +kernel
theorem dX5_first_9 : decode cX5_first 9 = .ok (.iload_n 2, 1) := by decide +kernel
theorem dX5_first_10 : decode cX5_first 10 = .ok (.invokevirtual 96, 3) := by decide +kernel
theorem dX5_first_13 : decode cX5_first 13 = .ok (.ifCond .eq 15, 3) := by decide +kernel
theorem dX5_first_16 : decode cX5_first 16 = .ok (.iload_n 1, 1) := by decide +kernel
theorem dX5_first_17 : decode cX5_first 17 = .ok (.iload_n 2, 1) := by decide +kernel
theorem dX5_first_18 : decode cX5_first 18 = .ok (.if_icmp .eq 10, 3) := by decide +kernel
theorem dX5_first_21 : decode cX5_first 21 = .ok (.iload_n 3, 1) := by decide +kernel
theorem dX5_first_22 : decode cX5_first 22 = .ok (.invokestatic 187, 3) := by decide +kernel
theorem dX5_first_25 : decode cX5_first 25 = .ok (.ifCond .ne 9, 3) := by decide +kernel
theorem dX5_first_28 : decode cX5_first 28 = .ok (.aload_n 0, 1) := by decide +kernel
theorem dX5_first_29 : decode cX5_first 29 = .ok (.iconst 0, 1) := by decide +kernel
theorem dX5_first_30 : decode cX5_first 30 = .ok (.invokevirtual 61, 3) := by decide +kernel
theorem dX5_first_33 : decode cX5_first 33 = .ok (.ireturn, 1) := by decide +kernel
theorem dX5_first_34 : decode cX5_first 34 = .ok (.aload_n 0, 1) := by decide +kernel
theorem dX5_first_35 : decode cX5_first 35 = .ok (.iload_n 1, 1) := by decide +kernel
theorem dX5_first_36 : decode cX5_first 36 = .ok (.iload_n 2, 1) := by decide +kernel
theorem dX5_first_37 : decode cX5_first 37 = .ok (.iload_n 3, 1) := by decide +kernel
theorem dX5_first_38 : decode cX5_first 38 = .ok (.invokevirtual 200, 3) := by decide +kernel
theorem dX5_first_41 : decode cX5_first 41 = .ok (.aload_n 0, 1) := by decide +kernel
theorem dX5_first_42 : decode cX5_first 42 = .ok (.iload_n 2, 1) := by decide +kernel
theorem dX5_first_43 : decode cX5_first 43 = .ok (.iload_n 1, 1) := by decide +kernel
theorem dX5_first_44 : decode cX5_first 44 = .ok (.iload_n 3, 1) := by decide +kernel
theorem dX5_first_45 : decode cX5_first 45 = .ok (.invokevirtual 200, 3) := by decide +kernel
theorem dX5_first_48 : decode cX5_first 48 = .ok (.isub, 1) := by decide +kernel
theorem dX5_first_49 : decode cX5_first 49 = .ok (.ireturn, 1) := by decide +kernel
theorem dX5_out_0 : decode cX5_out 0 = .ok (.aload_n 0, 1) := by decide +kernel
theorem dX5_out_1 : decode cX5_out 1 = .ok (.iload_n 1, 1) := by decide +kernel
theorem dX5_out_2 : decode cX5_out 2 = .ok (.invokevirtual 96, 3) := by decide +kernel
theorem dX5_out_5 : decode cX5_out 5 = .ok (.ifCond .eq 25, 3) := by decide +kernel
theorem dX5_out_8 : decode cX5_out 8 = .ok (.iload_n 2, 1) := by decide +kernel
theorem dX5_out_9 : decode cX5_out 9 = .ok (.invokestatic 187, 3) := by decide +kernel
theorem dX5_out_12 : decode cX5_out 12 = .ok (.ifCond .eq 18, 3) := by decide +kernel
theorem dX5_out_15 : decode cX5_out 15 = .ok (.iload_n 3, 1) := by decide +kernel
theorem dX5_out_16 : decode cX5_out 16 = .ok (.invokestatic 58, 3) := by decide +kernel
theorem dX5_out_19 : decode cX5_out 19 = .ok (.ifCond .eq 11, 3) := by decide +kernel
theorem dX5_out_22 : decode cX5_out 22 = .ok (.iload 4, 2) := by decide +kernel
theorem dX5_out_24 : decode cX5_out 24 = .ok (.invokestatic 58, 3) := by decide +kernel
theorem dX5_out_27 : decode cX5_out 27 = .ok (.ifCond .ne 9, 3) := by decide +kernel
theorem dX5_out_30 : decode cX5_out 30 = .ok (.aload_n 0, 1) := by decide +kernel
theorem dX5_out_31 : decode cX5_out 31 = .ok (.iconst 0, 1) := by decide +kernel
theorem dX5_out_32 : decode cX5_out 32 = .ok (.invokevirtual 61, 3) := by decide +kernel
theorem dX5_out_35 : decode cX5_out 35 = .ok (.ireturn, 1) := by decide +kernel
theorem dX5_out_36 : decode cX5_out 36 = .ok (.aload_n 0, 1) := by decide +kernel
theorem dX5_out_37 : decode cX5_out 37 = .ok (.iload_n 1, 1) := by decide +kernel
theorem dX5_out_38 : decode cX5_out 38 = .ok (.iload_n 2, 1) := by decide +kernel
theorem dX5_out_39 : decode cX5_out 39 = .ok (.invokevirtual 204, 3) := by decide +kernel
theorem dX5_out_42 : decode cX5_out 42 = .ok (.iconst 0, 1) := by decide +kernel
theorem dX5_out_43 : decode cX5_out 43 = .ok (.istore 5, 2) := by decide +kernel
theorem dX5_out_45 : decode cX5_out 45 = .ok (.iload 5, 2) := by decide +kernel
theorem dX5_out_47 : decode cX5_out 47 = .ok (.bipush 60, 2) := by decide +kernel
theorem dX5_out_49 : decode cX5_out 49 = .ok (.if_icmp .gt 37, 3) := by decide +kernel
theorem dX5_out_52 : decode cX5_out 52 = .ok (.aload_n 0, 1) := by decide +kernel
theorem dX5_out_53 : decode cX5_out 53 = .ok (.getfield 19, 3) := by decide +kernel
theorem dX5_out_56 : decode cX5_out 56 = .ok (.getfield 99, 3) := by decide +kernel
theorem dX5_out_59 : decode cX5_out 59 = .ok (.iload_n 1, 1) := by decide +kernel
theorem dX5_out_60 : decode cX5_out 60 = .ok (.aaload, 1) := by decide +kernel
theorem dX5_out_61 : decode cX5_out 61 = .ok (.iload_n 3, 1) := by decide +kernel
theorem dX5_out_62 : decode cX5_out 62 = .ok (.iload 4, 2) := by decide +kernel
theorem dX5_out_64 : decode cX5_out 64 = .ok (.invokevirtual 207, 3) := by decide +kernel
theorem dX5_out_67 : decode cX5_out 67 = .ok (.ifCond .eq 6, 3) := by decide +kernel
theorem dX5_out_70 : decode cX5_out 70 = .ok (.iload 5, 2) := by decide +kernel
theorem dX5_out_72 : decode cX5_out 72 = .ok (.ireturn, 1) := by decide +kernel
theorem dX5_out_73 : decode cX5_out 73 = .ok (.aload_n 0, 1) := by decide +kernel
theorem dX5_out_74 : decode cX5_out 74 = .ok (.getfield 19, 3) := by decide +kernel
theorem dX5_out_77 : decode cX5_out 77 = .ok (.invokevirtual 166, 3) := by decide +kernel
theorem dX5_out_80 : decode cX5_out 80 = .ok (.iinc 5 1, 3) := by decide +kernel
theorem dX5_out_83 : decode cX5_out 83 = .ok (.goto (-38), 3) := by decide +kernel
theorem dX5_out_86 : decode cX5_out 86 = .ok (.aload_n 0, 1) := by decide +kernel
theorem dX5_out_87 : decode cX5_out 87 = .ok (.iconst 3, 1) := by decide +kernel
theorem dX5_out_88 : decode cX5_out 88 = .ok (.invokevirtual 61, 3) := by decide +kernel
theorem dX5_out_91 : decode cX5_out 91 = .ok (.ireturn, 1) := by decide +kernel
theorem dX5_fits_0 : decode cX5_fits 0 = .ok (.aload_n 0, 1) := by decide +kernel
theorem dX5_fits_1 : decode cX5_fits 1 = .ok (.iload_n 1, 1) := by decide +kernel
theorem dX5_fits_2 : decode cX5_fits 2 = .ok (.invokevirtual 210, 3) := by decide +kernel
theorem dX5_fits_5 : decode cX5_fits 5 = .ok (.istore_n 3, 1) := by decide +kernel
theorem dX5_fits_6 : decode cX5_fits 6 = .ok (.iload_n 3, 1) := by decide +kernel
theorem dX5_fits_7 : decode cX5_fits 7 = .ok (.iconst (-1), 1) := by decide +kernel
theorem dX5_fits_8 : decode cX5_fits 8 = .ok (.if_icmp .eq 9, 3) := by decide +kernel
theorem dX5_fits_11 : decode cX5_fits 11 = .ok (.aload_n 0, 1) := by decide +kernel
theorem dX5_fits_12 : decode cX5_fits 12 = .ok (.iload_n 3, 1) := by decide +kernel
theorem dX5_fits_13 : decode cX5_fits 13 = .ok (.invokevirtual 61, 3) := by decide +kernel
theorem dX5_fits_16 : decode cX5_fits 16 = .ok (.ireturn, 1) := by decide +kernel
theorem dX5_fits_17 : decode cX5_fits 17 = .ok (.aload_n 0, 1) := by decide +kernel
theorem dX5_fits_18 : decode cX5_fits 18 = .ok (.iload_n 2, 1) := by decide +kernel
theorem dX5_fits_19 : decode cX5_fits 19 = .ok (.invokevirtual 96, 3) := by decide +kernel
theorem dX5_fits_22 : decode cX5_fits 22 = .ok (.ifCond .ne 9, 3) := by decide +kernel
theorem dX5_fits_25 : decode cX5_fits 25 = .ok (.aload_n 0, 1) := by decide +kernel
theorem dX5_fits_26 : decode cX5_fits 26 = .ok (.iconst 0, 1) := by decide +kernel
theorem dX5_fits_27 : decode cX5_fits 27 = .ok (.invokevirtual 61, 3) := by decide +kernel
theorem dX5_fits_30 : decode cX5_fits 30 = .ok (.ireturn, 1) := by decide +kernel
theorem dX5_fits_31 : decode cX5_fits 31 = .ok (.iconst 0, 1) := by decide +kernel
theorem dX5_fits_32 : decode cX5_fits 32 = .ok (.istore 4, 2) := by decide +kernel
theorem dX5_fits_34 : decode cX5_fits 34 = .ok (.iconst 0, 1) := by decide +kernel
theorem dX5_fits_35 : decode cX5_fits 35 = .ok (.istore 5, 2) := by decide +kernel
theorem dX5_fits_37 : decode cX5_fits 37 = .ok (.iload 5, 2) := by decide +kernel
theorem dX5_fits_39 : decode cX5_fits 39 = .ok (.bipush 16, 2) := by decide +kernel
theorem dX5_fits_41 : decode cX5_fits 41 = .ok (.if_icmp .ge 56, 3) := by decide +kernel
theorem dX5_fits_44 : decode cX5_fits 44 = .ok (.aload_n 0, 1) := by decide +kernel
theorem dX5_fits_45 : decode cX5_fits 45 = .ok (.iload_n 2, 1) := by decide +kernel
theorem dX5_fits_46 : decode cX5_fits 46 = .ok (.iload 5, 2) := by decide +kernel
theorem dX5_fits_48 : decode cX5_fits 48 = .ok (.invokevirtual 204, 3) := by decide +kernel
theorem dX5_fits_51 : decode cX5_fits 51 = .ok (.aload_n 0, 1) := by decide +kernel
theorem dX5_fits_52 : decode cX5_fits 52 = .ok (.getfield 19, 3) := by decide +kernel
theorem dX5_fits_55 : decode cX5_fits 55 = .ok (.invokevirtual 166, 3) := by decide +kernel
theorem dX5_fits_58 : decode cX5_fits 58 = .ok (.aload_n 0, 1) := by decide +kernel
theorem dX5_fits_59 : decode cX5_fits 59 = .ok (.getfield 38, 3) := by decide +kernel
theorem dX5_fits_62 : decode cX5_fits 62 = .ok (.iload_n 1, 1) := by decide +kernel
theorem dX5_fits_63 : decode cX5_fits 63 = .ok (.aaload, 1) := by decide +kernel
theorem dX5_fits_64 : decode cX5_fits 64 = .ok (.aload_n 0, 1) := by decide +kernel
theorem dX5_fits_65 : decode cX5_fits 65 = .ok (.getfield 19, 3) := by decide +kernel
theorem dX5_fits_68 : decode cX5_fits 68 = .ok (.getfield 99, 3) := by decide +kernel
theorem dX5_fits_71 : decode cX5_fits 71 = .ok (.iload_n 2, 1) := by decide +kernel
theorem dX5_fits_72 : decode cX5_fits 72 = .ok (.aaload, 1) := by decide +kernel
theorem dX5_fits_73 : decode cX5_fits 73 = .ok (.getfield 163, 3) := by decide +kernel
theorem dX5_fits_76 : decode cX5_fits 76 = .ok (.invokevirtual 213, 3) := by decide +kernel
theorem dX5_fits_79 : decode cX5_fits 79 = .ok (.ifCond .eq 12, 3) := by decide +kernel
theorem dX5_fits_82 : decode cX5_fits 82 = .ok (.iload 4, 2) := by decide +kernel
theorem dX5_fits_84 : decode cX5_fits 84 = .ok (.iconst 1, 1) := by decide +kernel
theorem dX5_fits_85 : decode cX5_fits 85 = .ok (.iload 5, 2) := by decide +kernel
theorem dX5_fits_87 : decode cX5_fits 87 = .ok (.ishl, 1) := by decide +kernel
theorem dX5_fits_88 : decode cX5_fits 88 = .ok (.ior, 1) := by decide +kernel
theorem dX5_fits_89 : decode cX5_fits 89 = .ok (.istore 4, 2) := by decide +kernel
theorem dX5_fits_91 : decode cX5_fits 91 = .ok (.iinc 5 1, 3) := by decide +kernel
theorem dX5_fits_94 : decode cX5_fits 94 = .ok (.goto (-57), 3) := by decide +kernel
theorem dX5_fits_97 : decode cX5_fits 97 = .ok (.iload 4, 2) := by decide +kernel
theorem dX5_fits_99 : decode cX5_fits 99 = .ok (.ireturn, 1) := by decide +kernel
theorem dX5_kinds_0 : decode cX5_kinds 0 = .ok (.aload_n 0, 1) := by decide +kernel
theorem dX5_kinds_1 : decode cX5_kinds 1 = .ok (.iload_n 1, 1) := by decide +kernel
theorem dX5_kinds_2 : decode cX5_kinds 2 = .ok (.invokevirtual 210, 3) := by decide +kernel
theorem dX5_kinds_5 : decode cX5_kinds 5 = .ok (.istore_n 3, 1) := by decide +kernel
theorem dX5_kinds_6 : decode cX5_kinds 6 = .ok (.iload_n 3, 1) := by decide +kernel
theorem dX5_kinds_7 : decode cX5_kinds 7 = .ok (.iconst (-1), 1) := by decide +kernel
theorem dX5_kinds_8 : decode cX5_kinds 8 = .ok (.if_icmp .eq 9, 3) := by decide +kernel
theorem dX5_kinds_11 : decode cX5_kinds 11 = .ok (.aload_n 0, 1) := by decide +kernel
theorem dX5_kinds_12 : decode cX5_kinds 12 = .ok (.iload_n 3, 1) := by decide +kernel
theorem dX5_kinds_13 : decode cX5_kinds 13 = .ok (.invokevirtual 61, 3) := by decide +kernel
theorem dX5_kinds_16 : decode cX5_kinds 16 = .ok (.ireturn, 1) := by decide +kernel
theorem dX5_kinds_17 : decode cX5_kinds 17 = .ok (.aload_n 0, 1) := by decide +kernel
theorem dX5_kinds_18 : decode cX5_kinds 18 = .ok (.iload_n 2, 1) := by decide +kernel
theorem dX5_kinds_19 : decode cX5_kinds 19 = .ok (.invokevirtual 96, 3) := by decide +kernel
theorem dX5_kinds_22 : decode cX5_kinds 22 = .ok (.ifCond .ne 9, 3) := by decide +kernel
theorem dX5_kinds_25 : decode cX5_kinds 25 = .ok (.aload_n 0, 1) := by decide +kernel
theorem dX5_kinds_26 : decode cX5_kinds 26 = .ok (.iconst 0, 1) := by decide +kernel
theorem dX5_kinds_27 : decode cX5_kinds 27 = .ok (.invokevirtual 61, 3) := by decide +kernel
theorem dX5_kinds_30 : decode cX5_kinds 30 = .ok (.ireturn, 1) := by decide +kernel
theorem dX5_kinds_31 : decode cX5_kinds 31 = .ok (.iconst 0, 1) := by decide +kernel
theorem dX5_kinds_32 : decode cX5_kinds 32 = .ok (.istore 4, 2) := by decide +kernel
theorem dX5_kinds_34 : decode cX5_kinds 34 = .ok (.iconst 0, 1) := by decide +kernel
theorem dX5_kinds_35 : decode cX5_kinds 35 = .ok (.istore 5, 2) := by decide +kernel
theorem dX5_kinds_37 : decode cX5_kinds 37 = .ok (.iload 5, 2) := by decide +kernel
theorem dX5_kinds_39 : decode cX5_kinds 39 = .ok (.bipush 7, 2) := by decide +kernel
theorem dX5_kinds_41 : decode cX5_kinds 41 = .ok (.if_icmp .ge 74, 3) := by decide +kernel
theorem dX5_kinds_44 : decode cX5_kinds 44 = .ok (.aload_n 0, 1) := by decide +kernel
theorem dX5_kinds_45 : decode cX5_kinds 45 = .ok (.getfield 19, 3) := by decide +kernel
theorem dX5_kinds_48 : decode cX5_kinds 48 = .ok (.aload_n 0, 1) := by decide +kernel
theorem dX5_kinds_49 : decode cX5_kinds 49 = .ok (.getfield 10, 3) := by decide +kernel
theorem dX5_kinds_52 : decode cX5_kinds 52 = .ok (.invokevirtual 159, 3) := by decide +kernel
theorem dX5_kinds_55 : decode cX5_kinds 55 = .ok (.aload_n 0, 1) := by decide +kernel
theorem dX5_kinds_56 : decode cX5_kinds 56 = .ok (.getfield 19, 3) := by decide +kernel
theorem dX5_kinds_59 : decode cX5_kinds 59 = .ok (.getfield 99, 3) := by decide +kernel
theorem dX5_kinds_62 : decode cX5_kinds 62 = .ok (.iload_n 2, 1) := by decide +kernel
theorem dX5_kinds_63 : decode cX5_kinds 63 = .ok (.aaload, 1) := by decide +kernel
theorem dX5_kinds_64 : decode cX5_kinds 64 = .ok (.iload 5, 2) := by decide +kernel
theorem dX5_kinds_66 : decode cX5_kinds 66 = .ok (.putfield 197, 3) := by decide +kernel
theorem dX5_kinds_69 : decode cX5_kinds 69 = .ok (.aload_n 0, 1) := by decide +kernel
theorem dX5_kinds_70 : decode cX5_kinds 70 = .ok (.getfield 19, 3) := by decide +kernel
theorem dX5_kinds_73 : decode cX5_kinds 73 = .ok (.invokevirtual 166, 3) := by decide +kernel
theorem dX5_kinds_76 : decode cX5_kinds 76 = .ok (.aload_n 0, 1) := by decide +kernel
theorem dX5_kinds_77 : decode cX5_kinds 77 = .ok (.getfield 38, 3) := by decide +kernel
theorem dX5_kinds_80 : decode cX5_kinds 80 = .ok (.iload_n 1, 1) := by decide +kernel
theorem dX5_kinds_81 : decode cX5_kinds 81 = .ok (.aaload, 1) := by decide +kernel
theorem dX5_kinds_82 : decode cX5_kinds 82 = .ok (.aload_n 0, 1) := by decide +kernel
theorem dX5_kinds_83 : decode cX5_kinds 83 = .ok (.getfield 19, 3) := by decide +kernel
theorem dX5_kinds_86 : decode cX5_kinds 86 = .ok (.getfield 99, 3) := by decide +kernel
theorem dX5_kinds_89 : decode cX5_kinds 89 = .ok (.iload_n 2, 1) := by decide +kernel
theorem dX5_kinds_90 : decode cX5_kinds 90 = .ok (.aaload, 1) := by decide +kernel
theorem dX5_kinds_91 : decode cX5_kinds 91 = .ok (.getfield 163, 3) := by decide +kernel
theorem dX5_kinds_94 : decode cX5_kinds 94 = .ok (.invokevirtual 213, 3) := by decide +kernel
theorem dX5_kinds_97 : decode cX5_kinds 97 = .ok (.ifCond .eq 12, 3) := by decide +kernel
theorem dX5_kinds_100 : decode cX5_kinds 100 = .ok (.iload 4, 2) := by decide +kernel
theorem dX5_kinds_102 : decode cX5_kinds 102 = .ok (.iconst 1, 1) := by decide +kernel
theorem dX5_kinds_103 : decode cX5_kinds 103 = .ok (.iload 5, 2) := by decide +kernel
theorem dX5_kinds_105 : decode cX5_kinds 105 = .ok (.ishl, 1) := by decide +kernel
theorem dX5_kinds_106 : decode cX5_kinds 106 = .ok (.ior, 1) := by decide +kernel
theorem dX5_kinds_107 : decode cX5_kinds 107 = .ok (.istore 4, 2) := by decide +kernel
theorem dX5_kinds_109 : decode cX5_kinds 109 = .ok (.iinc 5 1, 3) := by decide +kernel
theorem dX5_kinds_112 : decode cX5_kinds 112 = .ok (.goto (-75), 3) := by decide +kernel
theorem dX5_kinds_115 : decode cX5_kinds 115 = .ok (.iload 4, 2) := by decide +kernel
theorem dX5_kinds_117 : decode cX5_kinds 117 = .ok (.ireturn, 1) := by decide +kernel
theorem dX5_nomads_0 : decode cX5_nomads 0 = .ok (.iload_n 1, 1) := by decide +kernel
theorem dX5_nomads_1 : decode cX5_nomads 1 = .ok (.iconst 1, 1) := by decide +kernel
theorem dX5_nomads_2 : decode cX5_nomads 2 = .ok (.bipush 20, 2) := by decide +kernel
theorem dX5_nomads_4 : decode cX5_nomads 4 = .ok (.invokestatic 68, 3) := by decide +kernel
theorem dX5_nomads_7 : decode cX5_nomads 7 = .ok (.ifCond .ne 9, 3) := by decide +kernel
theorem dX5_nomads_10 : decode cX5_nomads 10 = .ok (.aload_n 0, 1) := by decide +kernel
theorem dX5_nomads_11 : decode cX5_nomads 11 = .ok (.iconst 0, 1) := by decide +kernel
theorem dX5_nomads_12 : decode cX5_nomads 12 = .ok (.invokevirtual 61, 3) := by decide +kernel
theorem dX5_nomads_15 : decode cX5_nomads 15 = .ok (.ireturn, 1) := by decide +kernel
theorem dX5_nomads_16 : decode cX5_nomads 16 = .ok (.aload_n 0, 1) := by decide +kernel
theorem dX5_nomads_17 : decode cX5_nomads 17 = .ok (.getfield 10, 3) := by decide +kernel
theorem dX5_nomads_20 : decode cX5_nomads 20 = .ok (.getfield 119, 3) := by decide +kernel
theorem dX5_nomads_23 : decode cX5_nomads 23 = .ok (.iload_n 1, 1) := by decide +kernel
theorem dX5_nomads_24 : decode cX5_nomads 24 = .ok (.iadd, 1) := by decide +kernel
theorem dX5_nomads_25 : decode cX5_nomads 25 = .ok (.ldc 122, 2) := by decide +kernel
theorem dX5_nomads_27 : decode cX5_nomads 27 = .ok (.if_icmp .le 9, 3) := by decide +kernel
theorem dX5_nomads_30 : decode cX5_nomads 30 = .ok (.aload_n 0, 1) := by decide +kernel
theorem dX5_nomads_31 : decode cX5_nomads 31 = .ok (.iconst 4, 1) := by decide +kernel
theorem dX5_nomads_32 : decode cX5_nomads 32 = .ok (.invokevirtual 61, 3) := by decide +kernel
theorem dX5_nomads_35 : decode cX5_nomads 35 = .ok (.ireturn, 1) := by decide +kernel
theorem dX5_nomads_36 : decode cX5_nomads 36 = .ok (.iconst 0, 1) := by decide +kernel
theorem dX5_nomads_37 : decode cX5_nomads 37 = .ok (.istore_n 2, 1) := by decide +kernel
theorem dX5_nomads_38 : decode cX5_nomads 38 = .ok (.iload_n 2, 1) := by decide +kernel
theorem dX5_nomads_39 : decode cX5_nomads 39 = .ok (.iload_n 1, 1) := by decide +kernel
theorem dX5_nomads_40 : decode cX5_nomads 40 = .ok (.if_icmp .ge 61, 3) := by decide +kernel
theorem dX5_nomads_43 : decode cX5_nomads 43 = .ok (.aload_n 0, 1) := by decide +kernel
theorem dX5_nomads_44 : decode cX5_nomads 44 = .ok (.getfield 10, 3) := by decide +kernel
theorem dX5_nomads_47 : decode cX5_nomads 47 = .ok (.invokevirtual 216, 3) := by decide +kernel
theorem dX5_nomads_50 : decode cX5_nomads 50 = .ok (.bipush 8, 2) := by decide +kernel
theorem dX5_nomads_52 : decode cX5_nomads 52 = .ok (.irem, 1) := by decide +kernel
theorem dX5_nomads_53 : decode cX5_nomads 53 = .ok (.istore_n 3, 1) := by decide +kernel
theorem dX5_nomads_54 : decode cX5_nomads 54 = .ok (.aload_n 0, 1) := by decide +kernel
theorem dX5_nomads_55 : decode cX5_nomads 55 = .ok (.getfield 10, 3) := by decide +kernel
theorem dX5_nomads_58 : decode cX5_nomads 58 = .ok (.invokevirtual 216, 3) := by decide +kernel
theorem dX5_nomads_61 : decode cX5_nomads 61 = .ok (.bipush 16, 2) := by decide +kernel
theorem dX5_nomads_63 : decode cX5_nomads 63 = .ok (.irem, 1) := by decide +kernel
theorem dX5_nomads_64 : decode cX5_nomads 64 = .ok (.istore 4, 2) := by decide +kernel
theorem dX5_nomads_66 : decode cX5_nomads 66 = .ok (.aload_n 0, 1) := by decide +kernel
theorem dX5_nomads_67 : decode cX5_nomads 67 = .ok (.iload_n 3, 1) := by decide +kernel
theorem dX5_nomads_68 : decode cX5_nomads 68 = .ok (.invokevirtual 96, 3) := by decide +kernel
theorem dX5_nomads_71 : decode cX5_nomads 71 = .ok (.ifCond .eq 17, 3) := by decide +kernel
theorem dX5_nomads_74 : decode cX5_nomads 74 = .ok (.aload_n 0, 1) := by decide +kernel
theorem dX5_nomads_75 : decode cX5_nomads 75 = .ok (.getfield 10, 3) := by decide +kernel
theorem dX5_nomads_78 : decode cX5_nomads 78 = .ok (.getfield 99, 3) := by decide +kernel
theorem dX5_nomads_81 : decode cX5_nomads 81 = .ok (.iload_n 3, 1) := by decide +kernel
theorem dX5_nomads_82 : decode cX5_nomads 82 = .ok (.aaload, 1) := by decide +kernel
theorem dX5_nomads_83 : decode cX5_nomads 83 = .ok (.iload 4, 2) := by decide +kernel
theorem dX5_nomads_85 : decode cX5_nomads 85 = .ok (.putfield 194, 3) := by decide +kernel
theorem dX5_nomads_88 : decode cX5_nomads 88 = .ok (.aload_n 0, 1) := by decide +kernel
theorem dX5_nomads_89 : decode cX5_nomads 89 = .ok (.getfield 10, 3) := by decide +kernel
theorem dX5_nomads_92 : decode cX5_nomads 92 = .ok (.invokevirtual 166, 3) := by decide +kernel
theorem dX5_nomads_95 : decode cX5_nomads 95 = .ok (.iinc 2 1, 3) := by decide +kernel
theorem dX5_nomads_98 : decode cX5_nomads 98 = .ok (.goto (-60), 3) := by decide +kernel
theorem dX5_nomads_101 : decode cX5_nomads 101 = .ok (.aload_n 0, 1) := by decide +kernel
theorem dX5_nomads_102 : decode cX5_nomads 102 = .ok (.getfield 10, 3) := by decide +kernel
theorem dX5_nomads_105 : decode cX5_nomads 105 = .ok (.invokevirtual 126, 3) := by decide +kernel
theorem dX5_nomads_108 : decode cX5_nomads 108 = .ok (.ireturn, 1) := by decide +kernel
theorem dX5_odds_0 : decode cX5_odds 0 = .ok (.iload_n 1, 1) := by decide +kernel
theorem dX5_odds_1 : decode cX5_odds 1 = .ok (.iconst 0, 1) := by decide +kernel
theorem dX5_odds_2 : decode cX5_odds 2 = .ok (.bipush 15, 2) := by decide +kernel
theorem dX5_odds_4 : decode cX5_odds 4 = .ok (.invokestatic 68, 3) := by decide +kernel
theorem dX5_odds_7 : decode cX5_odds 7 = .ok (.ifCond .eq 12, 3) := by decide +kernel
theorem dX5_odds_10 : decode cX5_odds 10 = .ok (.iload_n 2, 1) := by decide +kernel
theorem dX5_odds_11 : decode cX5_odds 11 = .ok (.iconst 0, 1) := by decide +kernel
theorem dX5_odds_12 : decode cX5_odds 12 = .ok (.iconst 1, 1) := by decide +kernel
theorem dX5_odds_13 : decode cX5_odds 13 = .ok (.invokestatic 68, 3) := by decide +kernel
theorem dX5_odds_16 : decode cX5_odds 16 = .ok (.ifCond .ne 10, 3) := by decide +kernel
theorem dX5_odds_19 : decode cX5_odds 19 = .ok (.aload_n 0, 1) := by decide +kernel
theorem dX5_odds_20 : decode cX5_odds 20 = .ok (.iconst 0, 1) := by decide +kernel
theorem dX5_odds_21 : decode cX5_odds 21 = .ok (.invokevirtual 61, 3) := by decide +kernel
theorem dX5_odds_24 : decode cX5_odds 24 = .ok (.i2l, 1) := by decide +kernel
theorem dX5_odds_25 : decode cX5_odds 25 = .ok (.lreturn, 1) := by decide +kernel
theorem dX5_odds_26 : decode cX5_odds 26 = .ok (.aload_n 0, 1) := by decide +kernel
theorem dX5_odds_27 : decode cX5_odds 27 = .ok (.getfield 10, 3) := by decide +kernel
theorem dX5_odds_30 : decode cX5_odds 30 = .ok (.invokevirtual 219, 3) := by decide +kernel
theorem dX5_odds_33 : decode cX5_odds 33 = .ok (.i2l, 1) := by decide +kernel
theorem dX5_odds_34 : decode cX5_odds 34 = .ok (.lstore_n 3, 1) := by decide +kernel
theorem dX5_odds_35 : decode cX5_odds 35 = .ok (.ldc2_w 222, 3) := by decide +kernel
theorem dX5_odds_38 : decode cX5_odds 38 = .ok (.lstore 5, 2) := by decide +kernel
theorem dX5_odds_40 : decode cX5_odds 40 = .ok (.iconst 0, 1) := by decide +kernel
theorem dX5_odds_41 : decode cX5_odds 41 = .ok (.istore 7, 2) := by decide +kernel
theorem dX5_odds_43 : decode cX5_odds 43 = .ok (.iload 7, 2) := by decide +kernel
theorem dX5_odds_45 : decode cX5_odds 45 = .ok (.iconst 4, 1) := by decide +kernel
theorem dX5_odds_46 : decode cX5_odds 46 = .ok (.if_icmp .ge 33, 3) := by decide +kernel
theorem dX5_odds_49 : decode cX5_odds 49 = .ok (.lload_n 3, 1) := by decide +kernel
theorem dX5_odds_50 : decode cX5_odds 50 = .ok (.ldc2_w 224, 3) := by decide +kernel
theorem dX5_odds_53 : decode cX5_odds 53 = .ok (.lrem, 1) := by decide +kernel
theorem dX5_odds_54 : decode cX5_odds 54 = .ok (.lconst 0, 1) := by decide +kernel
theorem dX5_odds_55 : decode cX5_odds 55 = .ok (.lcmp, 1) := by decide +kernel
theorem dX5_odds_56 : decode cX5_odds 56 = .ok (.ifCond .ne 23, 3) := by decide +kernel
theorem dX5_odds_59 : decode cX5_odds 59 = .ok (.lload_n 3, 1) := by decide +kernel
theorem dX5_odds_60 : decode cX5_odds 60 = .ok (.ldc2_w 224, 3) := by decide +kernel
theorem dX5_odds_63 : decode cX5_odds 63 = .ok (.ldiv, 1) := by decide +kernel
theorem dX5_odds_64 : decode cX5_odds 64 = .ok (.lstore_n 3, 1) := by decide +kernel
theorem dX5_odds_65 : decode cX5_odds 65 = .ok (.lload 5, 2) := by decide +kernel
theorem dX5_odds_67 : decode cX5_odds 67 = .ok (.ldc2_w 224, 3) := by decide +kernel
theorem dX5_odds_70 : decode cX5_odds 70 = .ok (.ldiv, 1) := by decide +kernel
theorem dX5_odds_71 : decode cX5_odds 71 = .ok (.lstore 5, 2) := by decide +kernel
theorem dX5_odds_73 : decode cX5_odds 73 = .ok (.iinc 7 1, 3) := by decide +kernel
theorem dX5_odds_76 : decode cX5_odds 76 = .ok (.goto (-33), 3) := by decide +kernel
theorem dX5_odds_79 : decode cX5_odds 79 = .ok (.iload_n 2, 1) := by decide +kernel
theorem dX5_odds_80 : decode cX5_odds 80 = .ok (.ifCond .ne 7, 3) := by decide +kernel
theorem dX5_odds_83 : decode cX5_odds 83 = .ok (.lload_n 3, 1) := by decide +kernel
theorem dX5_odds_84 : decode cX5_odds 84 = .ok (.goto 5, 3) := by decide +kernel
theorem dX5_odds_87 : decode cX5_odds 87 = .ok (.lload 5, 2) := by decide +kernel
theorem dX5_odds_89 : decode cX5_odds 89 = .ok (.iload_n 1, 1) := by decide +kernel
theorem dX5_odds_90 : decode cX5_odds 90 = .ok (.invokestatic 226, 3) := by decide +kernel
theorem dX5_odds_93 : decode cX5_odds 93 = .ok (.lreturn, 1) := by decide +kernel
theorem dX5_seed_0 : decode cX5_seed 0 = .ok (.aload_n 0, 1) := by decide +kernel
theorem dX5_seed_1 : decode cX5_seed 1 = .ok (.getfield 10, 3) := by decide +kernel
theorem dX5_seed_4 : decode cX5_seed 4 = .ok (.getfield 230, 3) := by decide +kernel
theorem dX5_seed_7 : decode cX5_seed 7 = .ok (.istore_n 2, 1) := by decide +kernel
theorem dX5_seed_8 : decode cX5_seed 8 = .ok (.aload_n 0, 1) := by decide +kernel
theorem dX5_seed_9 : decode cX5_seed 9 = .ok (.getfield 10, 3) := by decide +kernel
theorem dX5_seed_12 : decode cX5_seed 12 = .ok (.iload_n 1, 1) := by decide +kernel
theorem dX5_seed_13 : decode cX5_seed 13 = .ok (.putfield 230, 3) := by decide +kernel
theorem dX5_seed_16 : decode cX5_seed 16 = .ok (.iload_n 2, 1) := by decide +kernel
theorem dX5_seed_17 : decode cX5_seed 17 = .ok (.ireturn, 1) := by decide +kernel
theorem dX5_feed_0 : decode cX5_feed 0 = .ok (.iload_n 2, 1) := by decide +kernel
theorem dX5_feed_1 : decode cX5_feed 1 = .ok (.iconst 1, 1) := by decide +kernel
theorem dX5_feed_2 : decode cX5_feed 2 = .ok (.iconst 4, 1) := by decide +kernel
theorem dX5_feed_3 : decode cX5_feed 3 = .ok (.invokestatic 68, 3) := by decide +kernel
theorem dX5_feed_6 : decode cX5_feed 6 = .ok (.ifCond .ne 9, 3) := by decide +kernel
theorem dX5_feed_9 : decode cX5_feed 9 = .ok (.aload_n 0, 1) := by decide +kernel
theorem dX5_feed_10 : decode cX5_feed 10 = .ok (.iconst 0, 1) := by decide +kernel
theorem dX5_feed_11 : decode cX5_feed 11 = .ok (.invokevirtual 61, 3) := by decide +kernel
theorem dX5_feed_14 : decode cX5_feed 14 = .ok (.ireturn, 1) := by decide +kernel
theorem dX5_feed_15 : decode cX5_feed 15 = .ok (.aload_n 0, 1) := by decide +kernel
theorem dX5_feed_16 : decode cX5_feed 16 = .ok (.getfield 32, 3) := by decide +kernel
theorem dX5_feed_19 : decode cX5_feed 19 = .ok (.getfield 233, 3) := by decide +kernel
theorem dX5_feed_22 : decode cX5_feed 22 = .ok (.iload_n 2, 1) := by decide +kernel
theorem dX5_feed_23 : decode cX5_feed 23 = .ok (.iadd, 1) := by decide +kernel
theorem dX5_feed_24 : decode cX5_feed 24 = .ok (.bipush 120, 2) := by decide +kernel
theorem dX5_feed_26 : decode cX5_feed 26 = .ok (.if_icmp .le 9, 3) := by decide +kernel
theorem dX5_feed_29 : decode cX5_feed 29 = .ok (.aload_n 0, 1) := by decide +kernel
theorem dX5_feed_30 : decode cX5_feed 30 = .ok (.iconst 1, 1) := by decide +kernel
theorem dX5_feed_31 : decode cX5_feed 31 = .ok (.invokevirtual 61, 3) := by decide +kernel
theorem dX5_feed_34 : decode cX5_feed 34 = .ok (.ireturn, 1) := by decide +kernel
theorem dX5_feed_35 : decode cX5_feed 35 = .ok (.iload_n 2, 1) := by decide +kernel
theorem dX5_feed_36 : decode cX5_feed 36 = .ok (.iconst 1, 1) := by decide +kernel
theorem dX5_feed_37 : decode cX5_feed 37 = .ok (.isub, 1) := by decide +kernel
theorem dX5_feed_38 : decode cX5_feed 38 = .ok (.istore_n 3, 1) := by decide +kernel
theorem dX5_feed_39 : decode cX5_feed 39 = .ok (.iload_n 3, 1) := by decide +kernel
theorem dX5_feed_40 : decode cX5_feed 40 = .ok (.ifCond .lt 26, 3) := by decide +kernel
theorem dX5_feed_43 : decode cX5_feed 43 = .ok (.aload_n 0, 1) := by decide +kernel
theorem dX5_feed_44 : decode cX5_feed 44 = .ok (.getfield 32, 3) := by decide +kernel
theorem dX5_feed_47 : decode cX5_feed 47 = .ok (.iload_n 1, 1) := by decide +kernel
theorem dX5_feed_48 : decode cX5_feed 48 = .ok (.bipush 8, 2) := by decide +kernel
theorem dX5_feed_50 : decode cX5_feed 50 = .ok (.iload_n 3, 1) := by decide +kernel
theorem dX5_feed_51 : decode cX5_feed 51 = .ok (.imul, 1) := by decide +kernel
theorem dX5_feed_52 : decode cX5_feed 52 = .ok (.iushr, 1) := by decide +kernel
theorem dX5_feed_53 : decode cX5_feed 53 = .ok (.sipush 255, 3) := by decide +kernel
theorem dX5_feed_56 : decode cX5_feed 56 = .ok (.iand, 1) := by decide +kernel
theorem dX5_feed_57 : decode cX5_feed 57 = .ok (.invokevirtual 236, 3) := by decide +kernel
theorem dX5_feed_60 : decode cX5_feed 60 = .ok (.iinc 3 (-1), 3) := by decide +kernel
theorem dX5_feed_63 : decode cX5_feed 63 = .ok (.goto (-24), 3) := by decide +kernel
theorem dX5_feed_66 : decode cX5_feed 66 = .ok (.aload_n 0, 1) := by decide +kernel
theorem dX5_feed_67 : decode cX5_feed 67 = .ok (.getfield 32, 3) := by decide +kernel
theorem dX5_feed_70 : decode cX5_feed 70 = .ok (.getfield 233, 3) := by decide +kernel
theorem dX5_feed_73 : decode cX5_feed 73 = .ok (.ireturn, 1) := by decide +kernel
theorem dX5_wipe_0 : decode cX5_wipe 0 = .ok (.aload_n 0, 1) := by decide +kernel
theorem dX5_wipe_1 : decode cX5_wipe 1 = .ok (.getfield 32, 3) := by decide +kernel
theorem dX5_wipe_4 : decode cX5_wipe 4 = .ok (.getfield 233, 3) := by decide +kernel
theorem dX5_wipe_7 : decode cX5_wipe 7 = .ok (.istore_n 1, 1) := by decide +kernel
theorem dX5_wipe_8 : decode cX5_wipe 8 = .ok (.aload_n 0, 1) := by decide +kernel
theorem dX5_wipe_9 : decode cX5_wipe 9 = .ok (.getfield 32, 3) := by decide +kernel
theorem dX5_wipe_12 : decode cX5_wipe 12 = .ok (.iconst 0, 1) := by decide +kernel
theorem dX5_wipe_13 : decode cX5_wipe 13 = .ok (.putfield 233, 3) := by decide +kernel
theorem dX5_wipe_16 : decode cX5_wipe 16 = .ok (.iload_n 1, 1) := by decide +kernel
theorem dX5_wipe_17 : decode cX5_wipe 17 = .ok (.ireturn, 1) := by decide +kernel
theorem dX5_text_0 : decode cX5_text 0 = .ok (.aload_n 0, 1) := by decide +kernel
theorem dX5_text_1 : decode cX5_text 1 = .ok (.getfield 19, 3) := by decide +kernel
theorem dX5_text_4 : decode cX5_text 4 = .ok (.aload_n 0, 1) := by decide +kernel
theorem dX5_text_5 : decode cX5_text 5 = .ok (.getfield 10, 3) := by decide +kernel
theorem dX5_text_8 : decode cX5_text 8 = .ok (.invokevirtual 159, 3) := by decide +kernel
theorem dX5_text_11 : decode cX5_text 11 = .ok (.aload_n 0, 1) := by decide +kernel
theorem dX5_text_12 : decode cX5_text 12 = .ok (.getfield 32, 3) := by decide +kernel
theorem dX5_text_15 : decode cX5_text 15 = .ok (.aload_n 0, 1) := by decide +kernel
theorem dX5_text_16 : decode cX5_text 16 = .ok (.getfield 19, 3) := by decide +kernel
theorem dX5_text_19 : decode cX5_text 19 = .ok (.invokevirtual 239, 3) := by decide +kernel
theorem dX5_text_22 : decode cX5_text 22 = .ok (.istore_n 1, 1) := by decide +kernel
theorem dX5_text_23 : decode cX5_text 23 = .ok (.aload_n 0, 1) := by decide +kernel
theorem dX5_text_24 : decode cX5_text 24 = .ok (.getfield 32, 3) := by decide +kernel
theorem dX5_text_27 : decode cX5_text 27 = .ok (.iconst 0, 1) := by decide +kernel
theorem dX5_text_28 : decode cX5_text 28 = .ok (.putfield 233, 3) := by decide +kernel
theorem dX5_text_31 : decode cX5_text 31 = .ok (.iload_n 1, 1) := by decide +kernel
theorem dX5_text_32 : decode cX5_text 32 = .ok (.ifCond .lt 14, 3) := by decide +kernel
theorem dX5_text_35 : decode cX5_text 35 = .ok (.aload_n 0, 1) := by decide +kernel
theorem dX5_text_36 : decode cX5_text 36 = .ok (.getfield 10, 3) := by decide +kernel
theorem dX5_text_39 : decode cX5_text 39 = .ok (.aload_n 0, 1) := by decide +kernel
theorem dX5_text_40 : decode cX5_text 40 = .ok (.getfield 19, 3) := by decide +kernel
theorem dX5_text_43 : decode cX5_text 43 = .ok (.invokevirtual 159, 3) := by decide +kernel
theorem dX5_text_46 : decode cX5_text 46 = .ok (.iload_n 1, 1) := by decide +kernel
theorem dX5_text_47 : decode cX5_text 47 = .ok (.ireturn, 1) := by decide +kernel
theorem dX5_hold_0 : decode cX5_hold 0 = .ok (.iload_n 1, 1) := by decide +kernel
theorem dX5_hold_1 : decode cX5_hold 1 = .ok (.iconst 0, 1) := by decide +kernel
theorem dX5_hold_2 : decode cX5_hold 2 = .ok (.bipush 9, 2) := by decide +kernel
theorem dX5_hold_4 : decode cX5_hold 4 = .ok (.invokestatic 68, 3) := by decide +kernel
theorem dX5_hold_7 : decode cX5_hold 7 = .ok (.ifCond .eq 16, 3) := by decide +kernel
theorem dX5_hold_10 : decode cX5_hold 10 = .ok (.iload_n 2, 1) := by decide +kernel
theorem dX5_hold_11 : decode cX5_hold 11 = .ok (.iconst (-1), 1) := by decide +kernel
theorem dX5_hold_12 : decode cX5_hold 12 = .ok (.if_icmp .eq 17, 3) := by decide +kernel
theorem dX5_hold_15 : decode cX5_hold 15 = .ok (.aload_n 0, 1) := by decide +kernel
theorem dX5_hold_16 : decode cX5_hold 16 = .ok (.iload_n 2, 1) := by decide +kernel
theorem dX5_hold_17 : decode cX5_hold 17 = .ok (.invokevirtual 96, 3) := by decide +kernel
theorem dX5_hold_20 : decode cX5_hold 20 = .ok (.ifCond .ne 9, 3) := by decide +kernel
theorem dX5_hold_23 : decode cX5_hold 23 = .ok (.aload_n 0, 1) := by decide +kernel
theorem dX5_hold_24 : decode cX5_hold 24 = .ok (.iconst 0, 1) := by decide +kernel
theorem dX5_hold_25 : decode cX5_hold 25 = .ok (.invokevirtual 61, 3) := by decide +kernel
theorem dX5_hold_28 : decode cX5_hold 28 = .ok (.ireturn, 1) := by decide +kernel
theorem dX5_hold_29 : decode cX5_hold 29 = .ok (.aload_n 0, 1) := by decide +kernel
theorem dX5_hold_30 : decode cX5_hold 30 = .ok (.getfield 10, 3) := by decide +kernel
theorem dX5_hold_33 : decode cX5_hold 33 = .ok (.getfield 243, 3) := by decide +kernel
theorem dX5_hold_36 : decode cX5_hold 36 = .ok (.iload_n 1, 1) := by decide +kernel
theorem dX5_hold_37 : decode cX5_hold 37 = .ok (.iload_n 2, 1) := by decide +kernel
theorem dX5_hold_38 : decode cX5_hold 38 = .ok (.iastore, 1) := by decide +kernel
theorem dX5_hold_39 : decode cX5_hold 39 = .ok (.iconst 1, 1) := by decide +kernel
theorem dX5_hold_40 : decode cX5_hold 40 = .ok (.ireturn, 1) := by decide +kernel
theorem dX5_as_0 : decode cX5_as 0 = .ok (.iload_n 1, 1) := by decide +kernel
theorem dX5_as_1 : decode cX5_as 1 = .ok (.iconst 0, 1) := by decide +kernel
theorem dX5_as_2 : decode cX5_as 2 = .ok (.bipush 9, 2) := by decide +kernel
theorem dX5_as_4 : decode cX5_as 4 = .ok (.invokestatic 68, 3) := by decide +kernel
theorem dX5_as_7 : decode cX5_as 7 = .ok (.ifCond .eq 10, 3) := by decide +kernel
theorem dX5_as_10 : decode cX5_as 10 = .ok (.iload_n 2, 1) := by decide +kernel
theorem dX5_as_11 : decode cX5_as 11 = .ok (.invokestatic 85, 3) := by decide +kernel
theorem dX5_as_14 : decode cX5_as 14 = .ok (.ifCond .ne 9, 3) := by decide +kernel
theorem dX5_as_17 : decode cX5_as 17 = .ok (.aload_n 0, 1) := by decide +kernel
theorem dX5_as_18 : decode cX5_as 18 = .ok (.iconst 0, 1) := by decide +kernel
theorem dX5_as_19 : decode cX5_as 19 = .ok (.invokevirtual 61, 3) := by decide +kernel
theorem dX5_as_22 : decode cX5_as 22 = .ok (.ireturn, 1) := by decide +kernel
theorem dX5_as_23 : decode cX5_as 23 = .ok (.aload_n 0, 1) := by decide +kernel
theorem dX5_as_24 : decode cX5_as 24 = .ok (.getfield 10, 3) := by decide +kernel
theorem dX5_as_27 : decode cX5_as 27 = .ok (.getfield 243, 3) := by decide +kernel
theorem dX5_as_30 : decode cX5_as 30 = .ok (.iload_n 1, 1) := by decide +kernel
theorem dX5_as_31 : decode cX5_as 31 = .ok (.iaload, 1) := by decide +kernel
theorem dX5_as_32 : decode cX5_as 32 = .ok (.istore_n 3, 1) := by decide +kernel
theorem dX5_as_33 : decode cX5_as 33 = .ok (.aload_n 0, 1) := by decide +kernel
theorem dX5_as_34 : decode cX5_as 34 = .ok (.iload_n 3, 1) := by decide +kernel
theorem dX5_as_35 : decode cX5_as 35 = .ok (.invokevirtual 96, 3) := by decide +kernel
theorem dX5_as_38 : decode cX5_as 38 = .ok (.ifCond .ne 9, 3) := by decide +kernel
theorem dX5_as_41 : decode cX5_as 41 = .ok (.aload_n 0, 1) := by decide +kernel
theorem dX5_as_42 : decode cX5_as 42 = .ok (.iconst 5, 1) := by decide +kernel
theorem dX5_as_43 : decode cX5_as 43 = .ok (.invokevirtual 61, 3) := by decide +kernel
theorem dX5_as_46 : decode cX5_as 46 = .ok (.ireturn, 1) := by decide +kernel
theorem dX5_as_47 : decode cX5_as 47 = .ok (.aload_n 0, 1) := by decide +kernel
theorem dX5_as_48 : decode cX5_as 48 = .ok (.getfield 10, 3) := by decide +kernel
theorem dX5_as_51 : decode cX5_as 51 = .ok (.getfield 99, 3) := by decide +kernel
theorem dX5_as_54 : decode cX5_as 54 = .ok (.iload_n 3, 1) := by decide +kernel
theorem dX5_as_55 : decode cX5_as 55 = .ok (.aaload, 1) := by decide +kernel
theorem dX5_as_56 : decode cX5_as 56 = .ok (.getfield 197, 3) := by decide +kernel
theorem dX5_as_59 : decode cX5_as 59 = .ok (.iload_n 2, 1) := by decide +kernel
theorem dX5_as_60 : decode cX5_as 60 = .ok (.invokestatic 246, 3) := by decide +kernel
theorem dX5_as_63 : decode cX5_as 63 = .ok (.ifCond .ne 9, 3) := by decide +kernel
theorem dX5_as_66 : decode cX5_as 66 = .ok (.aload_n 0, 1) := by decide +kernel
theorem dX5_as_67 : decode cX5_as 67 = .ok (.iconst 2, 1) := by decide +kernel
theorem dX5_as_68 : decode cX5_as 68 = .ok (.invokevirtual 61, 3) := by decide +kernel
theorem dX5_as_71 : decode cX5_as 71 = .ok (.ireturn, 1) := by decide +kernel
theorem dX5_as_72 : decode cX5_as 72 = .ok (.iload_n 3, 1) := by decide +kernel
theorem dX5_as_73 : decode cX5_as 73 = .ok (.ireturn, 1) := by decide +kernel
theorem dX5_sheet_0 : decode cX5_sheet 0 = .ok (.iload_n 1, 1) := by decide +kernel
theorem dX5_sheet_1 : decode cX5_sheet 1 = .ok (.invokestatic 249, 3) := by decide +kernel
theorem dX5_sheet_4 : decode cX5_sheet 4 = .ok (.ifCond .eq 25, 3) := by decide +kernel
theorem dX5_sheet_7 : decode cX5_sheet 7 = .ok (.iload_n 2, 1) := by decide +kernel
theorem dX5_sheet_8 : decode cX5_sheet 8 = .ok (.ifCond .eq 27, 3) := by decide +kernel
theorem dX5_sheet_11 : decode cX5_sheet 11 = .ok (.iload_n 2, 1) := by decide +kernel
theorem dX5_sheet_12 : decode cX5_sheet 12 = .ok (.bipush 8, 2) := by decide +kernel
theorem dX5_sheet_14 : decode cX5_sheet 14 = .ok (.if_icmp .eq 21, 3) := by decide +kernel
theorem dX5_sheet_17 : decode cX5_sheet 17 = .ok (.iload_n 2, 1) := by decide +kernel
theorem dX5_sheet_18 : decode cX5_sheet 18 = .ok (.bipush 16, 2) := by decide +kernel
theorem dX5_sheet_20 : decode cX5_sheet 20 = .ok (.if_icmp .eq 15, 3) := by decide +kernel
theorem dX5_sheet_23 : decode cX5_sheet 23 = .ok (.iload_n 2, 1) := by decide +kernel
theorem dX5_sheet_24 : decode cX5_sheet 24 = .ok (.bipush 32, 2) := by decide +kernel
theorem dX5_sheet_26 : decode cX5_sheet 26 = .ok (.if_icmp .eq 9, 3) := by decide +kernel
theorem dX5_sheet_29 : decode cX5_sheet 29 = .ok (.aload_n 0, 1) := by decide +kernel
theorem dX5_sheet_30 : decode cX5_sheet 30 = .ok (.iconst 0, 1) := by decide +kernel
theorem dX5_sheet_31 : decode cX5_sheet 31 = .ok (.invokevirtual 61, 3) := by decide +kernel
theorem dX5_sheet_34 : decode cX5_sheet 34 = .ok (.ireturn, 1) := by decide +kernel
theorem dX5_sheet_35 : decode cX5_sheet 35 = .ok (.iload_n 3, 1) := by decide +kernel
theorem dX5_sheet_36 : decode cX5_sheet 36 = .ok (.ifCond .ge 10, 3) := by decide +kernel
theorem dX5_sheet_39 : decode cX5_sheet 39 = .ok (.aload_n 0, 1) := by decide +kernel
theorem dX5_sheet_40 : decode cX5_sheet 40 = .ok (.bipush 6, 2) := by decide +kernel
theorem dX5_sheet_42 : decode cX5_sheet 42 = .ok (.invokevirtual 61, 3) := by decide +kernel
theorem dX5_sheet_45 : decode cX5_sheet 45 = .ok (.ireturn, 1) := by decide +kernel
theorem dX5_sheet_46 : decode cX5_sheet 46 = .ok (.iload_n 3, 1) := by decide +kernel
theorem dX5_sheet_47 : decode cX5_sheet 47 = .ok (.bipush 40, 2) := by decide +kernel
theorem dX5_sheet_49 : decode cX5_sheet 49 = .ok (.if_icmp .le 9, 3) := by decide +kernel
theorem dX5_sheet_52 : decode cX5_sheet 52 = .ok (.aload_n 0, 1) := by decide +kernel
theorem dX5_sheet_53 : decode cX5_sheet 53 = .ok (.iconst 0, 1) := by decide +kernel
theorem dX5_sheet_54 : decode cX5_sheet 54 = .ok (.invokevirtual 61, 3) := by decide +kernel
theorem dX5_sheet_57 : decode cX5_sheet 57 = .ok (.ireturn, 1) := by decide +kernel
theorem dX5_sheet_58 : decode cX5_sheet 58 = .ok (.aload_n 0, 1) := by decide +kernel
theorem dX5_sheet_59 : decode cX5_sheet 59 = .ok (.getfield 38, 3) := by decide +kernel
theorem dX5_sheet_62 : decode cX5_sheet 62 = .ok (.iload_n 1, 1) := by decide +kernel
theorem dX5_sheet_63 : decode cX5_sheet 63 = .ok (.aaload, 1) := by decide +kernel
theorem dX5_sheet_64 : decode cX5_sheet 64 = .ok (.iload_n 2, 1) := by decide +kernel
theorem dX5_sheet_65 : decode cX5_sheet 65 = .ok (.iload_n 2, 1) := by decide +kernel
theorem dX5_sheet_66 : decode cX5_sheet 66 = .ok (.ifCond .ne 7, 3) := by decide +kernel
theorem dX5_sheet_69 : decode cX5_sheet 69 = .ok (.iconst 0, 1) := by decide +kernel
theorem dX5_sheet_70 : decode cX5_sheet 70 = .ok (.goto 4, 3) := by decide +kernel
theorem dX5_sheet_73 : decode cX5_sheet 73 = .ok (.iload_n 3, 1) := by decide +kernel
theorem dX5_sheet_74 : decode cX5_sheet 74 = .ok (.invokevirtual 252, 3) := by decide +kernel
theorem dX5_sheet_77 : decode cX5_sheet 77 = .ok (.aload_n 0, 1) := by decide +kernel
theorem dX5_sheet_78 : decode cX5_sheet 78 = .ok (.getfield 38, 3) := by decide +kernel
theorem dX5_sheet_81 : decode cX5_sheet 81 = .ok (.iload_n 1, 1) := by decide +kernel
theorem dX5_sheet_82 : decode cX5_sheet 82 = .ok (.aaload, 1) := by decide +kernel
theorem dX5_sheet_83 : decode cX5_sheet 83 = .ok (.getfield 255, 3) := by decide +kernel
theorem dX5_sheet_86 : decode cX5_sheet 86 = .ok (.ireturn, 1) := by decide +kernel
theorem dX5_write_0 : decode cX5_write 0 = .ok (.aload_n 0, 1) := by decide +kernel
theorem dX5_write_1 : decode cX5_write 1 = .ok (.iload_n 1, 1) := by decide +kernel
theorem dX5_write_2 : decode cX5_write 2 = .ok (.invokevirtual 210, 3) := by decide +kernel
theorem dX5_write_5 : decode cX5_write 5 = .ok (.istore 4, 2) := by decide +kernel
theorem dX5_write_7 : decode cX5_write 7 = .ok (.iload 4, 2) := by decide +kernel
theorem dX5_write_9 : decode cX5_write 9 = .ok (.iconst (-1), 1) := by decide +kernel
theorem dX5_write_10 : decode cX5_write 10 = .ok (.if_icmp .eq 10, 3) := by decide +kernel
theorem dX5_write_13 : decode cX5_write 13 = .ok (.aload_n 0, 1) := by decide +kernel
theorem dX5_write_14 : decode cX5_write 14 = .ok (.iload 4, 2) := by decide +kernel
theorem dX5_write_16 : decode cX5_write 16 = .ok (.invokevirtual 61, 3) := by decide +kernel
theorem dX5_write_19 : decode cX5_write 19 = .ok (.ireturn, 1) := by decide +kernel
theorem dX5_write_20 : decode cX5_write 20 = .ok (.iload_n 2, 1) := by decide +kernel
theorem dX5_write_21 : decode cX5_write 21 = .ok (.iconst 0, 1) := by decide +kernel
theorem dX5_write_22 : decode cX5_write 22 = .ok (.aload_n 0, 1) := by decide +kernel
theorem dX5_write_23 : decode cX5_write 23 = .ok (.getfield 38, 3) := by decide +kernel
theorem dX5_write_26 : decode cX5_write 26 = .ok (.iload_n 1, 1) := by decide +kernel
theorem dX5_write_27 : decode cX5_write 27 = .ok (.aaload, 1) := by decide +kernel
theorem dX5_write_28 : decode cX5_write 28 = .ok (.getfield 255, 3) := by decide +kernel
theorem dX5_write_31 : decode cX5_write 31 = .ok (.iconst 1, 1) := by decide +kernel
theorem dX5_write_32 : decode cX5_write 32 = .ok (.isub, 1) := by decide +kernel
theorem dX5_write_33 : decode cX5_write 33 = .ok (.invokestatic 68, 3) := by decide +kernel
theorem dX5_write_36 : decode cX5_write 36 = .ok (.ifCond .ne 9, 3) := by decide +kernel
theorem dX5_write_39 : decode cX5_write 39 = .ok (.aload_n 0, 1) := by decide +kernel
theorem dX5_write_40 : decode cX5_write 40 = .ok (.iconst 0, 1) := by decide +kernel
theorem dX5_write_41 : decode cX5_write 41 = .ok (.invokevirtual 61, 3) := by decide +kernel
theorem dX5_write_44 : decode cX5_write 44 = .ok (.ireturn, 1) := by decide +kernel
theorem dX5_write_45 : decode cX5_write 45 = .ok (.aload_n 0, 1) := by decide +kernel
theorem dX5_write_46 : decode cX5_write 46 = .ok (.getfield 38, 3) := by decide +kernel
theorem dX5_write_49 : decode cX5_write 49 = .ok (.iload_n 1, 1) := by decide +kernel
theorem dX5_write_50 : decode cX5_write 50 = .ok (.aaload, 1) := by decide +kernel
theorem dX5_write_51 : decode cX5_write 51 = .ok (.iload_n 2, 1) := by decide +kernel
theorem dX5_write_52 : decode cX5_write 52 = .ok (.iload_n 3, 1) := by decide +kernel
theorem dX5_write_53 : decode cX5_write 53 = .ok (.invokevirtual 256, 3) := by decide +kernel
theorem dX5_write_56 : decode cX5_write 56 = .ok (.iconst 1, 1) := by decide +kernel
theorem dX5_write_57 : decode cX5_write 57 = .ok (.ireturn, 1) := by decide +kernel
theorem dX5_copy_0 : decode cX5_copy 0 = .ok (.iload_n 1, 1) := by decide +kernel
theorem dX5_copy_1 : decode cX5_copy 1 = .ok (.invokestatic 249, 3) := by decide +kernel
theorem dX5_copy_4 : decode cX5_copy 4 = .ok (.ifCond .eq 10, 3) := by decide +kernel
theorem dX5_copy_7 : decode cX5_copy 7 = .ok (.iload_n 3, 1) := by decide +kernel
theorem dX5_copy_8 : decode cX5_copy 8 = .ok (.invokestatic 249, 3) := by decide +kernel
theorem dX5_copy_11 : decode cX5_copy 11 = .ok (.ifCond .ne 9, 3) := by decide +kernel
theorem dX5_copy_14 : decode cX5_copy 14 = .ok (.aload_n 0, 1) := by decide +kernel
theorem dX5_copy_15 : decode cX5_copy 15 = .ok (.iconst 0, 1) := by decide +kernel
theorem dX5_copy_16 : decode cX5_copy 16 = .ok (.invokevirtual 61, 3) := by decide +kernel
theorem dX5_copy_19 : decode cX5_copy 19 = .ok (.ireturn, 1) := by decide +kernel
theorem dX5_copy_20 : decode cX5_copy 20 = .ok (.aload_n 0, 1) := by decide +kernel
theorem dX5_copy_21 : decode cX5_copy 21 = .ok (.getfield 38, 3) := by decide +kernel
theorem dX5_copy_24 : decode cX5_copy 24 = .ok (.iload_n 1, 1) := by decide +kernel
theorem dX5_copy_25 : decode cX5_copy 25 = .ok (.aaload, 1) := by decide +kernel
theorem dX5_copy_26 : decode cX5_copy 26 = .ok (.invokevirtual 259, 3) := by decide +kernel
theorem dX5_copy_29 : decode cX5_copy 29 = .ok (.ifCond .ne 15, 3) := by decide +kernel
theorem dX5_copy_32 : decode cX5_copy 32 = .ok (.aload_n 0, 1) := by decide +kernel
theorem dX5_copy_33 : decode cX5_copy 33 = .ok (.getfield 38, 3) := by decide +kernel
theorem dX5_copy_36 : decode cX5_copy 36 = .ok (.iload_n 3, 1) := by decide +kernel
theorem dX5_copy_37 : decode cX5_copy 37 = .ok (.aaload, 1) := by decide +kernel
theorem dX5_copy_38 : decode cX5_copy 38 = .ok (.invokevirtual 259, 3) := by decide +kernel
theorem dX5_copy_41 : decode cX5_copy 41 = .ok (.ifCond .eq 9, 3) := by decide +kernel
theorem dX5_copy_44 : decode cX5_copy 44 = .ok (.aload_n 0, 1) := by decide +kernel
theorem dX5_copy_45 : decode cX5_copy 45 = .ok (.iconst 5, 1) := by decide +kernel
theorem dX5_copy_46 : decode cX5_copy 46 = .ok (.invokevirtual 61, 3) := by decide +kernel
theorem dX5_copy_49 : decode cX5_copy 49 = .ok (.ireturn, 1) := by decide +kernel
theorem dX5_copy_50 : decode cX5_copy 50 = .ok (.aload_n 0, 1) := by decide +kernel
theorem dX5_copy_51 : decode cX5_copy 51 = .ok (.getfield 38, 3) := by decide +kernel
theorem dX5_copy_54 : decode cX5_copy 54 = .ok (.iload_n 1, 1) := by decide +kernel
theorem dX5_copy_55 : decode cX5_copy 55 = .ok (.aaload, 1) := by decide +kernel
theorem dX5_copy_56 : decode cX5_copy 56 = .ok (.getfield 262, 3) := by decide +kernel
theorem dX5_copy_59 : decode cX5_copy 59 = .ok (.aload_n 0, 1) := by decide +kernel
theorem dX5_copy_60 : decode cX5_copy 60 = .ok (.getfield 38, 3) := by decide +kernel
theorem dX5_copy_63 : decode cX5_copy 63 = .ok (.iload_n 3, 1) := by decide +kernel
theorem dX5_copy_64 : decode cX5_copy 64 = .ok (.aaload, 1) := by decide +kernel
theorem dX5_copy_65 : decode cX5_copy 65 = .ok (.getfield 262, 3) := by decide +kernel
theorem dX5_copy_68 : decode cX5_copy 68 = .ok (.if_icmp .eq 9, 3) := by decide +kernel
theorem dX5_copy_71 : decode cX5_copy 71 = .ok (.aload_n 0, 1) := by decide +kernel
theorem dX5_copy_72 : decode cX5_copy 72 = .ok (.iconst 2, 1) := by decide +kernel
theorem dX5_copy_73 : decode cX5_copy 73 = .ok (.invokevirtual 61, 3) := by decide +kernel
theorem dX5_copy_76 : decode cX5_copy 76 = .ok (.ireturn, 1) := by decide +kernel
theorem dX5_copy_77 : decode cX5_copy 77 = .ok (.aload_n 0, 1) := by decide +kernel
theorem dX5_copy_78 : decode cX5_copy 78 = .ok (.getfield 38, 3) := by decide +kernel
theorem dX5_copy_81 : decode cX5_copy 81 = .ok (.iload_n 1, 1) := by decide +kernel
theorem dX5_copy_82 : decode cX5_copy 82 = .ok (.aaload, 1) := by decide +kernel
theorem dX5_copy_83 : decode cX5_copy 83 = .ok (.iload_n 2, 1) := by decide +kernel
theorem dX5_copy_84 : decode cX5_copy 84 = .ok (.iload 5, 2) := by decide +kernel
theorem dX5_copy_86 : decode cX5_copy 86 = .ok (.invokevirtual 265, 3) := by decide +kernel
theorem dX5_copy_89 : decode cX5_copy 89 = .ok (.ifCond .eq 19, 3) := by decide +kernel
theorem dX5_copy_92 : decode cX5_copy 92 = .ok (.aload_n 0, 1) := by decide +kernel
theorem dX5_copy_93 : decode cX5_copy 93 = .ok (.getfield 38, 3) := by decide +kernel
theorem dX5_copy_96 : decode cX5_copy 96 = .ok (.iload_n 3, 1) := by decide +kernel
theorem dX5_copy_97 : decode cX5_copy 97 = .ok (.aaload, 1) := by decide +kernel
theorem dX5_copy_98 : decode cX5_copy 98 = .ok (.iload 4, 2) := by decide +kernel
theorem dX5_copy_100 : decode cX5_copy 100 = .ok (.iload 5, 2) := by decide +kernel
theorem dX5_copy_102 : decode cX5_copy 102 = .ok (.invokevirtual 265, 3) := by decide +kernel
theorem dX5_copy_105 : decode cX5_copy 105 = .ok (.ifCond .ne 9, 3) := by decide +kernel
theorem dX5_copy_108 : decode cX5_copy 108 = .ok (.aload_n 0, 1) := by decide +kernel
theorem dX5_copy_109 : decode cX5_copy 109 = .ok (.iconst 0, 1) := by decide +kernel
theorem dX5_copy_110 : decode cX5_copy 110 = .ok (.invokevirtual 61, 3) := by decide +kernel
theorem dX5_copy_113 : decode cX5_copy 113 = .ok (.ireturn, 1) := by decide +kernel
theorem dX5_copy_114 : decode cX5_copy 114 = .ok (.aload_n 0, 1) := by decide +kernel
theorem dX5_copy_115 : decode cX5_copy 115 = .ok (.getfield 38, 3) := by decide +kernel
theorem dX5_copy_118 : decode cX5_copy 118 = .ok (.iload_n 1, 1) := by decide +kernel
theorem dX5_copy_119 : decode cX5_copy 119 = .ok (.aaload, 1) := by decide +kernel
theorem dX5_copy_120 : decode cX5_copy 120 = .ok (.getfield 268, 3) := by decide +kernel
theorem dX5_copy_123 : decode cX5_copy 123 = .ok (.iload_n 2, 1) := by decide +kernel
theorem dX5_copy_124 : decode cX5_copy 124 = .ok (.aload_n 0, 1) := by decide +kernel
theorem dX5_copy_125 : decode cX5_copy 125 = .ok (.getfield 38, 3) := by decide +kernel
theorem dX5_copy_128 : decode cX5_copy 128 = .ok (.iload_n 3, 1) := by decide +kernel
theorem dX5_copy_129 : decode cX5_copy 129 = .ok (.aaload, 1) := by decide +kernel
theorem dX5_copy_130 : decode cX5_copy 130 = .ok (.getfield 268, 3) := by decide +kernel
theorem dX5_copy_133 : decode cX5_copy 133 = .ok (.iload 4, 2) := by decide +kernel
theorem dX5_copy_135 : decode cX5_copy 135 = .ok (.iload 5, 2) := by decide +kernel
theorem dX5_copy_137 : decode cX5_copy 137 = .ok (.invokestatic 169, 3) := by decide +kernel
theorem dX5_copy_140 : decode cX5_copy 140 = .ok (.iload 5, 2) := by decide +kernel
theorem dX5_copy_142 : decode cX5_copy 142 = .ok (.ireturn, 1) := by decide +kernel
theorem dX5_load_0 : decode cX5_load 0 = .ok (.aload_n 0, 1) := by decide +kernel
theorem dX5_load_1 : decode cX5_load 1 = .ok (.iload_n 1, 1) := by decide +kernel
theorem dX5_load_2 : decode cX5_load 2 = .ok (.invokevirtual 210, 3) := by decide +kernel
theorem dX5_load_5 : decode cX5_load 5 = .ok (.istore_n 2, 1) := by decide +kernel
theorem dX5_load_6 : decode cX5_load 6 = .ok (.iload_n 2, 1) := by decide +kernel
theorem dX5_load_7 : decode cX5_load 7 = .ok (.iconst (-1), 1) := by decide +kernel
theorem dX5_load_8 : decode cX5_load 8 = .ok (.if_icmp .eq 9, 3) := by decide +kernel
theorem dX5_load_11 : decode cX5_load 11 = .ok (.aload_n 0, 1) := by decide +kernel
theorem dX5_load_12 : decode cX5_load 12 = .ok (.iload_n 2, 1) := by decide +kernel
theorem dX5_load_13 : decode cX5_load 13 = .ok (.invokevirtual 61, 3) := by decide +kernel
theorem dX5_load_16 : decode cX5_load 16 = .ok (.ireturn, 1) := by decide +kernel
theorem dX5_load_17 : decode cX5_load 17 = .ok (.aload_n 0, 1) := by decide +kernel
theorem dX5_load_18 : decode cX5_load 18 = .ok (.getfield 38, 3) := by decide +kernel
theorem dX5_load_21 : decode cX5_load 21 = .ok (.iload_n 1, 1) := by decide +kernel
theorem dX5_load_22 : decode cX5_load 22 = .ok (.aaload, 1) := by decide +kernel
theorem dX5_load_23 : decode cX5_load 23 = .ok (.getfield 255, 3) := by decide +kernel
theorem dX5_load_26 : decode cX5_load 26 = .ok (.bipush 25, 2) := by decide +kernel
theorem dX5_load_28 : decode cX5_load 28 = .ok (.invokestatic 271, 3) := by decide +kernel
theorem dX5_load_31 : decode cX5_load 31 = .ok (.istore_n 3, 1) := by decide +kernel
theorem dX5_load_32 : decode cX5_load 32 = .ok (.iconst 0, 1) := by decide +kernel
theorem dX5_load_33 : decode cX5_load 33 = .ok (.istore 4, 2) := by decide +kernel
theorem dX5_load_35 : decode cX5_load 35 = .ok (.iload 4, 2) := by decide +kernel
theorem dX5_load_37 : decode cX5_load 37 = .ok (.iload_n 3, 1) := by decide +kernel
theorem dX5_load_38 : decode cX5_load 38 = .ok (.if_icmp .ge 52, 3) := by decide +kernel
theorem dX5_load_41 : decode cX5_load 41 = .ok (.aload_n 0, 1) := by decide +kernel
theorem dX5_load_42 : decode cX5_load 42 = .ok (.getfield 38, 3) := by decide +kernel
theorem dX5_load_45 : decode cX5_load 45 = .ok (.iload_n 1, 1) := by decide +kernel
theorem dX5_load_46 : decode cX5_load 46 = .ok (.aaload, 1) := by decide +kernel
theorem dX5_load_47 : decode cX5_load 47 = .ok (.getfield 268, 3) := by decide +kernel
theorem dX5_load_50 : decode cX5_load 50 = .ok (.iload 4, 2) := by decide +kernel
theorem dX5_load_52 : decode cX5_load 52 = .ok (.iaload, 1) := by decide +kernel
theorem dX5_load_53 : decode cX5_load 53 = .ok (.invokestatic 58, 3) := by decide +kernel
theorem dX5_load_56 : decode cX5_load 56 = .ok (.ifCond .ne 6, 3) := by decide +kernel
theorem dX5_load_59 : decode cX5_load 59 = .ok (.iload 4, 2) := by decide +kernel
theorem dX5_load_61 : decode cX5_load 61 = .ok (.ireturn, 1) := by decide +kernel
theorem dX5_load_62 : decode cX5_load 62 = .ok (.aload_n 0, 1) := by decide +kernel
theorem dX5_load_63 : decode cX5_load 63 = .ok (.getfield 10, 3) := by decide +kernel
theorem dX5_load_66 : decode cX5_load 66 = .ok (.getfield 65, 3) := by decide +kernel
theorem dX5_load_69 : decode cX5_load 69 = .ok (.iload 4, 2) := by decide +kernel
theorem dX5_load_71 : decode cX5_load 71 = .ok (.aload_n 0, 1) := by decide +kernel
theorem dX5_load_72 : decode cX5_load 72 = .ok (.getfield 38, 3) := by decide +kernel
theorem dX5_load_75 : decode cX5_load 75 = .ok (.iload_n 1, 1) := by decide +kernel
theorem dX5_load_76 : decode cX5_load 76 = .ok (.aaload, 1) := by decide +kernel
theorem dX5_load_77 : decode cX5_load 77 = .ok (.getfield 268, 3) := by decide +kernel
theorem dX5_load_80 : decode cX5_load 80 = .ok (.iload 4, 2) := by decide +kernel
theorem dX5_load_82 : decode cX5_load 82 = .ok (.iaload, 1) := by decide +kernel
theorem dX5_load_83 : decode cX5_load 83 = .ok (.iastore, 1) := by decide +kernel
theorem dX5_load_84 : decode cX5_load 84 = .ok (.iinc 4 1, 3) := by decide +kernel
theorem dX5_load_87 : decode cX5_load 87 = .ok (.goto (-52), 3) := by decide +kernel
theorem dX5_load_90 : decode cX5_load 90 = .ok (.iload_n 3, 1) := by decide +kernel
theorem dX5_load_91 : decode cX5_load 91 = .ok (.ireturn, 1) := by decide +kernel
theorem dX5_judge_0 : decode cX5_judge 0 = .ok (.aload_n 0, 1) := by decide +kernel
theorem dX5_judge_1 : decode cX5_judge 1 = .ok (.iload_n 1, 1) := by decide +kernel
theorem dX5_judge_2 : decode cX5_judge 2 = .ok (.invokevirtual 210, 3) := by decide +kernel
theorem dX5_judge_5 : decode cX5_judge 5 = .ok (.istore_n 3, 1) := by decide +kernel
theorem dX5_judge_6 : decode cX5_judge 6 = .ok (.iload_n 3, 1) := by decide +kernel
theorem dX5_judge_7 : decode cX5_judge 7 = .ok (.iconst (-1), 1) := by decide +kernel
theorem dX5_judge_8 : decode cX5_judge 8 = .ok (.if_icmp .eq 9, 3) := by decide +kernel
theorem dX5_judge_11 : decode cX5_judge 11 = .ok (.aload_n 0, 1) := by decide +kernel
theorem dX5_judge_12 : decode cX5_judge 12 = .ok (.iload_n 3, 1) := by decide +kernel
theorem dX5_judge_13 : decode cX5_judge 13 = .ok (.invokevirtual 61, 3) := by decide +kernel
theorem dX5_judge_16 : decode cX5_judge 16 = .ok (.ireturn, 1) := by decide +kernel
theorem dX5_judge_17 : decode cX5_judge 17 = .ok (.iload_n 2, 1) := by decide +kernel
theorem dX5_judge_18 : decode cX5_judge 18 = .ok (.invokestatic 58, 3) := by decide +kernel
theorem dX5_judge_21 : decode cX5_judge 21 = .ok (.ifCond .ne 9, 3) := by decide +kernel
theorem dX5_judge_24 : decode cX5_judge 24 = .ok (.aload_n 0, 1) := by decide +kernel
theorem dX5_judge_25 : decode cX5_judge 25 = .ok (.iconst 0, 1) := by decide +kernel
theorem dX5_judge_26 : decode cX5_judge 26 = .ok (.invokevirtual 61, 3) := by decide +kernel
theorem dX5_judge_29 : decode cX5_judge 29 = .ok (.ireturn, 1) := by decide +kernel
theorem dX5_judge_30 : decode cX5_judge 30 = .ok (.aload_n 0, 1) := by decide +kernel
theorem dX5_judge_31 : decode cX5_judge 31 = .ok (.getfield 38, 3) := by decide +kernel
theorem dX5_judge_34 : decode cX5_judge 34 = .ok (.iload_n 1, 1) := by decide +kernel
theorem dX5_judge_35 : decode cX5_judge 35 = .ok (.aaload, 1) := by decide +kernel
theorem dX5_judge_36 : decode cX5_judge 36 = .ok (.getfield 268, 3) := by decide +kernel
theorem dX5_judge_39 : decode cX5_judge 39 = .ok (.astore 4, 2) := by decide +kernel
theorem dX5_judge_41 : decode cX5_judge 41 = .ok (.iconst 0, 1) := by decide +kernel
theorem dX5_judge_42 : decode cX5_judge 42 = .ok (.istore 5, 2) := by decide +kernel
theorem dX5_judge_44 : decode cX5_judge 44 = .ok (.iload 5, 2) := by decide +kernel
theorem dX5_judge_46 : decode cX5_judge 46 = .ok (.aload_n 0, 1) := by decide +kernel
theorem dX5_judge_47 : decode cX5_judge 47 = .ok (.getfield 38, 3) := by decide +kernel
theorem dX5_judge_50 : decode cX5_judge 50 = .ok (.iload_n 1, 1) := by decide +kernel
theorem dX5_judge_51 : decode cX5_judge 51 = .ok (.aaload, 1) := by decide +kernel
theorem dX5_judge_52 : decode cX5_judge 52 = .ok (.getfield 255, 3) := by decide +kernel
theorem dX5_judge_55 : decode cX5_judge 55 = .ok (.if_icmp .ge 53, 3) := by decide +kernel
theorem dX5_judge_58 : decode cX5_judge 58 = .ok (.aload 4, 2) := by decide +kernel
theorem dX5_judge_60 : decode cX5_judge 60 = .ok (.iload 5, 2) := by decide +kernel
theorem dX5_judge_62 : decode cX5_judge 62 = .ok (.iaload, 1) := by decide +kernel
theorem dX5_judge_63 : decode cX5_judge 63 = .ok (.invokestatic 54, 3) := by decide +kernel
theorem dX5_judge_66 : decode cX5_judge 66 = .ok (.ifCond .eq 31, 3) := by decide +kernel
theorem dX5_judge_69 : decode cX5_judge 69 = .ok (.iload 5, 2) := by decide +kernel
theorem dX5_judge_71 : decode cX5_judge 71 = .ok (.ifCond .le 31, 3) := by decide +kernel
theorem dX5_judge_74 : decode cX5_judge 74 = .ok (.aload_n 0, 1) := by decide +kernel
theorem dX5_judge_75 : decode cX5_judge 75 = .ok (.getfield 10, 3) := by decide +kernel
theorem dX5_judge_78 : decode cX5_judge 78 = .ok (.aload 4, 2) := by decide +kernel
theorem dX5_judge_80 : decode cX5_judge 80 = .ok (.iload 5, 2) := by decide +kernel
theorem dX5_judge_82 : decode cX5_judge 82 = .ok (.iconst 1, 1) := by decide +kernel
theorem dX5_judge_83 : decode cX5_judge 83 = .ok (.isub, 1) := by decide +kernel
theorem dX5_judge_84 : decode cX5_judge 84 = .ok (.iaload, 1) := by decide +kernel
theorem dX5_judge_85 : decode cX5_judge 85 = .ok (.aload 4, 2) := by decide +kernel
theorem dX5_judge_87 : decode cX5_judge 87 = .ok (.iload 5, 2) := by decide +kernel
theorem dX5_judge_89 : decode cX5_judge 89 = .ok (.iaload, 1) := by decide +kernel
theorem dX5_judge_90 : decode cX5_judge 90 = .ok (.iload_n 2, 1) := by decide +kernel
theorem dX5_judge_91 : decode cX5_judge 91 = .ok (.invokevirtual 277, 3) := by decide +kernel
theorem dX5_judge_94 : decode cX5_judge 94 = .ok (.ifCond .ne 8, 3) := by decide +kernel
theorem dX5_judge_97 : decode cX5_judge 97 = .ok (.iconst 1, 1) := by decide +kernel
theorem dX5_judge_98 : decode cX5_judge 98 = .ok (.iload 5, 2) := by decide +kernel
theorem dX5_judge_100 : decode cX5_judge 100 = .ok (.iadd, 1) := by decide +kernel
theorem dX5_judge_101 : decode cX5_judge 101 = .ok (.ireturn, 1) := by decide +kernel
theorem dX5_judge_102 : decode cX5_judge 102 = .ok (.iinc 5 1, 3) := by decide +kernel
theorem dX5_judge_105 : decode cX5_judge 105 = .ok (.goto (-61), 3) := by decide +kernel
theorem dX5_judge_108 : decode cX5_judge 108 = .ok (.iconst 0, 1) := by decide +kernel
theorem dX5_judge_109 : decode cX5_judge 109 = .ok (.ireturn, 1) := by decide +kernel
theorem dX5_image_0 : decode cX5_image 0 = .ok (.aload_n 0, 1) := by decide +kernel
theorem dX5_image_1 : decode cX5_image 1 = .ok (.getfield 16, 3) := by decide +kernel
theorem dX5_image_4 : decode cX5_image 4 = .ok (.aload_n 0, 1) := by decide +kernel
theorem dX5_image_5 : decode cX5_image 5 = .ok (.getfield 10, 3) := by decide +kernel
theorem dX5_image_8 : decode cX5_image 8 = .ok (.invokevirtual 159, 3) := by decide +kernel
theorem dX5_image_11 : decode cX5_image 11 = .ok (.aload_n 0, 1) := by decide +kernel
theorem dX5_image_12 : decode cX5_image 12 = .ok (.iconst 1, 1) := by decide +kernel
theorem dX5_image_13 : decode cX5_image 13 = .ok (.putfield 49, 3) := by decide +kernel
theorem dX5_image_16 : decode cX5_image 16 = .ok (.iconst 1, 1) := by decide +kernel
theorem dX5_image_17 : decode cX5_image 17 = .ok (.ireturn, 1) := by decide +kernel
theorem dX5_undo_0 : decode cX5_undo 0 = .ok (.aload_n 0, 1) := by decide +kernel
theorem dX5_undo_1 : decode cX5_undo 1 = .ok (.getfield 49, 3) := by decide +kernel
theorem dX5_undo_4 : decode cX5_undo 4 = .ok (.ifCond .ne 9, 3) := by decide +kernel
theorem dX5_undo_7 : decode cX5_undo 7 = .ok (.aload_n 0, 1) := by decide +kernel
theorem dX5_undo_8 : decode cX5_undo 8 = .ok (.iconst 3, 1) := by decide +kernel
theorem dX5_undo_9 : decode cX5_undo 9 = .ok (.invokevirtual 61, 3) := by decide +kernel
theorem dX5_undo_12 : decode cX5_undo 12 = .ok (.ireturn, 1) := by decide +kernel
theorem dX5_undo_13 : decode cX5_undo 13 = .ok (.aload_n 0, 1) := by decide +kernel
theorem dX5_undo_14 : decode cX5_undo 14 = .ok (.getfield 10, 3) := by decide +kernel
theorem dX5_undo_17 : decode cX5_undo 17 = .ok (.aload_n 0, 1) := by decide +kernel
theorem dX5_undo_18 : decode cX5_undo 18 = .ok (.getfield 16, 3) := by decide +kernel
theorem dX5_undo_21 : decode cX5_undo 21 = .ok (.invokevirtual 159, 3) := by decide +kernel
theorem dX5_undo_24 : decode cX5_undo 24 = .ok (.aload_n 0, 1) := by decide +kernel
theorem dX5_undo_25 : decode cX5_undo 25 = .ok (.getfield 10, 3) := by decide +kernel
theorem dX5_undo_28 : decode cX5_undo 28 = .ok (.getfield 119, 3) := by decide +kernel
theorem dX5_undo_31 : decode cX5_undo 31 = .ok (.ireturn, 1) := by decide +kernel
theorem dX5_tear_0 : decode cX5_tear 0 = .ok (.aload_n 0, 1) := by decide +kernel
theorem dX5_tear_1 : decode cX5_tear 1 = .ok (.getfield 49, 3) := by decide +kernel
theorem dX5_tear_4 : decode cX5_tear 4 = .ok (.ifCond .eq 7, 3) := by decide +kernel
theorem dX5_tear_7 : decode cX5_tear 7 = .ok (.iconst 1, 1) := by decide +kernel
theorem dX5_tear_8 : decode cX5_tear 8 = .ok (.goto 4, 3) := by decide +kernel
theorem dX5_tear_11 : decode cX5_tear 11 = .ok (.iconst 0, 1) := by decide +kernel
theorem dX5_tear_12 : decode cX5_tear 12 = .ok (.istore_n 1, 1) := by decide +kernel
theorem dX5_tear_13 : decode cX5_tear 13 = .ok (.aload_n 0, 1) := by decide +kernel
theorem dX5_tear_14 : decode cX5_tear 14 = .ok (.iconst 0, 1) := by decide +kernel
theorem dX5_tear_15 : decode cX5_tear 15 = .ok (.putfield 49, 3) := by decide +kernel
theorem dX5_tear_18 : decode cX5_tear 18 = .ok (.iload_n 1, 1) := by decide +kernel
theorem dX5_tear_19 : decode cX5_tear 19 = .ok (.ireturn, 1) := by decide +kernel
theorem dX5_count_0 : decode cX5_count 0 = .ok (.iload_n 1, 1) := by decide +kernel
theorem dX5_count_1 : decode cX5_count 1 = .ok (.tableswitch 114 0 7 #[47, 55, 63, 74, 82, 90, 98, 106], 47) := by decide +kernel
theorem dX5_count_48 : decode cX5_count 48 = .ok (.aload_n 0, 1) := by decide +kernel
theorem dX5_count_49 : decode cX5_count 49 = .ok (.getfield 10, 3) := by decide +kernel
theorem dX5_count_52 : decode cX5_count 52 = .ok (.getfield 119, 3) := by decide +kernel
theorem dX5_count_55 : decode cX5_count 55 = .ok (.ireturn, 1) := by decide +kernel
theorem dX5_count_56 : decode cX5_count 56 = .ok (.aload_n 0, 1) := by decide +kernel
theorem dX5_count_57 : decode cX5_count 57 = .ok (.getfield 10, 3) := by decide +kernel
theorem dX5_count_60 : decode cX5_count 60 = .ok (.getfield 88, 3) := by decide +kernel
theorem dX5_count_63 : decode cX5_count 63 = .ok (.ireturn, 1) := by decide +kernel
theorem dX5_count_64 : decode cX5_count 64 = .ok (.aload_n 0, 1) := by decide +kernel
theorem dX5_count_65 : decode cX5_count 65 = .ok (.getfield 10, 3) := by decide +kernel
theorem dX5_count_68 : decode cX5_count 68 = .ok (.invokevirtual 132, 3) := by decide +kernel
theorem dX5_count_71 : decode cX5_count 71 = .ok (.invokestatic 280, 3) := by decide +kernel
theorem dX5_count_74 : decode cX5_count 74 = .ok (.ireturn, 1) := by decide +kernel
theorem dX5_count_75 : decode cX5_count 75 = .ok (.aload_n 0, 1) := by decide +kernel
theorem dX5_count_76 : decode cX5_count 76 = .ok (.getfield 10, 3) := by decide +kernel
theorem dX5_count_79 : decode cX5_count 79 = .ok (.invokevirtual 135, 3) := by decide +kernel
theorem dX5_count_82 : decode cX5_count 82 = .ok (.ireturn, 1) := by decide +kernel
theorem dX5_count_83 : decode cX5_count 83 = .ok (.aload_n 0, 1) := by decide +kernel
theorem dX5_count_84 : decode cX5_count 84 = .ok (.getfield 10, 3) := by decide +kernel
theorem dX5_count_87 : decode cX5_count 87 = .ok (.invokevirtual 126, 3) := by decide +kernel
theorem dX5_count_90 : decode cX5_count 90 = .ok (.ireturn, 1) := by decide +kernel
theorem dX5_count_91 : decode cX5_count 91 = .ok (.aload_n 0, 1) := by decide +kernel
theorem dX5_count_92 : decode cX5_count 92 = .ok (.getfield 32, 3) := by decide +kernel
theorem dX5_count_95 : decode cX5_count 95 = .ok (.getfield 233, 3) := by decide +kernel
theorem dX5_count_98 : decode cX5_count 98 = .ok (.ireturn, 1) := by decide +kernel
theorem dX5_count_99 : decode cX5_count 99 = .ok (.aload_n 0, 1) := by decide +kernel
theorem dX5_count_100 : decode cX5_count 100 = .ok (.getfield 10, 3) := by decide +kernel
theorem dX5_count_103 : decode cX5_count 103 = .ok (.getfield 230, 3) := by decide +kernel
theorem dX5_count_106 : decode cX5_count 106 = .ok (.ireturn, 1) := by decide +kernel
theorem dX5_count_107 : decode cX5_count 107 = .ok (.aload_n 0, 1) := by decide +kernel
theorem dX5_count_108 : decode cX5_count 108 = .ok (.getfield 10, 3) := by decide +kernel
theorem dX5_count_111 : decode cX5_count 111 = .ok (.invokevirtual 285, 3) := by decide +kernel
theorem dX5_count_114 : decode cX5_count 114 = .ok (.ireturn, 1) := by decide +kernel
theorem dX5_count_115 : decode cX5_count 115 = .ok (.aload_n 0, 1) := by decide +kernel
theorem dX5_count_116 : decode cX5_count 116 = .ok (.iconst 0, 1) := by decide +kernel
theorem dX5_count_117 : decode cX5_count 117 = .ok (.invokevirtual 61, 3) := by decide +kernel
theorem dX5_count_120 : decode cX5_count 120 = .ok (.ireturn, 1) := by decide +kernel
theorem dX5_status_0 : decode cX5_status 0 = .ok (.iload_n 1, 1) := by decide +kernel
theorem dX5_status_1 : decode cX5_status 1 = .ok (.iconst (-1), 1) := by decide +kernel
theorem dX5_status_2 : decode cX5_status 2 = .ok (.bipush 6, 2) := by decide +kernel
theorem dX5_status_4 : decode cX5_status 4 = .ok (.invokestatic 68, 3) := by decide +kernel
theorem dX5_status_7 : decode cX5_status 7 = .ok (.ifCond .ne 9, 3) := by decide +kernel
theorem dX5_status_10 : decode cX5_status 10 = .ok (.aload_n 0, 1) := by decide +kernel
theorem dX5_status_11 : decode cX5_status 11 = .ok (.iconst 0, 1) := by decide +kernel
theorem dX5_status_12 : decode cX5_status 12 = .ok (.invokevirtual 61, 3) := by decide +kernel
theorem dX5_status_15 : decode cX5_status 15 = .ok (.ireturn, 1) := by decide +kernel
theorem dX5_status_16 : decode cX5_status 16 = .ok (.iload_n 1, 1) := by decide +kernel
theorem dX5_status_17 : decode cX5_status 17 = .ok (.ifCond .lt 10, 3) := by decide +kernel
theorem dX5_status_20 : decode cX5_status 20 = .ok (.aload_n 0, 1) := by decide +kernel
theorem dX5_status_21 : decode cX5_status 21 = .ok (.getfield 42, 3) := by decide +kernel
theorem dX5_status_24 : decode cX5_status 24 = .ok (.iload_n 1, 1) := by decide +kernel
theorem dX5_status_25 : decode cX5_status 25 = .ok (.iaload, 1) := by decide +kernel
theorem dX5_status_26 : decode cX5_status 26 = .ok (.ireturn, 1) := by decide +kernel
theorem dX5_status_27 : decode cX5_status 27 = .ok (.iconst 0, 1) := by decide +kernel
theorem dX5_status_28 : decode cX5_status 28 = .ok (.istore_n 2, 1) := by decide +kernel
theorem dX5_status_29 : decode cX5_status 29 = .ok (.iconst 0, 1) := by decide +kernel
theorem dX5_status_30 : decode cX5_status 30 = .ok (.istore_n 3, 1) := by decide +kernel
theorem dX5_status_31 : decode cX5_status 31 = .ok (.iload_n 3, 1) := by decide +kernel
theorem dX5_status_32 : decode cX5_status 32 = .ok (.bipush 7, 2) := by decide +kernel
theorem dX5_status_34 : decode cX5_status 34 = .ok (.if_icmp .ge 18, 3) := by decide +kernel
theorem dX5_status_37 : decode cX5_status 37 = .ok (.iload_n 2, 1) := by decide +kernel
theorem dX5_status_38 : decode cX5_status 38 = .ok (.aload_n 0, 1) := by decide +kernel
theorem dX5_status_39 : decode cX5_status 39 = .ok (.getfield 42, 3) := by decide +kernel
theorem dX5_status_42 : decode cX5_status 42 = .ok (.iload_n 3, 1) := by decide +kernel
theorem dX5_status_43 : decode cX5_status 43 = .ok (.iaload, 1) := by decide +kernel
end
section
theorem dX5_status_44 : decode cX5_status 44 = .ok (.iadd, 1) := by decide +kernel
theorem dX5_status_45 : decode cX5_status 45 = .ok (.istore_n 2, 1) := by decide +kernel
theorem dX5_status_46 : decode cX5_status 46 = .ok (.iinc 3 1, 3) := by decide +kernel
theorem dX5_status_49 : decode cX5_status 49 = .ok (.goto (-18), 3) := by decide +kernel
theorem dX5_status_52 : decode cX5_status 52 = .ok (.iload_n 2, 1) := by decide +kernel
theorem dX5_status_53 : decode cX5_status 53 = .ok (.ireturn, 1) := by decide +kernel
theorem dX5_finding_0 : decode cX5_finding 0 = .ok (.iload_n 1, 1) := by decide +kernel
theorem dX5_finding_1 : decode cX5_finding 1 = .ok (.iconst 0, 1) := by decide +kernel
theorem dX5_finding_2 : decode cX5_finding 2 = .ok (.bipush 6, 2) := by decide +kernel
theorem dX5_finding_4 : decode cX5_finding 4 = .ok (.invokestatic 68, 3) := by decide +kernel
theorem dX5_finding_7 : decode cX5_finding 7 = .ok (.ifCond .eq 13, 3) := by decide +kernel
theorem dX5_finding_10 : decode cX5_finding 10 = .ok (.aload_n 0, 1) := by decide +kernel
theorem dX5_finding_11 : decode cX5_finding 11 = .ok (.getfield 42, 3) := by decide +kernel
theorem dX5_finding_14 : decode cX5_finding 14 = .ok (.iload_n 1, 1) := by decide +kernel
theorem dX5_finding_15 : decode cX5_finding 15 = .ok (.dup2, 1) := by decide +kernel
theorem dX5_finding_16 : decode cX5_finding 16 = .ok (.iaload, 1) := by decide +kernel
theorem dX5_finding_17 : decode cX5_finding 17 = .ok (.iconst 1, 1) := by decide +kernel
theorem dX5_finding_18 : decode cX5_finding 18 = .ok (.iadd, 1) := by decide +kernel
theorem dX5_finding_19 : decode cX5_finding 19 = .ok (.iastore, 1) := by decide +kernel
theorem dX5_finding_20 : decode cX5_finding 20 = .ok (.ldc_w 288, 3) := by decide +kernel
theorem dX5_finding_23 : decode cX5_finding 23 = .ok (.iload_n 1, 1) := by decide +kernel
theorem dX5_finding_24 : decode cX5_finding 24 = .ok (.isub, 1) := by decide +kernel
theorem dX5_finding_25 : decode cX5_finding 25 = .ok (.ireturn, 1) := by decide +kernel
theorem dX5_within_0 : decode cX5_within 0 = .ok (.iload_n 0, 1) := by decide +kernel
theorem dX5_within_1 : decode cX5_within 1 = .ok (.iload_n 1, 1) := by decide +kernel
theorem dX5_within_2 : decode cX5_within 2 = .ok (.if_icmp .lt 12, 3) := by decide +kernel
theorem dX5_within_5 : decode cX5_within 5 = .ok (.iload_n 0, 1) := by decide +kernel
theorem dX5_within_6 : decode cX5_within 6 = .ok (.iload_n 2, 1) := by decide +kernel
theorem dX5_within_7 : decode cX5_within 7 = .ok (.if_icmp .gt 7, 3) := by decide +kernel
theorem dX5_within_10 : decode cX5_within 10 = .ok (.iconst 1, 1) := by decide +kernel
theorem dX5_within_11 : decode cX5_within 11 = .ok (.goto 4, 3) := by decide +kernel
theorem dX5_within_14 : decode cX5_within 14 = .ok (.iconst 0, 1) := by decide +kernel
theorem dX5_within_15 : decode cX5_within 15 = .ok (.ireturn, 1) := by decide +kernel
theorem dX5_isCell_0 : decode cX5_isCell 0 = .ok (.iload_n 0, 1) := by decide +kernel
theorem dX5_isCell_1 : decode cX5_isCell 1 = .ok (.iconst 0, 1) := by decide +kernel
theorem dX5_isCell_2 : decode cX5_isCell 2 = .ok (.bipush 24, 2) := by decide +kernel
theorem dX5_isCell_4 : decode cX5_isCell 4 = .ok (.invokestatic 68, 3) := by decide +kernel
theorem dX5_isCell_7 : decode cX5_isCell 7 = .ok (.ireturn, 1) := by decide +kernel
theorem dX5_isPitch_0 : decode cX5_isPitch 0 = .ok (.iload_n 0, 1) := by decide +kernel
theorem dX5_isPitch_1 : decode cX5_isPitch 1 = .ok (.iconst 0, 1) := by decide +kernel
theorem dX5_isPitch_2 : decode cX5_isPitch 2 = .ok (.bipush 15, 2) := by decide +kernel
theorem dX5_isPitch_4 : decode cX5_isPitch 4 = .ok (.invokestatic 68, 3) := by decide +kernel
theorem dX5_isPitch_7 : decode cX5_isPitch 7 = .ok (.ireturn, 1) := by decide +kernel
theorem dX5_isKind_0 : decode cX5_isKind 0 = .ok (.iload_n 0, 1) := by decide +kernel
theorem dX5_isKind_1 : decode cX5_isKind 1 = .ok (.iconst 0, 1) := by decide +kernel
theorem dX5_isKind_2 : decode cX5_isKind 2 = .ok (.bipush 6, 2) := by decide +kernel
theorem dX5_isKind_4 : decode cX5_isKind 4 = .ok (.invokestatic 68, 3) := by decide +kernel
theorem dX5_isKind_7 : decode cX5_isKind 7 = .ok (.ireturn, 1) := by decide +kernel
theorem dX5_isSheet_0 : decode cX5_isSheet 0 = .ok (.iload_n 0, 1) := by decide +kernel
theorem dX5_isSheet_1 : decode cX5_isSheet 1 = .ok (.iconst 0, 1) := by decide +kernel
theorem dX5_isSheet_2 : decode cX5_isSheet 2 = .ok (.iconst 3, 1) := by decide +kernel
theorem dX5_isSheet_3 : decode cX5_isSheet 3 = .ok (.invokestatic 68, 3) := by decide +kernel
theorem dX5_isSheet_6 : decode cX5_isSheet 6 = .ok (.ireturn, 1) := by decide +kernel
theorem dX5_isMeasure_0 : decode cX5_isMeasure 0 = .ok (.iload_n 0, 1) := by decide +kernel
theorem dX5_isMeasure_1 : decode cX5_isMeasure 1 = .ok (.iconst 0, 1) := by decide +kernel
theorem dX5_isMeasure_2 : decode cX5_isMeasure 2 = .ok (.bipush 99, 2) := by decide +kernel
theorem dX5_isMeasure_4 : decode cX5_isMeasure 4 = .ok (.invokestatic 68, 3) := by decide +kernel
theorem dX5_isMeasure_7 : decode cX5_isMeasure 7 = .ok (.ireturn, 1) := by decide +kernel
theorem dX5_isTent_0 : decode cX5_isTent 0 = .ok (.iload_n 1, 1) := by decide +kernel
theorem dX5_isTent_1 : decode cX5_isTent 1 = .ok (.iconst 0, 1) := by decide +kernel
theorem dX5_isTent_2 : decode cX5_isTent 2 = .ok (.aload_n 0, 1) := by decide +kernel
theorem dX5_isTent_3 : decode cX5_isTent 3 = .ok (.getfield 10, 3) := by decide +kernel
theorem dX5_isTent_6 : decode cX5_isTent 6 = .ok (.getfield 88, 3) := by decide +kernel
theorem dX5_isTent_9 : decode cX5_isTent 9 = .ok (.iconst 1, 1) := by decide +kernel
theorem dX5_isTent_10 : decode cX5_isTent 10 = .ok (.isub, 1) := by decide +kernel
theorem dX5_isTent_11 : decode cX5_isTent 11 = .ok (.invokestatic 68, 3) := by decide +kernel
theorem dX5_isTent_14 : decode cX5_isTent 14 = .ok (.ireturn, 1) := by decide +kernel
theorem dX5_lackOf_0 : decode cX5_lackOf 0 = .ok (.iload_n 1, 1) := by decide +kernel
theorem dX5_lackOf_1 : decode cX5_lackOf 1 = .ok (.invokestatic 249, 3) := by decide +kernel
theorem dX5_lackOf_4 : decode cX5_lackOf 4 = .ok (.ifCond .ne 5, 3) := by decide +kernel
theorem dX5_lackOf_7 : decode cX5_lackOf 7 = .ok (.iconst 0, 1) := by decide +kernel
theorem dX5_lackOf_8 : decode cX5_lackOf 8 = .ok (.ireturn, 1) := by decide +kernel
theorem dX5_lackOf_9 : decode cX5_lackOf 9 = .ok (.aload_n 0, 1) := by decide +kernel
theorem dX5_lackOf_10 : decode cX5_lackOf 10 = .ok (.getfield 38, 3) := by decide +kernel
theorem dX5_lackOf_13 : decode cX5_lackOf 13 = .ok (.iload_n 1, 1) := by decide +kernel
theorem dX5_lackOf_14 : decode cX5_lackOf 14 = .ok (.aaload, 1) := by decide +kernel
theorem dX5_lackOf_15 : decode cX5_lackOf 15 = .ok (.invokevirtual 259, 3) := by decide +kernel
theorem dX5_lackOf_18 : decode cX5_lackOf 18 = .ok (.ifCond .eq 7, 3) := by decide +kernel
theorem dX5_lackOf_21 : decode cX5_lackOf 21 = .ok (.iconst 5, 1) := by decide +kernel
theorem dX5_lackOf_22 : decode cX5_lackOf 22 = .ok (.goto 4, 3) := by decide +kernel
theorem dX5_lackOf_25 : decode cX5_lackOf 25 = .ok (.iconst (-1), 1) := by decide +kernel
theorem dX5_lackOf_26 : decode cX5_lackOf 26 = .ok (.ireturn, 1) := by decide +kernel
theorem dX5_supposeAlone_0 : decode cX5_supposeAlone 0 = .ok (.aload_n 0, 1) := by decide +kernel
theorem dX5_supposeAlone_1 : decode cX5_supposeAlone 1 = .ok (.getfield 19, 3) := by decide +kernel
theorem dX5_supposeAlone_4 : decode cX5_supposeAlone 4 = .ok (.aload_n 0, 1) := by decide +kernel
theorem dX5_supposeAlone_5 : decode cX5_supposeAlone 5 = .ok (.getfield 10, 3) := by decide +kernel
theorem dX5_supposeAlone_8 : decode cX5_supposeAlone 8 = .ok (.invokevirtual 159, 3) := by decide +kernel
theorem dX5_supposeAlone_11 : decode cX5_supposeAlone 11 = .ok (.aload_n 0, 1) := by decide +kernel
theorem dX5_supposeAlone_12 : decode cX5_supposeAlone 12 = .ok (.getfield 19, 3) := by decide +kernel
theorem dX5_supposeAlone_15 : decode cX5_supposeAlone 15 = .ok (.iload_n 1, 1) := by decide +kernel
theorem dX5_supposeAlone_16 : decode cX5_supposeAlone 16 = .ok (.iload_n 2, 1) := by decide +kernel
theorem dX5_supposeAlone_17 : decode cX5_supposeAlone 17 = .ok (.invokevirtual 289, 3) := by decide +kernel
theorem dX5_supposeAlone_20 : decode cX5_supposeAlone 20 = .ok (.return_, 1) := by decide +kernel
theorem dX5_sumAfterBoth_0 : decode cX5_sumAfterBoth 0 = .ok (.aload_n 0, 1) := by decide +kernel
theorem dX5_sumAfterBoth_1 : decode cX5_sumAfterBoth 1 = .ok (.iload_n 1, 1) := by decide +kernel
theorem dX5_sumAfterBoth_2 : decode cX5_sumAfterBoth 2 = .ok (.iload_n 3, 1) := by decide +kernel
theorem dX5_sumAfterBoth_3 : decode cX5_sumAfterBoth 3 = .ok (.invokevirtual 204, 3) := by decide +kernel
theorem dX5_sumAfterBoth_6 : decode cX5_sumAfterBoth 6 = .ok (.aload_n 0, 1) := by decide +kernel
theorem dX5_sumAfterBoth_7 : decode cX5_sumAfterBoth 7 = .ok (.getfield 19, 3) := by decide +kernel
theorem dX5_sumAfterBoth_10 : decode cX5_sumAfterBoth 10 = .ok (.invokevirtual 166, 3) := by decide +kernel
theorem dX5_sumAfterBoth_13 : decode cX5_sumAfterBoth 13 = .ok (.aload_n 0, 1) := by decide +kernel
theorem dX5_sumAfterBoth_14 : decode cX5_sumAfterBoth 14 = .ok (.getfield 19, 3) := by decide +kernel
theorem dX5_sumAfterBoth_17 : decode cX5_sumAfterBoth 17 = .ok (.iload_n 2, 1) := by decide +kernel
theorem dX5_sumAfterBoth_18 : decode cX5_sumAfterBoth 18 = .ok (.iload_n 3, 1) := by decide +kernel
theorem dX5_sumAfterBoth_19 : decode cX5_sumAfterBoth 19 = .ok (.invokevirtual 289, 3) := by decide +kernel
theorem dX5_sumAfterBoth_22 : decode cX5_sumAfterBoth 22 = .ok (.aload_n 0, 1) := by decide +kernel
theorem dX5_sumAfterBoth_23 : decode cX5_sumAfterBoth 23 = .ok (.getfield 19, 3) := by decide +kernel
theorem dX5_sumAfterBoth_26 : decode cX5_sumAfterBoth 26 = .ok (.invokevirtual 166, 3) := by decide +kernel
theorem dX5_sumAfterBoth_29 : decode cX5_sumAfterBoth 29 = .ok (.aload_n 0, 1) := by decide +kernel
theorem dX5_sumAfterBoth_30 : decode cX5_sumAfterBoth 30 = .ok (.getfield 19, 3) := by decide +kernel
theorem dX5_sumAfterBoth_33 : decode cX5_sumAfterBoth 33 = .ok (.invokevirtual 126, 3) := by decide +kernel
theorem dX5_sumAfterBoth_36 : decode cX5_sumAfterBoth 36 = .ok (.ireturn, 1) := by decide +kernel
theorem dX5_power_0 : decode cX5_power 0 = .ok (.lconst 1, 1) := by decide +kernel
theorem dX5_power_1 : decode cX5_power 1 = .ok (.lstore_n 3, 1) := by decide +kernel
theorem dX5_power_2 : decode cX5_power 2 = .ok (.iconst 0, 1) := by decide +kernel
theorem dX5_power_3 : decode cX5_power 3 = .ok (.istore 5, 2) := by decide +kernel
theorem dX5_power_5 : decode cX5_power 5 = .ok (.iload 5, 2) := by decide +kernel
theorem dX5_power_7 : decode cX5_power 7 = .ok (.iload_n 2, 1) := by decide +kernel
theorem dX5_power_8 : decode cX5_power 8 = .ok (.if_icmp .ge 13, 3) := by decide +kernel
theorem dX5_power_11 : decode cX5_power 11 = .ok (.lload_n 3, 1) := by decide +kernel
theorem dX5_power_12 : decode cX5_power 12 = .ok (.lload_n 0, 1) := by decide +kernel
theorem dX5_power_13 : decode cX5_power 13 = .ok (.lmul, 1) := by decide +kernel
theorem dX5_power_14 : decode cX5_power 14 = .ok (.lstore_n 3, 1) := by decide +kernel
theorem dX5_power_15 : decode cX5_power 15 = .ok (.iinc 5 1, 3) := by decide +kernel
theorem dX5_power_18 : decode cX5_power 18 = .ok (.goto (-13), 3) := by decide +kernel
theorem dX5_power_21 : decode cX5_power 21 = .ok (.lload_n 3, 1) := by decide +kernel
theorem dX5_power_22 : decode cX5_power 22 = .ok (.lreturn, 1) := by decide +kernel
theorem dX5_cellUnder_0 : decode cX5_cellUnder 0 = .ok (.iconst 5, 1) := by decide +kernel
theorem dX5_cellUnder_1 : decode cX5_cellUnder 1 = .ok (.iload_n 0, 1) := by decide +kernel
theorem dX5_cellUnder_2 : decode cX5_cellUnder 2 = .ok (.iconst 4, 1) := by decide +kernel
theorem dX5_cellUnder_3 : decode cX5_cellUnder 3 = .ok (.idiv, 1) := by decide +kernel
theorem dX5_cellUnder_4 : decode cX5_cellUnder 4 = .ok (.iload_n 1, 1) := by decide +kernel
theorem dX5_cellUnder_5 : decode cX5_cellUnder 5 = .ok (.iconst 2, 1) := by decide +kernel
theorem dX5_cellUnder_6 : decode cX5_cellUnder 6 = .ok (.idiv, 1) := by decide +kernel
theorem dX5_cellUnder_7 : decode cX5_cellUnder 7 = .ok (.iadd, 1) := by decide +kernel
theorem dX5_cellUnder_8 : decode cX5_cellUnder 8 = .ok (.imul, 1) := by decide +kernel
theorem dX5_cellUnder_9 : decode cX5_cellUnder 9 = .ok (.iload_n 0, 1) := by decide +kernel
theorem dX5_cellUnder_10 : decode cX5_cellUnder 10 = .ok (.iconst 4, 1) := by decide +kernel
theorem dX5_cellUnder_11 : decode cX5_cellUnder 11 = .ok (.irem, 1) := by decide +kernel
theorem dX5_cellUnder_12 : decode cX5_cellUnder 12 = .ok (.iadd, 1) := by decide +kernel
theorem dX5_cellUnder_13 : decode cX5_cellUnder 13 = .ok (.iload_n 1, 1) := by decide +kernel
theorem dX5_cellUnder_14 : decode cX5_cellUnder 14 = .ok (.iconst 2, 1) := by decide +kernel
theorem dX5_cellUnder_15 : decode cX5_cellUnder 15 = .ok (.irem, 1) := by decide +kernel
theorem dX5_cellUnder_16 : decode cX5_cellUnder 16 = .ok (.iadd, 1) := by decide +kernel
theorem dX5_cellUnder_17 : decode cX5_cellUnder 17 = .ok (.ireturn, 1) := by decide +kernel
theorem dX5_neighbour_0 : decode cX5_neighbour 0 = .ok (.iload_n 0, 1) := by decide +kernel
theorem dX5_neighbour_1 : decode cX5_neighbour 1 = .ok (.iconst 5, 1) := by decide +kernel
theorem dX5_neighbour_2 : decode cX5_neighbour 2 = .ok (.idiv, 1) := by decide +kernel
theorem dX5_neighbour_3 : decode cX5_neighbour 3 = .ok (.istore_n 2, 1) := by decide +kernel
theorem dX5_neighbour_4 : decode cX5_neighbour 4 = .ok (.iload_n 0, 1) := by decide +kernel
theorem dX5_neighbour_5 : decode cX5_neighbour 5 = .ok (.iconst 5, 1) := by decide +kernel
theorem dX5_neighbour_6 : decode cX5_neighbour 6 = .ok (.irem, 1) := by decide +kernel
theorem dX5_neighbour_7 : decode cX5_neighbour 7 = .ok (.istore_n 3, 1) := by decide +kernel
theorem dX5_neighbour_8 : decode cX5_neighbour 8 = .ok (.iload_n 1, 1) := by decide +kernel
theorem dX5_neighbour_9 : decode cX5_neighbour 9 = .ok (.tableswitch 81 0 3 #[31, 43, 55, 68], 31) := by decide +kernel
theorem dX5_neighbour_40 : decode cX5_neighbour 40 = .ok (.iload_n 2, 1) := by decide +kernel
theorem dX5_neighbour_41 : decode cX5_neighbour 41 = .ok (.ifCond .le 9, 3) := by decide +kernel
theorem dX5_neighbour_44 : decode cX5_neighbour 44 = .ok (.iload_n 0, 1) := by decide +kernel
theorem dX5_neighbour_45 : decode cX5_neighbour 45 = .ok (.iconst 5, 1) := by decide +kernel
theorem dX5_neighbour_46 : decode cX5_neighbour 46 = .ok (.isub, 1) := by decide +kernel
theorem dX5_neighbour_47 : decode cX5_neighbour 47 = .ok (.goto 4, 3) := by decide +kernel
theorem dX5_neighbour_50 : decode cX5_neighbour 50 = .ok (.iconst (-1), 1) := by decide +kernel
theorem dX5_neighbour_51 : decode cX5_neighbour 51 = .ok (.ireturn, 1) := by decide +kernel
theorem dX5_neighbour_52 : decode cX5_neighbour 52 = .ok (.iload_n 3, 1) := by decide +kernel
theorem dX5_neighbour_53 : decode cX5_neighbour 53 = .ok (.ifCond .le 9, 3) := by decide +kernel
theorem dX5_neighbour_56 : decode cX5_neighbour 56 = .ok (.iload_n 0, 1) := by decide +kernel
theorem dX5_neighbour_57 : decode cX5_neighbour 57 = .ok (.iconst 1, 1) := by decide +kernel
theorem dX5_neighbour_58 : decode cX5_neighbour 58 = .ok (.isub, 1) := by decide +kernel
theorem dX5_neighbour_59 : decode cX5_neighbour 59 = .ok (.goto 4, 3) := by decide +kernel
theorem dX5_neighbour_62 : decode cX5_neighbour 62 = .ok (.iconst (-1), 1) := by decide +kernel
theorem dX5_neighbour_63 : decode cX5_neighbour 63 = .ok (.ireturn, 1) := by decide +kernel
theorem dX5_neighbour_64 : decode cX5_neighbour 64 = .ok (.iload_n 3, 1) := by decide +kernel
theorem dX5_neighbour_65 : decode cX5_neighbour 65 = .ok (.iconst 4, 1) := by decide +kernel
theorem dX5_neighbour_66 : decode cX5_neighbour 66 = .ok (.if_icmp .ge 9, 3) := by decide +kernel
theorem dX5_neighbour_69 : decode cX5_neighbour 69 = .ok (.iload_n 0, 1) := by decide +kernel
theorem dX5_neighbour_70 : decode cX5_neighbour 70 = .ok (.iconst 1, 1) := by decide +kernel
theorem dX5_neighbour_71 : decode cX5_neighbour 71 = .ok (.iadd, 1) := by decide +kernel
theorem dX5_neighbour_72 : decode cX5_neighbour 72 = .ok (.goto 4, 3) := by decide +kernel
theorem dX5_neighbour_75 : decode cX5_neighbour 75 = .ok (.iconst (-1), 1) := by decide +kernel
theorem dX5_neighbour_76 : decode cX5_neighbour 76 = .ok (.ireturn, 1) := by decide +kernel
theorem dX5_neighbour_77 : decode cX5_neighbour 77 = .ok (.iload_n 2, 1) := by decide +kernel
theorem dX5_neighbour_78 : decode cX5_neighbour 78 = .ok (.iconst 4, 1) := by decide +kernel
theorem dX5_neighbour_79 : decode cX5_neighbour 79 = .ok (.if_icmp .ge 9, 3) := by decide +kernel
theorem dX5_neighbour_82 : decode cX5_neighbour 82 = .ok (.iload_n 0, 1) := by decide +kernel
theorem dX5_neighbour_83 : decode cX5_neighbour 83 = .ok (.iconst 5, 1) := by decide +kernel
theorem dX5_neighbour_84 : decode cX5_neighbour 84 = .ok (.iadd, 1) := by decide +kernel
theorem dX5_neighbour_85 : decode cX5_neighbour 85 = .ok (.goto 4, 3) := by decide +kernel
theorem dX5_neighbour_88 : decode cX5_neighbour 88 = .ok (.iconst (-1), 1) := by decide +kernel
theorem dX5_neighbour_89 : decode cX5_neighbour 89 = .ok (.ireturn, 1) := by decide +kernel
theorem dX5_neighbour_90 : decode cX5_neighbour 90 = .ok (.iconst (-1), 1) := by decide +kernel
theorem dX5_neighbour_91 : decode cX5_neighbour 91 = .ok (.ireturn, 1) := by decide +kernel
theorem dX6_init_0 : decode cX6_init 0 = .ok (.aload_n 0, 1) := by decide +kernel
theorem dX6_init_1 : decode cX6_init 1 = .ok (.invokespecial 3, 3) := by decide +kernel
theorem dX6_init_4 : decode cX6_init 4 = .ok (.aload_n 0, 1) := by decide +kernel
theorem dX6_init_5 : decode cX6_init 5 = .ok (.bipush 87, 2) := by decide +kernel
theorem dX6_init_7 : decode cX6_init 7 = .ok (.newarray .int, 2) := by decide +kernel
theorem dX6_init_9 : decode cX6_init 9 = .ok (.putfield 9, 3) := by decide +kernel
theorem dX6_init_12 : decode cX6_init 12 = .ok (.aload_n 0, 1) := by decide +kernel
theorem dX6_init_13 : decode cX6_init 13 = .ok (.bipush 87, 2) := by decide +kernel
theorem dX6_init_15 : decode cX6_init 15 = .ok (.newarray .int, 2) := by decide +kernel
theorem dX6_init_17 : decode cX6_init 17 = .ok (.putfield 13, 3) := by decide +kernel
theorem dX6_init_20 : decode cX6_init 20 = .ok (.aload_n 0, 1) := by decide +kernel
theorem dX6_init_21 : decode cX6_init 21 = .ok (.bipush 87, 2) := by decide +kernel
theorem dX6_init_23 : decode cX6_init 23 = .ok (.newarray .int, 2) := by decide +kernel
theorem dX6_init_25 : decode cX6_init 25 = .ok (.putfield 16, 3) := by decide +kernel
theorem dX6_init_28 : decode cX6_init 28 = .ok (.aload_n 0, 1) := by decide +kernel
theorem dX6_init_29 : decode cX6_init 29 = .ok (.bipush 7, 2) := by decide +kernel
theorem dX6_init_31 : decode cX6_init 31 = .ok (.newarray .int, 2) := by decide +kernel
theorem dX6_init_33 : decode cX6_init 33 = .ok (.putfield 19, 3) := by decide +kernel
theorem dX6_init_36 : decode cX6_init 36 = .ok (.aload_n 0, 1) := by decide +kernel
theorem dX6_init_37 : decode cX6_init 37 = .ok (.bipush 25, 2) := by decide +kernel
theorem dX6_init_39 : decode cX6_init 39 = .ok (.newarray .int, 2) := by decide +kernel
theorem dX6_init_41 : decode cX6_init 41 = .ok (.putfield 22, 3) := by decide +kernel
theorem dX6_init_44 : decode cX6_init 44 = .ok (.aload_n 0, 1) := by decide +kernel
theorem dX6_init_45 : decode cX6_init 45 = .ok (.bipush 25, 2) := by decide +kernel
theorem dX6_init_47 : decode cX6_init 47 = .ok (.newarray .int, 2) := by decide +kernel
theorem dX6_init_49 : decode cX6_init 49 = .ok (.putfield 25, 3) := by decide +kernel
theorem dX6_init_52 : decode cX6_init 52 = .ok (.aload_n 0, 1) := by decide +kernel
theorem dX6_init_53 : decode cX6_init 53 = .ok (.bipush 120, 2) := by decide +kernel
theorem dX6_init_55 : decode cX6_init 55 = .ok (.newarray .int, 2) := by decide +kernel
theorem dX6_init_57 : decode cX6_init 57 = .ok (.putfield 28, 3) := by decide +kernel
theorem dX6_init_60 : decode cX6_init 60 = .ok (.aload_n 0, 1) := by decide +kernel
theorem dX6_init_61 : decode cX6_init 61 = .ok (.iconst 4, 1) := by decide +kernel
theorem dX6_init_62 : decode cX6_init 62 = .ok (.newarray .int, 2) := by decide +kernel
theorem dX6_init_64 : decode cX6_init 64 = .ok (.putfield 31, 3) := by decide +kernel
theorem dX6_init_67 : decode cX6_init 67 = .ok (.aload_n 0, 1) := by decide +kernel
theorem dX6_init_68 : decode cX6_init 68 = .ok (.iconst 4, 1) := by decide +kernel
theorem dX6_init_69 : decode cX6_init 69 = .ok (.newarray .int, 2) := by decide +kernel
theorem dX6_init_71 : decode cX6_init 71 = .ok (.putfield 34, 3) := by decide +kernel
theorem dX6_init_74 : decode cX6_init 74 = .ok (.aload_n 0, 1) := by decide +kernel
theorem dX6_init_75 : decode cX6_init 75 = .ok (.sipush 160, 3) := by decide +kernel
theorem dX6_init_78 : decode cX6_init 78 = .ok (.newarray .int, 2) := by decide +kernel
theorem dX6_init_80 : decode cX6_init 80 = .ok (.putfield 37, 3) := by decide +kernel
theorem dX6_init_83 : decode cX6_init 83 = .ok (.aload_n 0, 1) := by decide +kernel
theorem dX6_init_84 : decode cX6_init 84 = .ok (.bipush 40, 2) := by decide +kernel
theorem dX6_init_86 : decode cX6_init 86 = .ok (.newarray .int, 2) := by decide +kernel
theorem dX6_init_88 : decode cX6_init 88 = .ok (.putfield 40, 3) := by decide +kernel
theorem dX6_init_91 : decode cX6_init 91 = .ok (.aload_n 0, 1) := by decide +kernel
theorem dX6_init_92 : decode cX6_init 92 = .ok (.getfield 9, 3) := by decide +kernel
theorem dX6_init_95 : decode cX6_init 95 = .ok (.iconst 1, 1) := by decide +kernel
theorem dX6_init_96 : decode cX6_init 96 = .ok (.iconst 1, 1) := by decide +kernel
theorem dX6_init_97 : decode cX6_init 97 = .ok (.iastore, 1) := by decide +kernel
theorem dX6_init_98 : decode cX6_init 98 = .ok (.iconst 0, 1) := by decide +kernel
theorem dX6_init_99 : decode cX6_init 99 = .ok (.istore_n 1, 1) := by decide +kernel
theorem dX6_init_100 : decode cX6_init 100 = .ok (.iload_n 1, 1) := by decide +kernel
theorem dX6_init_101 : decode cX6_init 101 = .ok (.bipush 25, 2) := by decide +kernel
theorem dX6_init_103 : decode cX6_init 103 = .ok (.if_icmp .ge 19, 3) := by decide +kernel
theorem dX6_init_106 : decode cX6_init 106 = .ok (.aload_n 0, 1) := by decide +kernel
theorem dX6_init_107 : decode cX6_init 107 = .ok (.getfield 9, 3) := by decide +kernel
theorem dX6_init_110 : decode cX6_init 110 = .ok (.iconst 4, 1) := by decide +kernel
theorem dX6_init_111 : decode cX6_init 111 = .ok (.iload_n 1, 1) := by decide +kernel
theorem dX6_init_112 : decode cX6_init 112 = .ok (.iadd, 1) := by decide +kernel
theorem dX6_init_113 : decode cX6_init 113 = .ok (.bipush 50, 2) := by decide +kernel
theorem dX6_init_115 : decode cX6_init 115 = .ok (.iastore, 1) := by decide +kernel
theorem dX6_init_116 : decode cX6_init 116 = .ok (.iinc 1 1, 3) := by decide +kernel
theorem dX6_init_119 : decode cX6_init 119 = .ok (.goto (-19), 3) := by decide +kernel
theorem dX6_init_122 : decode cX6_init 122 = .ok (.iconst 0, 1) := by decide +kernel
theorem dX6_init_123 : decode cX6_init 123 = .ok (.istore_n 1, 1) := by decide +kernel
theorem dX6_init_124 : decode cX6_init 124 = .ok (.iload_n 1, 1) := by decide +kernel
theorem dX6_init_125 : decode cX6_init 125 = .ok (.bipush 10, 2) := by decide +kernel
theorem dX6_init_127 : decode cX6_init 127 = .ok (.if_icmp .ge 19, 3) := by decide +kernel
theorem dX6_init_130 : decode cX6_init 130 = .ok (.aload_n 0, 1) := by decide +kernel
theorem dX6_init_131 : decode cX6_init 131 = .ok (.getfield 9, 3) := by decide +kernel
theorem dX6_init_134 : decode cX6_init 134 = .ok (.bipush 77, 2) := by decide +kernel
theorem dX6_init_136 : decode cX6_init 136 = .ok (.iload_n 1, 1) := by decide +kernel
theorem dX6_init_137 : decode cX6_init 137 = .ok (.iadd, 1) := by decide +kernel
theorem dX6_init_138 : decode cX6_init 138 = .ok (.iconst (-1), 1) := by decide +kernel
theorem dX6_init_139 : decode cX6_init 139 = .ok (.iastore, 1) := by decide +kernel
theorem dX6_init_140 : decode cX6_init 140 = .ok (.iinc 1 1, 3) := by decide +kernel
theorem dX6_init_143 : decode cX6_init 143 = .ok (.goto (-19), 3) := by decide +kernel
theorem dX6_init_146 : decode cX6_init 146 = .ok (.return_, 1) := by decide +kernel
theorem dX6_finds_0 : decode cX6_finds 0 = .ok (.aload_n 0, 1) := by decide +kernel
theorem dX6_finds_1 : decode cX6_finds 1 = .ok (.getfield 19, 3) := by decide +kernel
theorem dX6_finds_4 : decode cX6_finds 4 = .ok (.iload_n 1, 1) := by decide +kernel
theorem dX6_finds_5 : decode cX6_finds 5 = .ok (.dup2, 1) := by decide +kernel
theorem dX6_finds_6 : decode cX6_finds 6 = .ok (.iaload, 1) := by decide +kernel
theorem dX6_finds_7 : decode cX6_finds 7 = .ok (.iconst 1, 1) := by decide +kernel
theorem dX6_finds_8 : decode cX6_finds 8 = .ok (.iadd, 1) := by decide +kernel
theorem dX6_finds_9 : decode cX6_finds 9 = .ok (.iastore, 1) := by decide +kernel
theorem dX6_finds_10 : decode cX6_finds 10 = .ok (.ldc 43, 2) := by decide +kernel
theorem dX6_finds_12 : decode cX6_finds 12 = .ok (.iload_n 1, 1) := by decide +kernel
theorem dX6_finds_13 : decode cX6_finds 13 = .ok (.isub, 1) := by decide +kernel
theorem dX6_finds_14 : decode cX6_finds 14 = .ok (.ireturn, 1) := by decide +kernel
theorem dX6_in_0 : decode cX6_in 0 = .ok (.lload_n 0, 1) := by decide +kernel
theorem dX6_in_1 : decode cX6_in 1 = .ok (.lload_n 2, 1) := by decide +kernel
theorem dX6_in_2 : decode cX6_in 2 = .ok (.lcmp, 1) := by decide +kernel
theorem dX6_in_3 : decode cX6_in 3 = .ok (.ifCond .lt 14, 3) := by decide +kernel
theorem dX6_in_6 : decode cX6_in 6 = .ok (.lload_n 0, 1) := by decide +kernel
theorem dX6_in_7 : decode cX6_in 7 = .ok (.lload 4, 2) := by decide +kernel
theorem dX6_in_9 : decode cX6_in 9 = .ok (.lcmp, 1) := by decide +kernel
theorem dX6_in_10 : decode cX6_in 10 = .ok (.ifCond .gt 7, 3) := by decide +kernel
theorem dX6_in_13 : decode cX6_in 13 = .ok (.iconst 1, 1) := by decide +kernel
theorem dX6_in_14 : decode cX6_in 14 = .ok (.goto 4, 3) := by decide +kernel
theorem dX6_in_17 : decode cX6_in 17 = .ok (.iconst 0, 1) := by decide +kernel
theorem dX6_in_18 : decode cX6_in 18 = .ok (.ireturn, 1) := by decide +kernel
theorem dX6_become_0 : decode cX6_become 0 = .ok (.iconst 0, 1) := by decide +kernel
theorem dX6_become_1 : decode cX6_become 1 = .ok (.istore_n 2, 1) := by decide +kernel
theorem dX6_become_2 : decode cX6_become 2 = .ok (.iload_n 2, 1) := by decide +kernel
theorem dX6_become_3 : decode cX6_become 3 = .ok (.bipush 87, 2) := by decide +kernel
theorem dX6_become_5 : decode cX6_become 5 = .ok (.if_icmp .ge 15, 3) := by decide +kernel
theorem dX6_become_8 : decode cX6_become 8 = .ok (.aload_n 1, 1) := by decide +kernel
theorem dX6_become_9 : decode cX6_become 9 = .ok (.iload_n 2, 1) := by decide +kernel
theorem dX6_become_10 : decode cX6_become 10 = .ok (.aload_n 0, 1) := by decide +kernel
theorem dX6_become_11 : decode cX6_become 11 = .ok (.iload_n 2, 1) := by decide +kernel
theorem dX6_become_12 : decode cX6_become 12 = .ok (.iaload, 1) := by decide +kernel
theorem dX6_become_13 : decode cX6_become 13 = .ok (.iastore, 1) := by decide +kernel
theorem dX6_become_14 : decode cX6_become 14 = .ok (.iinc 2 1, 3) := by decide +kernel
theorem dX6_become_17 : decode cX6_become 17 = .ok (.goto (-15), 3) := by decide +kernel
theorem dX6_become_20 : decode cX6_become 20 = .ok (.return_, 1) := by decide +kernel
theorem dX6_lends_0 : decode cX6_lends 0 = .ok (.aload_n 0, 1) := by decide +kernel
theorem dX6_lends_1 : decode cX6_lends 1 = .ok (.getfield 9, 3) := by decide +kernel
theorem dX6_lends_4 : decode cX6_lends 4 = .ok (.aload_n 0, 1) := by decide +kernel
theorem dX6_lends_5 : decode cX6_lends 5 = .ok (.getfield 16, 3) := by decide +kernel
theorem dX6_lends_8 : decode cX6_lends 8 = .ok (.invokestatic 44, 3) := by decide +kernel
theorem dX6_lends_11 : decode cX6_lends 11 = .ok (.return_, 1) := by decide +kernel
theorem dX6_laysBack_0 : decode cX6_laysBack 0 = .ok (.aload_n 0, 1) := by decide +kernel
theorem dX6_laysBack_1 : decode cX6_laysBack 1 = .ok (.getfield 16, 3) := by decide +kernel
theorem dX6_laysBack_4 : decode cX6_laysBack 4 = .ok (.aload_n 0, 1) := by decide +kernel
theorem dX6_laysBack_5 : decode cX6_laysBack 5 = .ok (.getfield 9, 3) := by decide +kernel
theorem dX6_laysBack_8 : decode cX6_laysBack 8 = .ok (.invokestatic 44, 3) := by decide +kernel
theorem dX6_laysBack_11 : decode cX6_laysBack 11 = .ok (.return_, 1) := by decide +kernel
theorem dX6_isTent_0 : decode cX6_isTent 0 = .ok (.iload_n 1, 1) := by decide +kernel
theorem dX6_isTent_1 : decode cX6_isTent 1 = .ok (.i2l, 1) := by decide +kernel
theorem dX6_isTent_2 : decode cX6_isTent 2 = .ok (.lconst 0, 1) := by decide +kernel
theorem dX6_isTent_3 : decode cX6_isTent 3 = .ok (.aload_n 0, 1) := by decide +kernel
theorem dX6_isTent_4 : decode cX6_isTent 4 = .ok (.getfield 9, 3) := by decide +kernel
theorem dX6_isTent_7 : decode cX6_isTent 7 = .ok (.iconst 2, 1) := by decide +kernel
theorem dX6_isTent_8 : decode cX6_isTent 8 = .ok (.iaload, 1) := by decide +kernel
theorem dX6_isTent_9 : decode cX6_isTent 9 = .ok (.iconst 1, 1) := by decide +kernel
theorem dX6_isTent_10 : decode cX6_isTent 10 = .ok (.isub, 1) := by decide +kernel
theorem dX6_isTent_11 : decode cX6_isTent 11 = .ok (.i2l, 1) := by decide +kernel
theorem dX6_isTent_12 : decode cX6_isTent 12 = .ok (.invokestatic 48, 3) := by decide +kernel
theorem dX6_isTent_15 : decode cX6_isTent 15 = .ok (.ireturn, 1) := by decide +kernel
theorem dX6_isCell_0 : decode cX6_isCell 0 = .ok (.iload_n 0, 1) := by decide +kernel
theorem dX6_isCell_1 : decode cX6_isCell 1 = .ok (.i2l, 1) := by decide +kernel
theorem dX6_isCell_2 : decode cX6_isCell 2 = .ok (.lconst 0, 1) := by decide +kernel
theorem dX6_isCell_3 : decode cX6_isCell 3 = .ok (.ldc2_w 52, 3) := by decide +kernel
theorem dX6_isCell_6 : decode cX6_isCell 6 = .ok (.invokestatic 48, 3) := by decide +kernel
theorem dX6_isCell_9 : decode cX6_isCell 9 = .ok (.ireturn, 1) := by decide +kernel
theorem dX6_isPitch_0 : decode cX6_isPitch 0 = .ok (.iload_n 0, 1) := by decide +kernel
theorem dX6_isPitch_1 : decode cX6_isPitch 1 = .ok (.i2l, 1) := by decide +kernel
theorem dX6_isPitch_2 : decode cX6_isPitch 2 = .ok (.lconst 0, 1) := by decide +kernel
theorem dX6_isPitch_3 : decode cX6_isPitch 3 = .ok (.ldc2_w 54, 3) := by decide +kernel
theorem dX6_isPitch_6 : decode cX6_isPitch 6 = .ok (.invokestatic 48, 3) := by decide +kernel
theorem dX6_isPitch_9 : decode cX6_isPitch 9 = .ok (.ireturn, 1) := by decide +kernel
theorem dX6_isHigh_0 : decode cX6_isHigh 0 = .ok (.iload_n 0, 1) := by decide +kernel
theorem dX6_isHigh_1 : decode cX6_isHigh 1 = .ok (.i2l, 1) := by decide +kernel
theorem dX6_isHigh_2 : decode cX6_isHigh 2 = .ok (.lconst 0, 1) := by decide +kernel
theorem dX6_isHigh_3 : decode cX6_isHigh 3 = .ok (.ldc2_w 56, 3) := by decide +kernel
theorem dX6_isHigh_6 : decode cX6_isHigh 6 = .ok (.invokestatic 48, 3) := by decide +kernel
theorem dX6_isHigh_9 : decode cX6_isHigh 9 = .ok (.ireturn, 1) := by decide +kernel
theorem dX6_held_0 : decode cX6_held 0 = .ok (.iconst 0, 1) := by decide +kernel
theorem dX6_held_1 : decode cX6_held 1 = .ok (.bipush 99, 2) := by decide +kernel
theorem dX6_held_3 : decode cX6_held 3 = .ok (.iload_n 0, 1) := by decide +kernel
theorem dX6_held_4 : decode cX6_held 4 = .ok (.invokestatic 58, 3) := by decide +kernel
theorem dX6_held_7 : decode cX6_held 7 = .ok (.invokestatic 64, 3) := by decide +kernel
theorem dX6_held_10 : decode cX6_held 10 = .ok (.ireturn, 1) := by decide +kernel
theorem dX6_its_0 : decode cX6_its 0 = .ok (.aload_n 0, 1) := by decide +kernel
theorem dX6_its_1 : decode cX6_its 1 = .ok (.getfield 9, 3) := by decide +kernel
theorem dX6_its_4 : decode cX6_its 4 = .ok (.bipush 29, 2) := by decide +kernel
theorem dX6_its_6 : decode cX6_its 6 = .ok (.bipush 8, 2) := by decide +kernel
theorem dX6_its_8 : decode cX6_its 8 = .ok (.iload_n 1, 1) := by decide +kernel
theorem dX6_its_9 : decode cX6_its 9 = .ok (.imul, 1) := by decide +kernel
theorem dX6_its_10 : decode cX6_its 10 = .ok (.iadd, 1) := by decide +kernel
theorem dX6_its_11 : decode cX6_its 11 = .ok (.iload_n 2, 1) := by decide +kernel
theorem dX6_its_12 : decode cX6_its 12 = .ok (.iadd, 1) := by decide +kernel
theorem dX6_its_13 : decode cX6_its 13 = .ok (.iaload, 1) := by decide +kernel
theorem dX6_its_14 : decode cX6_its 14 = .ok (.ireturn, 1) := by decide +kernel
theorem dX6_sets_0 : decode cX6_sets 0 = .ok (.aload_n 0, 1) := by decide +kernel
theorem dX6_sets_1 : decode cX6_sets 1 = .ok (.getfield 9, 3) := by decide +kernel
theorem dX6_sets_4 : decode cX6_sets 4 = .ok (.bipush 29, 2) := by decide +kernel
theorem dX6_sets_6 : decode cX6_sets 6 = .ok (.bipush 8, 2) := by decide +kernel
theorem dX6_sets_8 : decode cX6_sets 8 = .ok (.iload_n 1, 1) := by decide +kernel
theorem dX6_sets_9 : decode cX6_sets 9 = .ok (.imul, 1) := by decide +kernel
theorem dX6_sets_10 : decode cX6_sets 10 = .ok (.iadd, 1) := by decide +kernel
theorem dX6_sets_11 : decode cX6_sets 11 = .ok (.iload_n 2, 1) := by decide +kernel
theorem dX6_sets_12 : decode cX6_sets 12 = .ok (.iadd, 1) := by decide +kernel
theorem dX6_sets_13 : decode cX6_sets 13 = .ok (.iload_n 3, 1) := by decide +kernel
theorem dX6_sets_14 : decode cX6_sets 14 = .ok (.iastore, 1) := by decide +kernel
theorem dX6_sets_15 : decode cX6_sets 15 = .ok (.return_, 1) := by decide +kernel
theorem dX6_becomes_0 : decode cX6_becomes 0 = .ok (.aload_n 0, 1) := by decide +kernel
theorem dX6_becomes_1 : decode cX6_becomes 1 = .ok (.getfield 9, 3) := by decide +kernel
theorem dX6_becomes_4 : decode cX6_becomes 4 = .ok (.iload_n 1, 1) := by decide +kernel
theorem dX6_becomes_5 : decode cX6_becomes 5 = .ok (.iaload, 1) := by decide +kernel
theorem dX6_becomes_6 : decode cX6_becomes 6 = .ok (.istore_n 3, 1) := by decide +kernel
theorem dX6_becomes_7 : decode cX6_becomes 7 = .ok (.aload_n 0, 1) := by decide +kernel
theorem dX6_becomes_8 : decode cX6_becomes 8 = .ok (.getfield 9, 3) := by decide +kernel
theorem dX6_becomes_11 : decode cX6_becomes 11 = .ok (.iload_n 1, 1) := by decide +kernel
theorem dX6_becomes_12 : decode cX6_becomes 12 = .ok (.iload_n 2, 1) := by decide +kernel
theorem dX6_becomes_13 : decode cX6_becomes 13 = .ok (.iastore, 1) := by decide +kernel
theorem dX6_becomes_14 : decode cX6_becomes 14 = .ok (.iload_n 3, 1) := by decide +kernel
theorem dX6_becomes_15 : decode cX6_becomes 15 = .ok (.ireturn, 1) := by decide +kernel
theorem dX6_cellOf_0 : decode cX6_cellOf 0 = .ok (.iconst 5, 1) := by decide +kernel
theorem dX6_cellOf_1 : decode cX6_cellOf 1 = .ok (.iload_n 0, 1) := by decide +kernel
theorem dX6_cellOf_2 : decode cX6_cellOf 2 = .ok (.iconst 4, 1) := by decide +kernel
theorem dX6_cellOf_3 : decode cX6_cellOf 3 = .ok (.idiv, 1) := by decide +kernel
theorem dX6_cellOf_4 : decode cX6_cellOf 4 = .ok (.iload_n 1, 1) := by decide +kernel
theorem dX6_cellOf_5 : decode cX6_cellOf 5 = .ok (.iconst 2, 1) := by decide +kernel
theorem dX6_cellOf_6 : decode cX6_cellOf 6 = .ok (.idiv, 1) := by decide +kernel
theorem dX6_cellOf_7 : decode cX6_cellOf 7 = .ok (.iadd, 1) := by decide +kernel
theorem dX6_cellOf_8 : decode cX6_cellOf 8 = .ok (.imul, 1) := by decide +kernel
theorem dX6_cellOf_9 : decode cX6_cellOf 9 = .ok (.iload_n 0, 1) := by decide +kernel
theorem dX6_cellOf_10 : decode cX6_cellOf 10 = .ok (.iconst 4, 1) := by decide +kernel
theorem dX6_cellOf_11 : decode cX6_cellOf 11 = .ok (.irem, 1) := by decide +kernel
theorem dX6_cellOf_12 : decode cX6_cellOf 12 = .ok (.iadd, 1) := by decide +kernel
theorem dX6_cellOf_13 : decode cX6_cellOf 13 = .ok (.iload_n 1, 1) := by decide +kernel
theorem dX6_cellOf_14 : decode cX6_cellOf 14 = .ok (.iconst 2, 1) := by decide +kernel
theorem dX6_cellOf_15 : decode cX6_cellOf 15 = .ok (.irem, 1) := by decide +kernel
theorem dX6_cellOf_16 : decode cX6_cellOf 16 = .ok (.iadd, 1) := by decide +kernel
theorem dX6_cellOf_17 : decode cX6_cellOf 17 = .ok (.ireturn, 1) := by decide +kernel
theorem dX6_areBeside_0 : decode cX6_areBeside 0 = .ok (.iload_n 0, 1) := by decide +kernel
theorem dX6_areBeside_1 : decode cX6_areBeside 1 = .ok (.iconst 5, 1) := by decide +kernel
theorem dX6_areBeside_2 : decode cX6_areBeside 2 = .ok (.idiv, 1) := by decide +kernel
theorem dX6_areBeside_3 : decode cX6_areBeside 3 = .ok (.iload_n 1, 1) := by decide +kernel
theorem dX6_areBeside_4 : decode cX6_areBeside 4 = .ok (.iconst 5, 1) := by decide +kernel
theorem dX6_areBeside_5 : decode cX6_areBeside 5 = .ok (.idiv, 1) := by decide +kernel
theorem dX6_areBeside_6 : decode cX6_areBeside 6 = .ok (.isub, 1) := by decide +kernel
theorem dX6_areBeside_7 : decode cX6_areBeside 7 = .ok (.invokestatic 67, 3) := by decide +kernel
theorem dX6_areBeside_10 : decode cX6_areBeside 10 = .ok (.iload_n 0, 1) := by decide +kernel
theorem dX6_areBeside_11 : decode cX6_areBeside 11 = .ok (.iconst 5, 1) := by decide +kernel
theorem dX6_areBeside_12 : decode cX6_areBeside 12 = .ok (.irem, 1) := by decide +kernel
theorem dX6_areBeside_13 : decode cX6_areBeside 13 = .ok (.iload_n 1, 1) := by decide +kernel
theorem dX6_areBeside_14 : decode cX6_areBeside 14 = .ok (.iconst 5, 1) := by decide +kernel
theorem dX6_areBeside_15 : decode cX6_areBeside 15 = .ok (.irem, 1) := by decide +kernel
theorem dX6_areBeside_16 : decode cX6_areBeside 16 = .ok (.isub, 1) := by decide +kernel
theorem dX6_areBeside_17 : decode cX6_areBeside 17 = .ok (.invokestatic 67, 3) := by decide +kernel
theorem dX6_areBeside_20 : decode cX6_areBeside 20 = .ok (.iadd, 1) := by decide +kernel
theorem dX6_areBeside_21 : decode cX6_areBeside 21 = .ok (.iconst 1, 1) := by decide +kernel
theorem dX6_areBeside_22 : decode cX6_areBeside 22 = .ok (.if_icmp .ne 7, 3) := by decide +kernel
theorem dX6_areBeside_25 : decode cX6_areBeside 25 = .ok (.iconst 1, 1) := by decide +kernel
theorem dX6_areBeside_26 : decode cX6_areBeside 26 = .ok (.goto 4, 3) := by decide +kernel
theorem dX6_areBeside_29 : decode cX6_areBeside 29 = .ok (.iconst 0, 1) := by decide +kernel
theorem dX6_areBeside_30 : decode cX6_areBeside 30 = .ok (.ireturn, 1) := by decide +kernel
theorem dX6_aboveOf_0 : decode cX6_aboveOf 0 = .ok (.iload_n 0, 1) := by decide +kernel
theorem dX6_aboveOf_1 : decode cX6_aboveOf 1 = .ok (.iconst 3, 1) := by decide +kernel
theorem dX6_aboveOf_2 : decode cX6_aboveOf 2 = .ok (.if_icmp .ne 7, 3) := by decide +kernel
theorem dX6_aboveOf_5 : decode cX6_aboveOf 5 = .ok (.iconst 2, 1) := by decide +kernel
theorem dX6_aboveOf_6 : decode cX6_aboveOf 6 = .ok (.goto 23, 3) := by decide +kernel
theorem dX6_aboveOf_9 : decode cX6_aboveOf 9 = .ok (.iload_n 0, 1) := by decide +kernel
theorem dX6_aboveOf_10 : decode cX6_aboveOf 10 = .ok (.iconst 4, 1) := by decide +kernel
theorem dX6_aboveOf_11 : decode cX6_aboveOf 11 = .ok (.if_icmp .ne 7, 3) := by decide +kernel
theorem dX6_aboveOf_14 : decode cX6_aboveOf 14 = .ok (.iconst 3, 1) := by decide +kernel
theorem dX6_aboveOf_15 : decode cX6_aboveOf 15 = .ok (.goto 14, 3) := by decide +kernel
theorem dX6_aboveOf_18 : decode cX6_aboveOf 18 = .ok (.iload_n 0, 1) := by decide +kernel
theorem dX6_aboveOf_19 : decode cX6_aboveOf 19 = .ok (.bipush 6, 2) := by decide +kernel
theorem dX6_aboveOf_21 : decode cX6_aboveOf 21 = .ok (.if_icmp .ne 7, 3) := by decide +kernel
theorem dX6_aboveOf_24 : decode cX6_aboveOf 24 = .ok (.iconst 1, 1) := by decide +kernel
theorem dX6_aboveOf_25 : decode cX6_aboveOf 25 = .ok (.goto 4, 3) := by decide +kernel
theorem dX6_aboveOf_28 : decode cX6_aboveOf 28 = .ok (.iconst 0, 1) := by decide +kernel
theorem dX6_aboveOf_29 : decode cX6_aboveOf 29 = .ok (.ireturn, 1) := by decide +kernel
theorem dX6_isUnder_0 : decode cX6_isUnder 0 = .ok (.iload_n 0, 1) := by decide +kernel
theorem dX6_isUnder_1 : decode cX6_isUnder 1 = .ok (.istore_n 2, 1) := by decide +kernel
theorem dX6_isUnder_2 : decode cX6_isUnder 2 = .ok (.iload_n 2, 1) := by decide +kernel
theorem dX6_isUnder_3 : decode cX6_isUnder 3 = .ok (.ifCond .eq 16, 3) := by decide +kernel
theorem dX6_isUnder_6 : decode cX6_isUnder 6 = .ok (.iload_n 2, 1) := by decide +kernel
theorem dX6_isUnder_7 : decode cX6_isUnder 7 = .ok (.iload_n 1, 1) := by decide +kernel
theorem dX6_isUnder_8 : decode cX6_isUnder 8 = .ok (.if_icmp .eq 11, 3) := by decide +kernel
theorem dX6_isUnder_11 : decode cX6_isUnder 11 = .ok (.iload_n 2, 1) := by decide +kernel
theorem dX6_isUnder_12 : decode cX6_isUnder 12 = .ok (.invokestatic 71, 3) := by decide +kernel
theorem dX6_isUnder_15 : decode cX6_isUnder 15 = .ok (.istore_n 2, 1) := by decide +kernel
theorem dX6_isUnder_16 : decode cX6_isUnder 16 = .ok (.goto (-14), 3) := by decide +kernel
theorem dX6_isUnder_19 : decode cX6_isUnder 19 = .ok (.iload_n 2, 1) := by decide +kernel
theorem dX6_isUnder_20 : decode cX6_isUnder 20 = .ok (.iload_n 1, 1) := by decide +kernel
theorem dX6_isUnder_21 : decode cX6_isUnder 21 = .ok (.if_icmp .ne 7, 3) := by decide +kernel
theorem dX6_isUnder_24 : decode cX6_isUnder 24 = .ok (.iconst 1, 1) := by decide +kernel
theorem dX6_isUnder_25 : decode cX6_isUnder 25 = .ok (.goto 4, 3) := by decide +kernel
theorem dX6_isUnder_28 : decode cX6_isUnder 28 = .ok (.iconst 0, 1) := by decide +kernel
theorem dX6_isUnder_29 : decode cX6_isUnder 29 = .ok (.ireturn, 1) := by decide +kernel
theorem dX6_isKind_0 : decode cX6_isKind 0 = .ok (.iload_n 0, 1) := by decide +kernel
theorem dX6_isKind_1 : decode cX6_isKind 1 = .ok (.i2l, 1) := by decide +kernel
theorem dX6_isKind_2 : decode cX6_isKind 2 = .ok (.lconst 0, 1) := by decide +kernel
theorem dX6_isKind_3 : decode cX6_isKind 3 = .ok (.ldc2_w 74, 3) := by decide +kernel
theorem dX6_isKind_6 : decode cX6_isKind 6 = .ok (.invokestatic 48, 3) := by decide +kernel
theorem dX6_isKind_9 : decode cX6_isKind 9 = .ok (.ireturn, 1) := by decide +kernel
theorem dX6_presses_0 : decode cX6_presses 0 = .ok (.iload_n 2, 1) := by decide +kernel
theorem dX6_presses_1 : decode cX6_presses 1 = .ok (.iload_n 1, 1) := by decide +kernel
theorem dX6_presses_2 : decode cX6_presses 2 = .ok (.iload_n 2, 1) := by decide +kernel
theorem dX6_presses_3 : decode cX6_presses 3 = .ok (.if_icmp .le 7, 3) := by decide +kernel
theorem dX6_presses_6 : decode cX6_presses 6 = .ok (.iconst 1, 1) := by decide +kernel
theorem dX6_presses_7 : decode cX6_presses 7 = .ok (.goto 4, 3) := by decide +kernel
theorem dX6_presses_10 : decode cX6_presses 10 = .ok (.iconst 0, 1) := by decide +kernel
theorem dX6_presses_11 : decode cX6_presses 11 = .ok (.iadd, 1) := by decide +kernel
theorem dX6_presses_12 : decode cX6_presses 12 = .ok (.istore_n 3, 1) := by decide +kernel
theorem dX6_presses_13 : decode cX6_presses 13 = .ok (.iload_n 0, 1) := by decide +kernel
theorem dX6_presses_14 : decode cX6_presses 14 = .ok (.tableswitch 60 1 6 #[38, 44, 46, 48, 52, 40], 38) := by decide +kernel
theorem dX6_presses_52 : decode cX6_presses 52 = .ok (.iload_n 1, 1) := by decide +kernel
theorem dX6_presses_53 : decode cX6_presses 53 = .ok (.ireturn, 1) := by decide +kernel
theorem dX6_presses_54 : decode cX6_presses 54 = .ok (.iload_n 1, 1) := by decide +kernel
theorem dX6_presses_55 : decode cX6_presses 55 = .ok (.iconst 1, 1) := by decide +kernel
theorem dX6_presses_56 : decode cX6_presses 56 = .ok (.iadd, 1) := by decide +kernel
theorem dX6_presses_57 : decode cX6_presses 57 = .ok (.ireturn, 1) := by decide +kernel
theorem dX6_presses_58 : decode cX6_presses 58 = .ok (.iload_n 2, 1) := by decide +kernel
theorem dX6_presses_59 : decode cX6_presses 59 = .ok (.ireturn, 1) := by decide +kernel
theorem dX6_presses_60 : decode cX6_presses 60 = .ok (.iload_n 3, 1) := by decide +kernel
theorem dX6_presses_61 : decode cX6_presses 61 = .ok (.ireturn, 1) := by decide +kernel
theorem dX6_presses_62 : decode cX6_presses 62 = .ok (.iload_n 3, 1) := by decide +kernel
theorem dX6_presses_63 : decode cX6_presses 63 = .ok (.iconst 3, 1) := by decide +kernel
theorem dX6_presses_64 : decode cX6_presses 64 = .ok (.iadd, 1) := by decide +kernel
theorem dX6_presses_65 : decode cX6_presses 65 = .ok (.ireturn, 1) := by decide +kernel
theorem dX6_presses_66 : decode cX6_presses 66 = .ok (.iload_n 1, 1) := by decide +kernel
theorem dX6_presses_67 : decode cX6_presses 67 = .ok (.iconst 3, 1) := by decide +kernel
theorem dX6_presses_68 : decode cX6_presses 68 = .ok (.iload_n 2, 1) := by decide +kernel
theorem dX6_presses_69 : decode cX6_presses 69 = .ok (.imul, 1) := by decide +kernel
theorem dX6_presses_70 : decode cX6_presses 70 = .ok (.iadd, 1) := by decide +kernel
theorem dX6_presses_71 : decode cX6_presses 71 = .ok (.iconst 4, 1) := by decide +kernel
theorem dX6_presses_72 : decode cX6_presses 72 = .ok (.idiv, 1) := by decide +kernel
theorem dX6_presses_73 : decode cX6_presses 73 = .ok (.ireturn, 1) := by decide +kernel
theorem dX6_presses_74 : decode cX6_presses 74 = .ok (.iload_n 1, 1) := by decide +kernel
theorem dX6_presses_75 : decode cX6_presses 75 = .ok (.iload_n 2, 1) := by decide +kernel
theorem dX6_presses_76 : decode cX6_presses 76 = .ok (.iadd, 1) := by decide +kernel
theorem dX6_presses_77 : decode cX6_presses 77 = .ok (.iconst 2, 1) := by decide +kernel
theorem dX6_presses_78 : decode cX6_presses 78 = .ok (.idiv, 1) := by decide +kernel
theorem dX6_presses_79 : decode cX6_presses 79 = .ok (.ireturn, 1) := by decide +kernel
theorem dX6_takes_0 : decode cX6_takes 0 = .ok (.iload_n 0, 1) := by decide +kernel
theorem dX6_takes_1 : decode cX6_takes 1 = .ok (.tableswitch 63 1 6 #[39, 41, 63, 43, 51, 39], 39) := by decide +kernel
theorem dX6_takes_40 : decode cX6_takes 40 = .ok (.iload_n 2, 1) := by decide +kernel
theorem dX6_takes_41 : decode cX6_takes 41 = .ok (.ireturn, 1) := by decide +kernel
theorem dX6_takes_42 : decode cX6_takes 42 = .ok (.iload_n 3, 1) := by decide +kernel
theorem dX6_takes_43 : decode cX6_takes 43 = .ok (.ireturn, 1) := by decide +kernel
theorem dX6_takes_44 : decode cX6_takes 44 = .ok (.iload_n 2, 1) := by decide +kernel
theorem dX6_takes_45 : decode cX6_takes 45 = .ok (.iload_n 3, 1) := by decide +kernel
theorem dX6_takes_46 : decode cX6_takes 46 = .ok (.iadd, 1) := by decide +kernel
theorem dX6_takes_47 : decode cX6_takes 47 = .ok (.iconst 2, 1) := by decide +kernel
theorem dX6_takes_48 : decode cX6_takes 48 = .ok (.idiv, 1) := by decide +kernel
theorem dX6_takes_49 : decode cX6_takes 49 = .ok (.iconst 1, 1) := by decide +kernel
theorem dX6_takes_50 : decode cX6_takes 50 = .ok (.iadd, 1) := by decide +kernel
theorem dX6_takes_51 : decode cX6_takes 51 = .ok (.ireturn, 1) := by decide +kernel
theorem dX6_takes_52 : decode cX6_takes 52 = .ok (.iload_n 1, 1) := by decide +kernel
theorem dX6_takes_53 : decode cX6_takes 53 = .ok (.bipush 50, 2) := by decide +kernel
theorem dX6_takes_55 : decode cX6_takes 55 = .ok (.if_icmp .ge 7, 3) := by decide +kernel
theorem dX6_takes_58 : decode cX6_takes 58 = .ok (.iload_n 2, 1) := by decide +kernel
theorem dX6_takes_59 : decode cX6_takes 59 = .ok (.goto 4, 3) := by decide +kernel
theorem dX6_takes_62 : decode cX6_takes 62 = .ok (.iload_n 3, 1) := by decide +kernel
theorem dX6_takes_63 : decode cX6_takes 63 = .ok (.ireturn, 1) := by decide +kernel
theorem dX6_takes_64 : decode cX6_takes 64 = .ok (.iload_n 2, 1) := by decide +kernel
theorem dX6_takes_65 : decode cX6_takes 65 = .ok (.iload_n 3, 1) := by decide +kernel
theorem dX6_takes_66 : decode cX6_takes 66 = .ok (.iadd, 1) := by decide +kernel
theorem dX6_takes_67 : decode cX6_takes 67 = .ok (.iconst 2, 1) := by decide +kernel
theorem dX6_takes_68 : decode cX6_takes 68 = .ok (.idiv, 1) := by decide +kernel
theorem dX6_takes_69 : decode cX6_takes 69 = .ok (.ireturn, 1) := by decide +kernel
theorem dX6_wears_0 : decode cX6_wears 0 = .ok (.aload_n 0, 1) := by decide +kernel
theorem dX6_wears_1 : decode cX6_wears 1 = .ok (.iload_n 1, 1) := by decide +kernel
theorem dX6_wears_2 : decode cX6_wears 2 = .ok (.iconst 0, 1) := by decide +kernel
theorem dX6_wears_3 : decode cX6_wears 3 = .ok (.invokevirtual 76, 3) := by decide +kernel
theorem dX6_wears_6 : decode cX6_wears 6 = .ok (.tableswitch 46 1 6 #[38, 46, 46, 42, 44, 40], 38) := by decide +kernel
theorem dX6_wears_44 : decode cX6_wears 44 = .ok (.iconst 2, 1) := by decide +kernel
theorem dX6_wears_45 : decode cX6_wears 45 = .ok (.ireturn, 1) := by decide +kernel
theorem dX6_wears_46 : decode cX6_wears 46 = .ok (.iconst 4, 1) := by decide +kernel
theorem dX6_wears_47 : decode cX6_wears 47 = .ok (.ireturn, 1) := by decide +kernel
theorem dX6_wears_48 : decode cX6_wears 48 = .ok (.iconst 0, 1) := by decide +kernel
theorem dX6_wears_49 : decode cX6_wears 49 = .ok (.ireturn, 1) := by decide +kernel
theorem dX6_wears_50 : decode cX6_wears 50 = .ok (.iconst 5, 1) := by decide +kernel
theorem dX6_wears_51 : decode cX6_wears 51 = .ok (.ireturn, 1) := by decide +kernel
theorem dX6_wears_52 : decode cX6_wears 52 = .ok (.iconst 1, 1) := by decide +kernel
theorem dX6_wears_53 : decode cX6_wears 53 = .ok (.ireturn, 1) := by decide +kernel
theorem dX6_adds_0 : decode cX6_adds 0 = .ok (.aload_n 0, 1) := by decide +kernel
theorem dX6_adds_1 : decode cX6_adds 1 = .ok (.getfield 9, 3) := by decide +kernel
theorem dX6_adds_4 : decode cX6_adds 4 = .ok (.iconst 2, 1) := by decide +kernel
theorem dX6_adds_5 : decode cX6_adds 5 = .ok (.iaload, 1) := by decide +kernel
theorem dX6_adds_6 : decode cX6_adds 6 = .ok (.istore_n 2, 1) := by decide +kernel
theorem dX6_adds_7 : decode cX6_adds 7 = .ok (.aload_n 0, 1) := by decide +kernel
theorem dX6_adds_8 : decode cX6_adds 8 = .ok (.getfield 9, 3) := by decide +kernel
theorem dX6_adds_11 : decode cX6_adds 11 = .ok (.iconst 2, 1) := by decide +kernel
theorem dX6_adds_12 : decode cX6_adds 12 = .ok (.dup2, 1) := by decide +kernel
theorem dX6_adds_13 : decode cX6_adds 13 = .ok (.iaload, 1) := by decide +kernel
theorem dX6_adds_14 : decode cX6_adds 14 = .ok (.iconst 1, 1) := by decide +kernel
theorem dX6_adds_15 : decode cX6_adds 15 = .ok (.iadd, 1) := by decide +kernel
theorem dX6_adds_16 : decode cX6_adds 16 = .ok (.iastore, 1) := by decide +kernel
theorem dX6_adds_17 : decode cX6_adds 17 = .ok (.aload_n 0, 1) := by decide +kernel
theorem dX6_adds_18 : decode cX6_adds 18 = .ok (.iload_n 2, 1) := by decide +kernel
theorem dX6_adds_19 : decode cX6_adds 19 = .ok (.iconst 0, 1) := by decide +kernel
theorem dX6_adds_20 : decode cX6_adds 20 = .ok (.iload_n 1, 1) := by decide +kernel
theorem dX6_adds_21 : decode cX6_adds 21 = .ok (.invokevirtual 79, 3) := by decide +kernel
theorem dX6_adds_24 : decode cX6_adds 24 = .ok (.aload_n 0, 1) := by decide +kernel
theorem dX6_adds_25 : decode cX6_adds 25 = .ok (.iload_n 2, 1) := by decide +kernel
theorem dX6_adds_26 : decode cX6_adds 26 = .ok (.iconst 1, 1) := by decide +kernel
theorem dX6_adds_27 : decode cX6_adds 27 = .ok (.iconst (-1), 1) := by decide +kernel
theorem dX6_adds_28 : decode cX6_adds 28 = .ok (.invokevirtual 79, 3) := by decide +kernel
theorem dX6_adds_31 : decode cX6_adds 31 = .ok (.aload_n 0, 1) := by decide +kernel
theorem dX6_adds_32 : decode cX6_adds 32 = .ok (.iload_n 2, 1) := by decide +kernel
theorem dX6_adds_33 : decode cX6_adds 33 = .ok (.iconst 2, 1) := by decide +kernel
theorem dX6_adds_34 : decode cX6_adds 34 = .ok (.iconst 0, 1) := by decide +kernel
theorem dX6_adds_35 : decode cX6_adds 35 = .ok (.invokevirtual 79, 3) := by decide +kernel
theorem dX6_adds_38 : decode cX6_adds 38 = .ok (.iconst 0, 1) := by decide +kernel
theorem dX6_adds_39 : decode cX6_adds 39 = .ok (.istore_n 3, 1) := by decide +kernel
theorem dX6_adds_40 : decode cX6_adds 40 = .ok (.iload_n 3, 1) := by decide +kernel
theorem dX6_adds_41 : decode cX6_adds 41 = .ok (.iconst 4, 1) := by decide +kernel
theorem dX6_adds_42 : decode cX6_adds 42 = .ok (.if_icmp .ge 18, 3) := by decide +kernel
theorem dX6_adds_45 : decode cX6_adds 45 = .ok (.aload_n 0, 1) := by decide +kernel
theorem dX6_adds_46 : decode cX6_adds 46 = .ok (.iload_n 2, 1) := by decide +kernel
theorem dX6_adds_47 : decode cX6_adds 47 = .ok (.iconst 4, 1) := by decide +kernel
theorem dX6_adds_48 : decode cX6_adds 48 = .ok (.iload_n 3, 1) := by decide +kernel
theorem dX6_adds_49 : decode cX6_adds 49 = .ok (.iadd, 1) := by decide +kernel
theorem dX6_adds_50 : decode cX6_adds 50 = .ok (.iconst (-1), 1) := by decide +kernel
theorem dX6_adds_51 : decode cX6_adds 51 = .ok (.invokevirtual 79, 3) := by decide +kernel
theorem dX6_adds_54 : decode cX6_adds 54 = .ok (.iinc 3 1, 3) := by decide +kernel
theorem dX6_adds_57 : decode cX6_adds 57 = .ok (.goto (-17), 3) := by decide +kernel
theorem dX6_adds_60 : decode cX6_adds 60 = .ok (.iload_n 2, 1) := by decide +kernel
theorem dX6_adds_61 : decode cX6_adds 61 = .ok (.ireturn, 1) := by decide +kernel
theorem dX6_height_0 : decode cX6_height 0 = .ok (.iload_n 1, 1) := by decide +kernel
theorem dX6_height_1 : decode cX6_height 1 = .ok (.invokestatic 83, 3) := by decide +kernel
theorem dX6_height_4 : decode cX6_height 4 = .ok (.ifCond .eq 21, 3) := by decide +kernel
theorem dX6_height_7 : decode cX6_height 7 = .ok (.iload_n 2, 1) := by decide +kernel
theorem dX6_height_8 : decode cX6_height 8 = .ok (.invokestatic 87, 3) := by decide +kernel
theorem dX6_height_11 : decode cX6_height 11 = .ok (.ifCond .eq 14, 3) := by decide +kernel
theorem dX6_height_14 : decode cX6_height 14 = .ok (.aload_n 0, 1) := by decide +kernel
theorem dX6_height_15 : decode cX6_height 15 = .ok (.iconst 4, 1) := by decide +kernel
theorem dX6_height_16 : decode cX6_height 16 = .ok (.iload_n 1, 1) := by decide +kernel
theorem dX6_height_17 : decode cX6_height 17 = .ok (.iadd, 1) := by decide +kernel
theorem dX6_height_18 : decode cX6_height 18 = .ok (.iload_n 2, 1) := by decide +kernel
theorem dX6_height_19 : decode cX6_height 19 = .ok (.invokevirtual 90, 3) := by decide +kernel
theorem dX6_height_22 : decode cX6_height 22 = .ok (.goto 8, 3) := by decide +kernel
theorem dX6_height_25 : decode cX6_height 25 = .ok (.aload_n 0, 1) := by decide +kernel
theorem dX6_height_26 : decode cX6_height 26 = .ok (.iconst 0, 1) := by decide +kernel
theorem dX6_height_27 : decode cX6_height 27 = .ok (.invokevirtual 93, 3) := by decide +kernel
theorem dX6_height_30 : decode cX6_height 30 = .ok (.ireturn, 1) := by decide +kernel
theorem dX6_springs_0 : decode cX6_springs 0 = .ok (.aload_n 0, 1) := by decide +kernel
theorem dX6_springs_1 : decode cX6_springs 1 = .ok (.getfield 9, 3) := by decide +kernel
theorem dX6_springs_4 : decode cX6_springs 4 = .ok (.iconst 3, 1) := by decide +kernel
theorem dX6_springs_5 : decode cX6_springs 5 = .ok (.aload_n 0, 1) := by decide +kernel
theorem dX6_springs_6 : decode cX6_springs 6 = .ok (.getfield 9, 3) := by decide +kernel
theorem dX6_springs_9 : decode cX6_springs 9 = .ok (.iconst 3, 1) := by decide +kernel
theorem dX6_springs_10 : decode cX6_springs 10 = .ok (.iaload, 1) := by decide +kernel
theorem dX6_springs_11 : decode cX6_springs 11 = .ok (.iconst 1, 1) := by decide +kernel
theorem dX6_springs_12 : decode cX6_springs 12 = .ok (.iload_n 1, 1) := by decide +kernel
theorem dX6_springs_13 : decode cX6_springs 13 = .ok (.ishl, 1) := by decide +kernel
theorem dX6_springs_14 : decode cX6_springs 14 = .ok (.iconst (-1), 1) := by decide +kernel
theorem dX6_springs_15 : decode cX6_springs 15 = .ok (.ixor, 1) := by decide +kernel
theorem dX6_springs_16 : decode cX6_springs 16 = .ok (.iand, 1) := by decide +kernel
theorem dX6_springs_17 : decode cX6_springs 17 = .ok (.iload_n 2, 1) := by decide +kernel
theorem dX6_springs_18 : decode cX6_springs 18 = .ok (.iload_n 1, 1) := by decide +kernel
theorem dX6_springs_19 : decode cX6_springs 19 = .ok (.ishl, 1) := by decide +kernel
theorem dX6_springs_20 : decode cX6_springs 20 = .ok (.ior, 1) := by decide +kernel
theorem dX6_springs_21 : decode cX6_springs 21 = .ok (.iastore, 1) := by decide +kernel
theorem dX6_springs_22 : decode cX6_springs 22 = .ok (.return_, 1) := by decide +kernel
theorem dX6_hasSpring_0 : decode cX6_hasSpring 0 = .ok (.aload_n 0, 1) := by decide +kernel
theorem dX6_hasSpring_1 : decode cX6_hasSpring 1 = .ok (.getfield 9, 3) := by decide +kernel
theorem dX6_hasSpring_4 : decode cX6_hasSpring 4 = .ok (.iconst 3, 1) := by decide +kernel
theorem dX6_hasSpring_5 : decode cX6_hasSpring 5 = .ok (.iaload, 1) := by decide +kernel
theorem dX6_hasSpring_6 : decode cX6_hasSpring 6 = .ok (.iload_n 1, 1) := by decide +kernel
theorem dX6_hasSpring_7 : decode cX6_hasSpring 7 = .ok (.ishr, 1) := by decide +kernel
theorem dX6_hasSpring_8 : decode cX6_hasSpring 8 = .ok (.iconst 1, 1) := by decide +kernel
theorem dX6_hasSpring_9 : decode cX6_hasSpring 9 = .ok (.iand, 1) := by decide +kernel
theorem dX6_hasSpring_10 : decode cX6_hasSpring 10 = .ok (.iconst 1, 1) := by decide +kernel
theorem dX6_hasSpring_11 : decode cX6_hasSpring 11 = .ok (.if_icmp .ne 7, 3) := by decide +kernel
theorem dX6_hasSpring_14 : decode cX6_hasSpring 14 = .ok (.iconst 1, 1) := by decide +kernel
theorem dX6_hasSpring_15 : decode cX6_hasSpring 15 = .ok (.goto 4, 3) := by decide +kernel
theorem dX6_hasSpring_18 : decode cX6_hasSpring 18 = .ok (.iconst 0, 1) := by decide +kernel
theorem dX6_hasSpring_19 : decode cX6_hasSpring 19 = .ok (.ireturn, 1) := by decide +kernel
theorem dX6_spring_0 : decode cX6_spring 0 = .ok (.iload_n 1, 1) := by decide +kernel
theorem dX6_spring_1 : decode cX6_spring 1 = .ok (.invokestatic 83, 3) := by decide +kernel
theorem dX6_spring_4 : decode cX6_spring 4 = .ok (.ifCond .eq 13, 3) := by decide +kernel
theorem dX6_spring_7 : decode cX6_spring 7 = .ok (.iload_n 2, 1) := by decide +kernel
theorem dX6_spring_8 : decode cX6_spring 8 = .ok (.i2l, 1) := by decide +kernel
theorem dX6_spring_9 : decode cX6_spring 9 = .ok (.lconst 0, 1) := by decide +kernel
theorem dX6_spring_10 : decode cX6_spring 10 = .ok (.lconst 1, 1) := by decide +kernel
theorem dX6_spring_11 : decode cX6_spring 11 = .ok (.invokestatic 48, 3) := by decide +kernel
theorem dX6_spring_14 : decode cX6_spring 14 = .ok (.ifCond .ne 9, 3) := by decide +kernel
theorem dX6_spring_17 : decode cX6_spring 17 = .ok (.aload_n 0, 1) := by decide +kernel
theorem dX6_spring_18 : decode cX6_spring 18 = .ok (.iconst 0, 1) := by decide +kernel
theorem dX6_spring_19 : decode cX6_spring 19 = .ok (.invokevirtual 93, 3) := by decide +kernel
theorem dX6_spring_22 : decode cX6_spring 22 = .ok (.ireturn, 1) := by decide +kernel
theorem dX6_spring_23 : decode cX6_spring 23 = .ok (.aload_n 0, 1) := by decide +kernel
theorem dX6_spring_24 : decode cX6_spring 24 = .ok (.iload_n 1, 1) := by decide +kernel
theorem dX6_spring_25 : decode cX6_spring 25 = .ok (.invokevirtual 96, 3) := by decide +kernel
theorem dX6_spring_28 : decode cX6_spring 28 = .ok (.ifCond .eq 7, 3) := by decide +kernel
theorem dX6_spring_31 : decode cX6_spring 31 = .ok (.iconst 1, 1) := by decide +kernel
theorem dX6_spring_32 : decode cX6_spring 32 = .ok (.goto 4, 3) := by decide +kernel
theorem dX6_spring_35 : decode cX6_spring 35 = .ok (.iconst 0, 1) := by decide +kernel
theorem dX6_spring_36 : decode cX6_spring 36 = .ok (.istore_n 3, 1) := by decide +kernel
theorem dX6_spring_37 : decode cX6_spring 37 = .ok (.aload_n 0, 1) := by decide +kernel
theorem dX6_spring_38 : decode cX6_spring 38 = .ok (.iload_n 1, 1) := by decide +kernel
theorem dX6_spring_39 : decode cX6_spring 39 = .ok (.iload_n 2, 1) := by decide +kernel
theorem dX6_spring_40 : decode cX6_spring 40 = .ok (.invokevirtual 99, 3) := by decide +kernel
theorem dX6_spring_43 : decode cX6_spring 43 = .ok (.iload_n 3, 1) := by decide +kernel
theorem dX6_spring_44 : decode cX6_spring 44 = .ok (.ireturn, 1) := by decide +kernel
theorem dX6_covers_0 : decode cX6_covers 0 = .ok (.iconst 0, 1) := by decide +kernel
theorem dX6_covers_1 : decode cX6_covers 1 = .ok (.istore_n 3, 1) := by decide +kernel
theorem dX6_covers_2 : decode cX6_covers 2 = .ok (.iconst 0, 1) := by decide +kernel
theorem dX6_covers_3 : decode cX6_covers 3 = .ok (.istore 4, 2) := by decide +kernel
theorem dX6_covers_5 : decode cX6_covers 5 = .ok (.iload 4, 2) := by decide +kernel
theorem dX6_covers_7 : decode cX6_covers 7 = .ok (.iconst 4, 1) := by decide +kernel
theorem dX6_covers_8 : decode cX6_covers 8 = .ok (.if_icmp .ge 33, 3) := by decide +kernel
theorem dX6_covers_11 : decode cX6_covers 11 = .ok (.iload_n 1, 1) := by decide +kernel
theorem dX6_covers_12 : decode cX6_covers 12 = .ok (.ifCond .lt 29, 3) := by decide +kernel
theorem dX6_covers_15 : decode cX6_covers 15 = .ok (.iload_n 3, 1) := by decide +kernel
theorem dX6_covers_16 : decode cX6_covers 16 = .ok (.ifCond .ne 13, 3) := by decide +kernel
theorem dX6_covers_19 : decode cX6_covers 19 = .ok (.iload_n 1, 1) := by decide +kernel
theorem dX6_covers_20 : decode cX6_covers 20 = .ok (.iload 4, 2) := by decide +kernel
theorem dX6_covers_22 : decode cX6_covers 22 = .ok (.invokestatic 103, 3) := by decide +kernel
theorem dX6_covers_25 : decode cX6_covers 25 = .ok (.iload_n 2, 1) := by decide +kernel
theorem dX6_covers_26 : decode cX6_covers 26 = .ok (.if_icmp .ne 7, 3) := by decide +kernel
theorem dX6_covers_29 : decode cX6_covers 29 = .ok (.iconst 1, 1) := by decide +kernel
theorem dX6_covers_30 : decode cX6_covers 30 = .ok (.goto 4, 3) := by decide +kernel
theorem dX6_covers_33 : decode cX6_covers 33 = .ok (.iconst 0, 1) := by decide +kernel
theorem dX6_covers_34 : decode cX6_covers 34 = .ok (.istore_n 3, 1) := by decide +kernel
theorem dX6_covers_35 : decode cX6_covers 35 = .ok (.iinc 4 1, 3) := by decide +kernel
theorem dX6_covers_38 : decode cX6_covers 38 = .ok (.goto (-33), 3) := by decide +kernel
theorem dX6_covers_41 : decode cX6_covers 41 = .ok (.iload_n 3, 1) := by decide +kernel
theorem dX6_covers_42 : decode cX6_covers 42 = .ok (.ireturn, 1) := by decide +kernel
theorem dX6_tentsOn_0 : decode cX6_tentsOn 0 = .ok (.iconst 0, 1) := by decide +kernel
theorem dX6_tentsOn_1 : decode cX6_tentsOn 1 = .ok (.istore_n 2, 1) := by decide +kernel
theorem dX6_tentsOn_2 : decode cX6_tentsOn 2 = .ok (.iconst 0, 1) := by decide +kernel
theorem dX6_tentsOn_3 : decode cX6_tentsOn 3 = .ok (.istore_n 3, 1) := by decide +kernel
theorem dX6_tentsOn_4 : decode cX6_tentsOn 4 = .ok (.iload_n 3, 1) := by decide +kernel
theorem dX6_tentsOn_5 : decode cX6_tentsOn 5 = .ok (.aload_n 0, 1) := by decide +kernel
theorem dX6_tentsOn_6 : decode cX6_tentsOn 6 = .ok (.getfield 9, 3) := by decide +kernel
theorem dX6_tentsOn_9 : decode cX6_tentsOn 9 = .ok (.iconst 2, 1) := by decide +kernel
theorem dX6_tentsOn_10 : decode cX6_tentsOn 10 = .ok (.iaload, 1) := by decide +kernel
theorem dX6_tentsOn_11 : decode cX6_tentsOn 11 = .ok (.if_icmp .ge 33, 3) := by decide +kernel
theorem dX6_tentsOn_14 : decode cX6_tentsOn 14 = .ok (.iload_n 2, 1) := by decide +kernel
theorem dX6_tentsOn_15 : decode cX6_tentsOn 15 = .ok (.aload_n 0, 1) := by decide +kernel
theorem dX6_tentsOn_16 : decode cX6_tentsOn 16 = .ok (.aload_n 0, 1) := by decide +kernel
theorem dX6_tentsOn_17 : decode cX6_tentsOn 17 = .ok (.iload_n 3, 1) := by decide +kernel
theorem dX6_tentsOn_18 : decode cX6_tentsOn 18 = .ok (.iconst 1, 1) := by decide +kernel
theorem dX6_tentsOn_19 : decode cX6_tentsOn 19 = .ok (.invokevirtual 76, 3) := by decide +kernel
theorem dX6_tentsOn_22 : decode cX6_tentsOn 22 = .ok (.iload_n 1, 1) := by decide +kernel
theorem dX6_tentsOn_23 : decode cX6_tentsOn 23 = .ok (.invokevirtual 106, 3) := by decide +kernel
theorem dX6_tentsOn_26 : decode cX6_tentsOn 26 = .ok (.ifCond .eq 9, 3) := by decide +kernel
theorem dX6_tentsOn_29 : decode cX6_tentsOn 29 = .ok (.iconst 1, 1) := by decide +kernel
theorem dX6_tentsOn_30 : decode cX6_tentsOn 30 = .ok (.iload_n 3, 1) := by decide +kernel
theorem dX6_tentsOn_31 : decode cX6_tentsOn 31 = .ok (.ishl, 1) := by decide +kernel
theorem dX6_tentsOn_32 : decode cX6_tentsOn 32 = .ok (.goto 4, 3) := by decide +kernel
theorem dX6_tentsOn_35 : decode cX6_tentsOn 35 = .ok (.iconst 0, 1) := by decide +kernel
theorem dX6_tentsOn_36 : decode cX6_tentsOn 36 = .ok (.ior, 1) := by decide +kernel
theorem dX6_tentsOn_37 : decode cX6_tentsOn 37 = .ok (.istore_n 2, 1) := by decide +kernel
theorem dX6_tentsOn_38 : decode cX6_tentsOn 38 = .ok (.iinc 3 1, 3) := by decide +kernel
theorem dX6_tentsOn_41 : decode cX6_tentsOn 41 = .ok (.goto (-37), 3) := by decide +kernel
theorem dX6_tentsOn_44 : decode cX6_tentsOn 44 = .ok (.iload_n 2, 1) := by decide +kernel
theorem dX6_tentsOn_45 : decode cX6_tentsOn 45 = .ok (.ireturn, 1) := by decide +kernel
theorem dX6_steepest_0 : decode cX6_steepest 0 = .ok (.iconst 0, 1) := by decide +kernel
theorem dX6_steepest_1 : decode cX6_steepest 1 = .ok (.istore_n 2, 1) := by decide +kernel
theorem dX6_steepest_2 : decode cX6_steepest 2 = .ok (.iconst 0, 1) := by decide +kernel
theorem dX6_steepest_3 : decode cX6_steepest 3 = .ok (.istore_n 3, 1) := by decide +kernel
theorem dX6_steepest_4 : decode cX6_steepest 4 = .ok (.iload_n 3, 1) := by decide +kernel
theorem dX6_steepest_5 : decode cX6_steepest 5 = .ok (.bipush 25, 2) := by decide +kernel
theorem dX6_steepest_7 : decode cX6_steepest 7 = .ok (.if_icmp .ge 46, 3) := by decide +kernel
theorem dX6_steepest_10 : decode cX6_steepest 10 = .ok (.iload_n 3, 1) := by decide +kernel
theorem dX6_steepest_11 : decode cX6_steepest 11 = .ok (.iload_n 1, 1) := by decide +kernel
theorem dX6_steepest_12 : decode cX6_steepest 12 = .ok (.invokestatic 110, 3) := by decide +kernel
theorem dX6_steepest_15 : decode cX6_steepest 15 = .ok (.ifCond .eq 30, 3) := by decide +kernel
theorem dX6_steepest_18 : decode cX6_steepest 18 = .ok (.iload_n 2, 1) := by decide +kernel
theorem dX6_steepest_19 : decode cX6_steepest 19 = .ok (.aload_n 0, 1) := by decide +kernel
theorem dX6_steepest_20 : decode cX6_steepest 20 = .ok (.getfield 9, 3) := by decide +kernel
theorem dX6_steepest_23 : decode cX6_steepest 23 = .ok (.iconst 4, 1) := by decide +kernel
theorem dX6_steepest_24 : decode cX6_steepest 24 = .ok (.iload_n 3, 1) := by decide +kernel
theorem dX6_steepest_25 : decode cX6_steepest 25 = .ok (.iadd, 1) := by decide +kernel
theorem dX6_steepest_26 : decode cX6_steepest 26 = .ok (.iaload, 1) := by decide +kernel
theorem dX6_steepest_27 : decode cX6_steepest 27 = .ok (.aload_n 0, 1) := by decide +kernel
theorem dX6_steepest_28 : decode cX6_steepest 28 = .ok (.getfield 9, 3) := by decide +kernel
theorem dX6_steepest_31 : decode cX6_steepest 31 = .ok (.iconst 4, 1) := by decide +kernel
theorem dX6_steepest_32 : decode cX6_steepest 32 = .ok (.iload_n 1, 1) := by decide +kernel
theorem dX6_steepest_33 : decode cX6_steepest 33 = .ok (.iadd, 1) := by decide +kernel
theorem dX6_steepest_34 : decode cX6_steepest 34 = .ok (.iaload, 1) := by decide +kernel
theorem dX6_steepest_35 : decode cX6_steepest 35 = .ok (.isub, 1) := by decide +kernel
theorem dX6_steepest_36 : decode cX6_steepest 36 = .ok (.invokestatic 67, 3) := by decide +kernel
theorem dX6_steepest_39 : decode cX6_steepest 39 = .ok (.invokestatic 64, 3) := by decide +kernel
theorem dX6_steepest_42 : decode cX6_steepest 42 = .ok (.goto 4, 3) := by decide +kernel
theorem dX6_steepest_45 : decode cX6_steepest 45 = .ok (.iload_n 2, 1) := by decide +kernel
theorem dX6_steepest_46 : decode cX6_steepest 46 = .ok (.istore_n 2, 1) := by decide +kernel
theorem dX6_steepest_47 : decode cX6_steepest 47 = .ok (.iinc 3 1, 3) := by decide +kernel
theorem dX6_steepest_50 : decode cX6_steepest 50 = .ok (.goto (-46), 3) := by decide +kernel
theorem dX6_steepest_53 : decode cX6_steepest 53 = .ok (.iload_n 2, 1) := by decide +kernel
theorem dX6_steepest_54 : decode cX6_steepest 54 = .ok (.ireturn, 1) := by decide +kernel
theorem dX6_cell_0 : decode cX6_cell 0 = .ok (.iload_n 1, 1) := by decide +kernel
theorem dX6_cell_1 : decode cX6_cell 1 = .ok (.invokestatic 83, 3) := by decide +kernel
theorem dX6_cell_4 : decode cX6_cell 4 = .ok (.ifCond .eq 15, 3) := by decide +kernel
theorem dX6_cell_7 : decode cX6_cell 7 = .ok (.iload_n 2, 1) := by decide +kernel
theorem dX6_cell_8 : decode cX6_cell 8 = .ok (.i2l, 1) := by decide +kernel
theorem dX6_cell_9 : decode cX6_cell 9 = .ok (.lconst 0, 1) := by decide +kernel
theorem dX6_cell_10 : decode cX6_cell 10 = .ok (.ldc2_w 113, 3) := by decide +kernel
theorem dX6_cell_13 : decode cX6_cell 13 = .ok (.invokestatic 48, 3) := by decide +kernel
theorem dX6_cell_16 : decode cX6_cell 16 = .ok (.ifCond .ne 9, 3) := by decide +kernel
theorem dX6_cell_19 : decode cX6_cell 19 = .ok (.aload_n 0, 1) := by decide +kernel
theorem dX6_cell_20 : decode cX6_cell 20 = .ok (.iconst 0, 1) := by decide +kernel
theorem dX6_cell_21 : decode cX6_cell 21 = .ok (.invokevirtual 93, 3) := by decide +kernel
theorem dX6_cell_24 : decode cX6_cell 24 = .ok (.ireturn, 1) := by decide +kernel
theorem dX6_cell_25 : decode cX6_cell 25 = .ok (.iload_n 2, 1) := by decide +kernel
theorem dX6_cell_26 : decode cX6_cell 26 = .ok (.tableswitch 55 0 2 #[26, 35, 49], 26) := by decide +kernel
theorem dX6_cell_52 : decode cX6_cell 52 = .ok (.aload_n 0, 1) := by decide +kernel
theorem dX6_cell_53 : decode cX6_cell 53 = .ok (.getfield 9, 3) := by decide +kernel
theorem dX6_cell_56 : decode cX6_cell 56 = .ok (.iconst 4, 1) := by decide +kernel
theorem dX6_cell_57 : decode cX6_cell 57 = .ok (.iload_n 1, 1) := by decide +kernel
theorem dX6_cell_58 : decode cX6_cell 58 = .ok (.iadd, 1) := by decide +kernel
theorem dX6_cell_59 : decode cX6_cell 59 = .ok (.iaload, 1) := by decide +kernel
theorem dX6_cell_60 : decode cX6_cell 60 = .ok (.ireturn, 1) := by decide +kernel
theorem dX6_cell_61 : decode cX6_cell 61 = .ok (.aload_n 0, 1) := by decide +kernel
theorem dX6_cell_62 : decode cX6_cell 62 = .ok (.iload_n 1, 1) := by decide +kernel
theorem dX6_cell_63 : decode cX6_cell 63 = .ok (.invokevirtual 96, 3) := by decide +kernel
theorem dX6_cell_66 : decode cX6_cell 66 = .ok (.ifCond .eq 7, 3) := by decide +kernel
theorem dX6_cell_69 : decode cX6_cell 69 = .ok (.iconst 1, 1) := by decide +kernel
theorem dX6_cell_70 : decode cX6_cell 70 = .ok (.goto 4, 3) := by decide +kernel
theorem dX6_cell_73 : decode cX6_cell 73 = .ok (.iconst 0, 1) := by decide +kernel
theorem dX6_cell_74 : decode cX6_cell 74 = .ok (.ireturn, 1) := by decide +kernel
theorem dX6_cell_75 : decode cX6_cell 75 = .ok (.aload_n 0, 1) := by decide +kernel
theorem dX6_cell_76 : decode cX6_cell 76 = .ok (.iload_n 1, 1) := by decide +kernel
theorem dX6_cell_77 : decode cX6_cell 77 = .ok (.invokevirtual 115, 3) := by decide +kernel
theorem dX6_cell_80 : decode cX6_cell 80 = .ok (.ireturn, 1) := by decide +kernel
theorem dX6_cell_81 : decode cX6_cell 81 = .ok (.aload_n 0, 1) := by decide +kernel
theorem dX6_cell_82 : decode cX6_cell 82 = .ok (.iload_n 1, 1) := by decide +kernel
theorem dX6_cell_83 : decode cX6_cell 83 = .ok (.invokevirtual 118, 3) := by decide +kernel
theorem dX6_cell_86 : decode cX6_cell 86 = .ok (.ireturn, 1) := by decide +kernel
theorem dX6_tent_0 : decode cX6_tent 0 = .ok (.iload_n 1, 1) := by decide +kernel
theorem dX6_tent_1 : decode cX6_tent 1 = .ok (.invokestatic 121, 3) := by decide +kernel
theorem dX6_tent_4 : decode cX6_tent 4 = .ok (.ifCond .ne 9, 3) := by decide +kernel
theorem dX6_tent_7 : decode cX6_tent 7 = .ok (.aload_n 0, 1) := by decide +kernel
theorem dX6_tent_8 : decode cX6_tent 8 = .ok (.iconst 0, 1) := by decide +kernel
theorem dX6_tent_9 : decode cX6_tent 9 = .ok (.invokevirtual 93, 3) := by decide +kernel
theorem dX6_tent_12 : decode cX6_tent 12 = .ok (.ireturn, 1) := by decide +kernel
theorem dX6_tent_13 : decode cX6_tent 13 = .ok (.aload_n 0, 1) := by decide +kernel
theorem dX6_tent_14 : decode cX6_tent 14 = .ok (.getfield 9, 3) := by decide +kernel
theorem dX6_tent_17 : decode cX6_tent 17 = .ok (.iconst 2, 1) := by decide +kernel
theorem dX6_tent_18 : decode cX6_tent 18 = .ok (.iaload, 1) := by decide +kernel
theorem dX6_tent_19 : decode cX6_tent 19 = .ok (.bipush 6, 2) := by decide +kernel
theorem dX6_tent_21 : decode cX6_tent 21 = .ok (.if_icmp .ne 11, 3) := by decide +kernel
theorem dX6_tent_24 : decode cX6_tent 24 = .ok (.aload_n 0, 1) := by decide +kernel
theorem dX6_tent_25 : decode cX6_tent 25 = .ok (.iconst 1, 1) := by decide +kernel
theorem dX6_tent_26 : decode cX6_tent 26 = .ok (.invokevirtual 93, 3) := by decide +kernel
theorem dX6_tent_29 : decode cX6_tent 29 = .ok (.goto 8, 3) := by decide +kernel
theorem dX6_tent_32 : decode cX6_tent 32 = .ok (.aload_n 0, 1) := by decide +kernel
theorem dX6_tent_33 : decode cX6_tent 33 = .ok (.iload_n 1, 1) := by decide +kernel
theorem dX6_tent_34 : decode cX6_tent 34 = .ok (.invokevirtual 124, 3) := by decide +kernel
theorem dX6_tent_37 : decode cX6_tent 37 = .ok (.ireturn, 1) := by decide +kernel
theorem dX6_of_0 : decode cX6_of 0 = .ok (.aload_n 0, 1) := by decide +kernel
theorem dX6_of_1 : decode cX6_of 1 = .ok (.iload_n 1, 1) := by decide +kernel
theorem dX6_of_2 : decode cX6_of 2 = .ok (.invokevirtual 127, 3) := by decide +kernel
theorem dX6_of_5 : decode cX6_of 5 = .ok (.ifCond .eq 15, 3) := by decide +kernel
theorem dX6_of_8 : decode cX6_of 8 = .ok (.iload_n 2, 1) := by decide +kernel
theorem dX6_of_9 : decode cX6_of 9 = .ok (.i2l, 1) := by decide +kernel
theorem dX6_of_10 : decode cX6_of 10 = .ok (.lconst 0, 1) := by decide +kernel
theorem dX6_of_11 : decode cX6_of 11 = .ok (.ldc2_w 130, 3) := by decide +kernel
theorem dX6_of_14 : decode cX6_of 14 = .ok (.invokestatic 48, 3) := by decide +kernel
theorem dX6_of_17 : decode cX6_of 17 = .ok (.ifCond .ne 9, 3) := by decide +kernel
theorem dX6_of_20 : decode cX6_of 20 = .ok (.aload_n 0, 1) := by decide +kernel
theorem dX6_of_21 : decode cX6_of 21 = .ok (.iconst 0, 1) := by decide +kernel
theorem dX6_of_22 : decode cX6_of 22 = .ok (.invokevirtual 93, 3) := by decide +kernel
theorem dX6_of_25 : decode cX6_of 25 = .ok (.ireturn, 1) := by decide +kernel
theorem dX6_of_26 : decode cX6_of 26 = .ok (.iload_n 2, 1) := by decide +kernel
theorem dX6_of_27 : decode cX6_of 27 = .ok (.iconst 3, 1) := by decide +kernel
theorem dX6_of_28 : decode cX6_of 28 = .ok (.if_icmp .ne 11, 3) := by decide +kernel
theorem dX6_of_31 : decode cX6_of 31 = .ok (.aload_n 0, 1) := by decide +kernel
theorem dX6_of_32 : decode cX6_of 32 = .ok (.iload_n 1, 1) := by decide +kernel
theorem dX6_of_33 : decode cX6_of 33 = .ok (.invokevirtual 132, 3) := by decide +kernel
theorem dX6_of_36 : decode cX6_of 36 = .ok (.goto 9, 3) := by decide +kernel
theorem dX6_of_39 : decode cX6_of 39 = .ok (.aload_n 0, 1) := by decide +kernel
theorem dX6_of_40 : decode cX6_of 40 = .ok (.iload_n 1, 1) := by decide +kernel
theorem dX6_of_41 : decode cX6_of 41 = .ok (.iload_n 2, 1) := by decide +kernel
theorem dX6_of_42 : decode cX6_of 42 = .ok (.invokevirtual 76, 3) := by decide +kernel
theorem dX6_of_45 : decode cX6_of 45 = .ok (.ireturn, 1) := by decide +kernel
theorem dX6_mayBe_0 : decode cX6_mayBe 0 = .ok (.iload_n 0, 1) := by decide +kernel
theorem dX6_mayBe_1 : decode cX6_mayBe 1 = .ok (.tableswitch 49 0 2 #[27, 32, 44], 27) := by decide +kernel
theorem dX6_mayBe_28 : decode cX6_mayBe 28 = .ok (.iload_n 1, 1) := by decide +kernel
theorem dX6_mayBe_29 : decode cX6_mayBe 29 = .ok (.invokestatic 121, 3) := by decide +kernel
theorem dX6_mayBe_32 : decode cX6_mayBe 32 = .ok (.ireturn, 1) := by decide +kernel
theorem dX6_mayBe_33 : decode cX6_mayBe 33 = .ok (.iload_n 1, 1) := by decide +kernel
theorem dX6_mayBe_34 : decode cX6_mayBe 34 = .ok (.i2l, 1) := by decide +kernel
theorem dX6_mayBe_35 : decode cX6_mayBe 35 = .ok (.ldc2_w 135, 3) := by decide +kernel
theorem dX6_mayBe_38 : decode cX6_mayBe 38 = .ok (.ldc2_w 54, 3) := by decide +kernel
theorem dX6_mayBe_41 : decode cX6_mayBe 41 = .ok (.invokestatic 48, 3) := by decide +kernel
theorem dX6_mayBe_44 : decode cX6_mayBe 44 = .ok (.ireturn, 1) := by decide +kernel
theorem dX6_mayBe_45 : decode cX6_mayBe 45 = .ok (.iload_n 1, 1) := by decide +kernel
theorem dX6_mayBe_46 : decode cX6_mayBe 46 = .ok (.invokestatic 87, 3) := by decide +kernel
theorem dX6_mayBe_49 : decode cX6_mayBe 49 = .ok (.ireturn, 1) := by decide +kernel
theorem dX6_mayBe_50 : decode cX6_mayBe 50 = .ok (.iload_n 0, 1) := by decide +kernel
theorem dX6_mayBe_51 : decode cX6_mayBe 51 = .ok (.i2l, 1) := by decide +kernel
theorem dX6_mayBe_52 : decode cX6_mayBe 52 = .ok (.ldc2_w 137, 3) := by decide +kernel
theorem dX6_mayBe_55 : decode cX6_mayBe 55 = .ok (.ldc2_w 130, 3) := by decide +kernel
theorem dX6_mayBe_58 : decode cX6_mayBe 58 = .ok (.invokestatic 48, 3) := by decide +kernel
theorem dX6_mayBe_61 : decode cX6_mayBe 61 = .ok (.ifCond .eq 21, 3) := by decide +kernel
theorem dX6_mayBe_64 : decode cX6_mayBe 64 = .ok (.iload_n 1, 1) := by decide +kernel
theorem dX6_mayBe_65 : decode cX6_mayBe 65 = .ok (.i2l, 1) := by decide +kernel
theorem dX6_mayBe_66 : decode cX6_mayBe 66 = .ok (.ldc2_w 135, 3) := by decide +kernel
theorem dX6_mayBe_69 : decode cX6_mayBe 69 = .ok (.ldc2_w 56, 3) := by decide +kernel
theorem dX6_mayBe_72 : decode cX6_mayBe 72 = .ok (.invokestatic 48, 3) := by decide +kernel
theorem dX6_mayBe_75 : decode cX6_mayBe 75 = .ok (.ifCond .eq 7, 3) := by decide +kernel
theorem dX6_mayBe_78 : decode cX6_mayBe 78 = .ok (.iconst 1, 1) := by decide +kernel
theorem dX6_mayBe_79 : decode cX6_mayBe 79 = .ok (.goto 4, 3) := by decide +kernel
theorem dX6_mayBe_82 : decode cX6_mayBe 82 = .ok (.iconst 0, 1) := by decide +kernel
theorem dX6_mayBe_83 : decode cX6_mayBe 83 = .ok (.ireturn, 1) := by decide +kernel
theorem dX6_change_0 : decode cX6_change 0 = .ok (.aload_n 0, 1) := by decide +kernel
theorem dX6_change_1 : decode cX6_change 1 = .ok (.iload_n 1, 1) := by decide +kernel
theorem dX6_change_2 : decode cX6_change 2 = .ok (.invokevirtual 127, 3) := by decide +kernel
theorem dX6_change_5 : decode cX6_change 5 = .ok (.ifCond .eq 28, 3) := by decide +kernel
theorem dX6_change_8 : decode cX6_change 8 = .ok (.iload_n 2, 1) := by decide +kernel
theorem dX6_change_9 : decode cX6_change 9 = .ok (.iload_n 3, 1) := by decide +kernel
theorem dX6_change_10 : decode cX6_change 10 = .ok (.invokestatic 139, 3) := by decide +kernel
theorem dX6_change_13 : decode cX6_change 13 = .ok (.ifCond .eq 20, 3) := by decide +kernel
theorem dX6_change_16 : decode cX6_change 16 = .ok (.aload_n 0, 1) := by decide +kernel
theorem dX6_change_17 : decode cX6_change 17 = .ok (.bipush 29, 2) := by decide +kernel
theorem dX6_change_19 : decode cX6_change 19 = .ok (.bipush 8, 2) := by decide +kernel
theorem dX6_change_21 : decode cX6_change 21 = .ok (.iload_n 1, 1) := by decide +kernel
theorem dX6_change_22 : decode cX6_change 22 = .ok (.imul, 1) := by decide +kernel
theorem dX6_change_23 : decode cX6_change 23 = .ok (.iadd, 1) := by decide +kernel
theorem dX6_change_24 : decode cX6_change 24 = .ok (.iload_n 2, 1) := by decide +kernel
theorem dX6_change_25 : decode cX6_change 25 = .ok (.iadd, 1) := by decide +kernel
theorem dX6_change_26 : decode cX6_change 26 = .ok (.iload_n 3, 1) := by decide +kernel
theorem dX6_change_27 : decode cX6_change 27 = .ok (.invokevirtual 90, 3) := by decide +kernel
theorem dX6_change_30 : decode cX6_change 30 = .ok (.goto 8, 3) := by decide +kernel
theorem dX6_change_33 : decode cX6_change 33 = .ok (.aload_n 0, 1) := by decide +kernel
theorem dX6_change_34 : decode cX6_change 34 = .ok (.iconst 0, 1) := by decide +kernel
theorem dX6_change_35 : decode cX6_change 35 = .ok (.invokevirtual 93, 3) := by decide +kernel
theorem dX6_change_38 : decode cX6_change 38 = .ok (.ireturn, 1) := by decide +kernel
theorem dX6_beat_0 : decode cX6_beat 0 = .ok (.aload_n 0, 1) := by decide +kernel
theorem dX6_beat_1 : decode cX6_beat 1 = .ok (.iload_n 1, 1) := by decide +kernel
theorem dX6_beat_2 : decode cX6_beat 2 = .ok (.invokevirtual 127, 3) := by decide +kernel
theorem dX6_beat_5 : decode cX6_beat 5 = .ok (.ifCond .ne 9, 3) := by decide +kernel
theorem dX6_beat_8 : decode cX6_beat 8 = .ok (.aload_n 0, 1) := by decide +kernel
theorem dX6_beat_9 : decode cX6_beat 9 = .ok (.iconst 0, 1) := by decide +kernel
theorem dX6_beat_10 : decode cX6_beat 10 = .ok (.invokevirtual 93, 3) := by decide +kernel
theorem dX6_beat_13 : decode cX6_beat 13 = .ok (.ireturn, 1) := by decide +kernel
theorem dX6_beat_14 : decode cX6_beat 14 = .ok (.iconst 0, 1) := by decide +kernel
theorem dX6_beat_15 : decode cX6_beat 15 = .ok (.istore_n 2, 1) := by decide +kernel
theorem dX6_beat_16 : decode cX6_beat 16 = .ok (.iconst 0, 1) := by decide +kernel
theorem dX6_beat_17 : decode cX6_beat 17 = .ok (.istore_n 3, 1) := by decide +kernel
theorem dX6_beat_18 : decode cX6_beat 18 = .ok (.iload_n 3, 1) := by decide +kernel
theorem dX6_beat_19 : decode cX6_beat 19 = .ok (.iconst 4, 1) := by decide +kernel
theorem dX6_beat_20 : decode cX6_beat 20 = .ok (.if_icmp .ge 37, 3) := by decide +kernel
theorem dX6_beat_23 : decode cX6_beat 23 = .ok (.iload_n 2, 1) := by decide +kernel
theorem dX6_beat_24 : decode cX6_beat 24 = .ok (.aload_n 0, 1) := by decide +kernel
theorem dX6_beat_25 : decode cX6_beat 25 = .ok (.iload_n 1, 1) := by decide +kernel
theorem dX6_beat_26 : decode cX6_beat 26 = .ok (.iconst 4, 1) := by decide +kernel
theorem dX6_beat_27 : decode cX6_beat 27 = .ok (.iload_n 3, 1) := by decide +kernel
theorem dX6_beat_28 : decode cX6_beat 28 = .ok (.iadd, 1) := by decide +kernel
theorem dX6_beat_29 : decode cX6_beat 29 = .ok (.invokevirtual 76, 3) := by decide +kernel
theorem dX6_beat_32 : decode cX6_beat 32 = .ok (.ifCond .lt 7, 3) := by decide +kernel
theorem dX6_beat_35 : decode cX6_beat 35 = .ok (.iconst 1, 1) := by decide +kernel
theorem dX6_beat_36 : decode cX6_beat 36 = .ok (.goto 4, 3) := by decide +kernel
theorem dX6_beat_39 : decode cX6_beat 39 = .ok (.iconst 0, 1) := by decide +kernel
theorem dX6_beat_40 : decode cX6_beat 40 = .ok (.iadd, 1) := by decide +kernel
theorem dX6_beat_41 : decode cX6_beat 41 = .ok (.istore_n 2, 1) := by decide +kernel
theorem dX6_beat_42 : decode cX6_beat 42 = .ok (.aload_n 0, 1) := by decide +kernel
theorem dX6_beat_43 : decode cX6_beat 43 = .ok (.iload_n 1, 1) := by decide +kernel
theorem dX6_beat_44 : decode cX6_beat 44 = .ok (.iconst 4, 1) := by decide +kernel
theorem dX6_beat_45 : decode cX6_beat 45 = .ok (.iload_n 3, 1) := by decide +kernel
theorem dX6_beat_46 : decode cX6_beat 46 = .ok (.iadd, 1) := by decide +kernel
theorem dX6_beat_47 : decode cX6_beat 47 = .ok (.iconst (-1), 1) := by decide +kernel
theorem dX6_beat_48 : decode cX6_beat 48 = .ok (.invokevirtual 79, 3) := by decide +kernel
theorem dX6_beat_51 : decode cX6_beat 51 = .ok (.iinc 3 1, 3) := by decide +kernel
theorem dX6_beat_54 : decode cX6_beat 54 = .ok (.goto (-36), 3) := by decide +kernel
theorem dX6_beat_57 : decode cX6_beat 57 = .ok (.iload_n 2, 1) := by decide +kernel
theorem dX6_beat_58 : decode cX6_beat 58 = .ok (.ireturn, 1) := by decide +kernel
theorem dX6_pressesOn_0 : decode cX6_pressesOn 0 = .ok (.iconst 4, 1) := by decide +kernel
theorem dX6_pressesOn_1 : decode cX6_pressesOn 1 = .ok (.aload_n 0, 1) := by decide +kernel
theorem dX6_pressesOn_2 : decode cX6_pressesOn 2 = .ok (.iload_n 1, 1) := by decide +kernel
theorem dX6_pressesOn_3 : decode cX6_pressesOn 3 = .ok (.iconst 1, 1) := by decide +kernel
theorem dX6_pressesOn_4 : decode cX6_pressesOn 4 = .ok (.invokevirtual 76, 3) := by decide +kernel
theorem dX6_pressesOn_7 : decode cX6_pressesOn 7 = .ok (.iload_n 2, 1) := by decide +kernel
theorem dX6_pressesOn_8 : decode cX6_pressesOn 8 = .ok (.invokestatic 103, 3) := by decide +kernel
theorem dX6_pressesOn_11 : decode cX6_pressesOn 11 = .ok (.iadd, 1) := by decide +kernel
theorem dX6_pressesOn_12 : decode cX6_pressesOn 12 = .ok (.istore_n 3, 1) := by decide +kernel
theorem dX6_pressesOn_13 : decode cX6_pressesOn 13 = .ok (.aload_n 0, 1) := by decide +kernel
theorem dX6_pressesOn_14 : decode cX6_pressesOn 14 = .ok (.iload_n 1, 1) := by decide +kernel
theorem dX6_pressesOn_15 : decode cX6_pressesOn 15 = .ok (.iconst 4, 1) := by decide +kernel
theorem dX6_pressesOn_16 : decode cX6_pressesOn 16 = .ok (.iload_n 2, 1) := by decide +kernel
theorem dX6_pressesOn_17 : decode cX6_pressesOn 17 = .ok (.iadd, 1) := by decide +kernel
theorem dX6_pressesOn_18 : decode cX6_pressesOn 18 = .ok (.invokevirtual 76, 3) := by decide +kernel
theorem dX6_pressesOn_21 : decode cX6_pressesOn 21 = .ok (.istore 4, 2) := by decide +kernel
theorem dX6_pressesOn_23 : decode cX6_pressesOn 23 = .ok (.aload_n 0, 1) := by decide +kernel
theorem dX6_pressesOn_24 : decode cX6_pressesOn 24 = .ok (.getfield 9, 3) := by decide +kernel
theorem dX6_pressesOn_27 : decode cX6_pressesOn 27 = .ok (.iload_n 3, 1) := by decide +kernel
theorem dX6_pressesOn_28 : decode cX6_pressesOn 28 = .ok (.iaload, 1) := by decide +kernel
theorem dX6_pressesOn_29 : decode cX6_pressesOn 29 = .ok (.istore 5, 2) := by decide +kernel
theorem dX6_pressesOn_31 : decode cX6_pressesOn 31 = .ok (.iload 4, 2) := by decide +kernel
theorem dX6_pressesOn_33 : decode cX6_pressesOn 33 = .ok (.ifCond .lt 25, 3) := by decide +kernel
theorem dX6_pressesOn_36 : decode cX6_pressesOn 36 = .ok (.aload_n 0, 1) := by decide +kernel
theorem dX6_pressesOn_37 : decode cX6_pressesOn 37 = .ok (.getfield 9, 3) := by decide +kernel
theorem dX6_pressesOn_40 : decode cX6_pressesOn 40 = .ok (.iload_n 3, 1) := by decide +kernel
theorem dX6_pressesOn_41 : decode cX6_pressesOn 41 = .ok (.aload_n 0, 1) := by decide +kernel
theorem dX6_pressesOn_42 : decode cX6_pressesOn 42 = .ok (.iload_n 1, 1) := by decide +kernel
theorem dX6_pressesOn_43 : decode cX6_pressesOn 43 = .ok (.iconst 0, 1) := by decide +kernel
theorem dX6_pressesOn_44 : decode cX6_pressesOn 44 = .ok (.invokevirtual 76, 3) := by decide +kernel
theorem dX6_pressesOn_47 : decode cX6_pressesOn 47 = .ok (.iload 4, 2) := by decide +kernel
theorem dX6_pressesOn_49 : decode cX6_pressesOn 49 = .ok (.iload 5, 2) := by decide +kernel
theorem dX6_pressesOn_51 : decode cX6_pressesOn 51 = .ok (.invokestatic 142, 3) := by decide +kernel
theorem dX6_pressesOn_54 : decode cX6_pressesOn 54 = .ok (.invokestatic 146, 3) := by decide +kernel
theorem dX6_pressesOn_57 : decode cX6_pressesOn 57 = .ok (.iastore, 1) := by decide +kernel
theorem dX6_pressesOn_58 : decode cX6_pressesOn 58 = .ok (.aload_n 0, 1) := by decide +kernel
theorem dX6_pressesOn_59 : decode cX6_pressesOn 59 = .ok (.iload_n 1, 1) := by decide +kernel
theorem dX6_pressesOn_60 : decode cX6_pressesOn 60 = .ok (.iconst 4, 1) := by decide +kernel
theorem dX6_pressesOn_61 : decode cX6_pressesOn 61 = .ok (.iload_n 2, 1) := by decide +kernel
theorem dX6_pressesOn_62 : decode cX6_pressesOn 62 = .ok (.iadd, 1) := by decide +kernel
theorem dX6_pressesOn_63 : decode cX6_pressesOn 63 = .ok (.iload 4, 2) := by decide +kernel
theorem dX6_pressesOn_65 : decode cX6_pressesOn 65 = .ok (.ifCond .ge 8, 3) := by decide +kernel
theorem dX6_pressesOn_68 : decode cX6_pressesOn 68 = .ok (.iload 5, 2) := by decide +kernel
theorem dX6_pressesOn_70 : decode cX6_pressesOn 70 = .ok (.goto 25, 3) := by decide +kernel
theorem dX6_pressesOn_73 : decode cX6_pressesOn 73 = .ok (.aload_n 0, 1) := by decide +kernel
theorem dX6_pressesOn_74 : decode cX6_pressesOn 74 = .ok (.iload_n 1, 1) := by decide +kernel
theorem dX6_pressesOn_75 : decode cX6_pressesOn 75 = .ok (.iconst 0, 1) := by decide +kernel
theorem dX6_pressesOn_76 : decode cX6_pressesOn 76 = .ok (.invokevirtual 76, 3) := by decide +kernel
theorem dX6_pressesOn_79 : decode cX6_pressesOn 79 = .ok (.aload_n 0, 1) := by decide +kernel
theorem dX6_pressesOn_80 : decode cX6_pressesOn 80 = .ok (.iload_n 1, 1) := by decide +kernel
theorem dX6_pressesOn_81 : decode cX6_pressesOn 81 = .ok (.iconst 2, 1) := by decide +kernel
theorem dX6_pressesOn_82 : decode cX6_pressesOn 82 = .ok (.invokevirtual 76, 3) := by decide +kernel
theorem dX6_pressesOn_85 : decode cX6_pressesOn 85 = .ok (.iload 4, 2) := by decide +kernel
theorem dX6_pressesOn_87 : decode cX6_pressesOn 87 = .ok (.iload 5, 2) := by decide +kernel
theorem dX6_pressesOn_89 : decode cX6_pressesOn 89 = .ok (.invokestatic 149, 3) := by decide +kernel
theorem dX6_pressesOn_92 : decode cX6_pressesOn 92 = .ok (.invokestatic 146, 3) := by decide +kernel
theorem dX6_pressesOn_95 : decode cX6_pressesOn 95 = .ok (.invokevirtual 79, 3) := by decide +kernel
theorem dX6_pressesOn_98 : decode cX6_pressesOn 98 = .ok (.return_, 1) := by decide +kernel
theorem dX6_aDay_0 : decode cX6_aDay 0 = .ok (.iconst 0, 1) := by decide +kernel
theorem dX6_aDay_1 : decode cX6_aDay 1 = .ok (.istore_n 1, 1) := by decide +kernel
theorem dX6_aDay_2 : decode cX6_aDay 2 = .ok (.iload_n 1, 1) := by decide +kernel
theorem dX6_aDay_3 : decode cX6_aDay 3 = .ok (.aload_n 0, 1) := by decide +kernel
theorem dX6_aDay_4 : decode cX6_aDay 4 = .ok (.getfield 9, 3) := by decide +kernel
theorem dX6_aDay_7 : decode cX6_aDay 7 = .ok (.iconst 2, 1) := by decide +kernel
theorem dX6_aDay_8 : decode cX6_aDay 8 = .ok (.iaload, 1) := by decide +kernel
theorem dX6_aDay_9 : decode cX6_aDay 9 = .ok (.if_icmp .ge 60, 3) := by decide +kernel
theorem dX6_aDay_12 : decode cX6_aDay 12 = .ok (.aload_n 0, 1) := by decide +kernel
theorem dX6_aDay_13 : decode cX6_aDay 13 = .ok (.iload_n 1, 1) := by decide +kernel
theorem dX6_aDay_14 : decode cX6_aDay 14 = .ok (.iconst 1, 1) := by decide +kernel
theorem dX6_aDay_15 : decode cX6_aDay 15 = .ok (.invokevirtual 76, 3) := by decide +kernel
theorem dX6_aDay_18 : decode cX6_aDay 18 = .ok (.ifCond .lt 45, 3) := by decide +kernel
theorem dX6_aDay_21 : decode cX6_aDay 21 = .ok (.iconst 0, 1) := by decide +kernel
theorem dX6_aDay_22 : decode cX6_aDay 22 = .ok (.istore_n 2, 1) := by decide +kernel
theorem dX6_aDay_23 : decode cX6_aDay 23 = .ok (.iload_n 2, 1) := by decide +kernel
theorem dX6_aDay_24 : decode cX6_aDay 24 = .ok (.iconst 4, 1) := by decide +kernel
theorem dX6_aDay_25 : decode cX6_aDay 25 = .ok (.if_icmp .ge 15, 3) := by decide +kernel
theorem dX6_aDay_28 : decode cX6_aDay 28 = .ok (.aload_n 0, 1) := by decide +kernel
theorem dX6_aDay_29 : decode cX6_aDay 29 = .ok (.iload_n 1, 1) := by decide +kernel
theorem dX6_aDay_30 : decode cX6_aDay 30 = .ok (.iload_n 2, 1) := by decide +kernel
theorem dX6_aDay_31 : decode cX6_aDay 31 = .ok (.invokevirtual 153, 3) := by decide +kernel
theorem dX6_aDay_34 : decode cX6_aDay 34 = .ok (.iinc 2 1, 3) := by decide +kernel
theorem dX6_aDay_37 : decode cX6_aDay 37 = .ok (.goto (-14), 3) := by decide +kernel
theorem dX6_aDay_40 : decode cX6_aDay 40 = .ok (.aload_n 0, 1) := by decide +kernel
theorem dX6_aDay_41 : decode cX6_aDay 41 = .ok (.iload_n 1, 1) := by decide +kernel
theorem dX6_aDay_42 : decode cX6_aDay 42 = .ok (.iconst 2, 1) := by decide +kernel
theorem dX6_aDay_43 : decode cX6_aDay 43 = .ok (.bipush 99, 2) := by decide +kernel
theorem dX6_aDay_45 : decode cX6_aDay 45 = .ok (.aload_n 0, 1) := by decide +kernel
theorem dX6_aDay_46 : decode cX6_aDay 46 = .ok (.iload_n 1, 1) := by decide +kernel
theorem dX6_aDay_47 : decode cX6_aDay 47 = .ok (.iconst 2, 1) := by decide +kernel
theorem dX6_aDay_48 : decode cX6_aDay 48 = .ok (.invokevirtual 76, 3) := by decide +kernel
theorem dX6_aDay_51 : decode cX6_aDay 51 = .ok (.aload_n 0, 1) := by decide +kernel
theorem dX6_aDay_52 : decode cX6_aDay 52 = .ok (.iload_n 1, 1) := by decide +kernel
theorem dX6_aDay_53 : decode cX6_aDay 53 = .ok (.invokevirtual 132, 3) := by decide +kernel
theorem dX6_aDay_56 : decode cX6_aDay 56 = .ok (.iadd, 1) := by decide +kernel
theorem dX6_aDay_57 : decode cX6_aDay 57 = .ok (.invokestatic 58, 3) := by decide +kernel
theorem dX6_aDay_60 : decode cX6_aDay 60 = .ok (.invokevirtual 79, 3) := by decide +kernel
theorem dX6_aDay_63 : decode cX6_aDay 63 = .ok (.iinc 1 1, 3) := by decide +kernel
theorem dX6_aDay_66 : decode cX6_aDay 66 = .ok (.goto (-64), 3) := by decide +kernel
theorem dX6_aDay_69 : decode cX6_aDay 69 = .ok (.aload_n 0, 1) := by decide +kernel
theorem dX6_aDay_70 : decode cX6_aDay 70 = .ok (.getfield 9, 3) := by decide +kernel
theorem dX6_aDay_73 : decode cX6_aDay 73 = .ok (.iconst 0, 1) := by decide +kernel
theorem dX6_aDay_74 : decode cX6_aDay 74 = .ok (.dup2, 1) := by decide +kernel
theorem dX6_aDay_75 : decode cX6_aDay 75 = .ok (.iaload, 1) := by decide +kernel
theorem dX6_aDay_76 : decode cX6_aDay 76 = .ok (.iconst 1, 1) := by decide +kernel
theorem dX6_aDay_77 : decode cX6_aDay 77 = .ok (.iadd, 1) := by decide +kernel
theorem dX6_aDay_78 : decode cX6_aDay 78 = .ok (.iastore, 1) := by decide +kernel
theorem dX6_aDay_79 : decode cX6_aDay 79 = .ok (.return_, 1) := by decide +kernel
theorem dX6_days_0 : decode cX6_days 0 = .ok (.iconst 0, 1) := by decide +kernel
theorem dX6_days_1 : decode cX6_days 1 = .ok (.istore_n 2, 1) := by decide +kernel
theorem dX6_days_2 : decode cX6_days 2 = .ok (.iload_n 2, 1) := by decide +kernel
theorem dX6_days_3 : decode cX6_days 3 = .ok (.iload_n 1, 1) := by decide +kernel
theorem dX6_days_4 : decode cX6_days 4 = .ok (.if_icmp .ge 13, 3) := by decide +kernel
theorem dX6_days_7 : decode cX6_days 7 = .ok (.aload_n 0, 1) := by decide +kernel
theorem dX6_days_8 : decode cX6_days 8 = .ok (.invokevirtual 156, 3) := by decide +kernel
theorem dX6_days_11 : decode cX6_days 11 = .ok (.iinc 2 1, 3) := by decide +kernel
theorem dX6_days_14 : decode cX6_days 14 = .ok (.goto (-12), 3) := by decide +kernel
theorem dX6_days_17 : decode cX6_days 17 = .ok (.return_, 1) := by decide +kernel
theorem dX6_heights_0 : decode cX6_heights 0 = .ok (.iconst 0, 1) := by decide +kernel
theorem dX6_heights_1 : decode cX6_heights 1 = .ok (.istore_n 1, 1) := by decide +kernel
theorem dX6_heights_2 : decode cX6_heights 2 = .ok (.iconst 0, 1) := by decide +kernel
theorem dX6_heights_3 : decode cX6_heights 3 = .ok (.istore_n 2, 1) := by decide +kernel
theorem dX6_heights_4 : decode cX6_heights 4 = .ok (.iload_n 2, 1) := by decide +kernel
theorem dX6_heights_5 : decode cX6_heights 5 = .ok (.bipush 25, 2) := by decide +kernel
theorem dX6_heights_7 : decode cX6_heights 7 = .ok (.if_icmp .ge 20, 3) := by decide +kernel
theorem dX6_heights_10 : decode cX6_heights 10 = .ok (.iload_n 1, 1) := by decide +kernel
theorem dX6_heights_11 : decode cX6_heights 11 = .ok (.aload_n 0, 1) := by decide +kernel
theorem dX6_heights_12 : decode cX6_heights 12 = .ok (.getfield 9, 3) := by decide +kernel
theorem dX6_heights_15 : decode cX6_heights 15 = .ok (.iconst 4, 1) := by decide +kernel
theorem dX6_heights_16 : decode cX6_heights 16 = .ok (.iload_n 2, 1) := by decide +kernel
theorem dX6_heights_17 : decode cX6_heights 17 = .ok (.iadd, 1) := by decide +kernel
theorem dX6_heights_18 : decode cX6_heights 18 = .ok (.iaload, 1) := by decide +kernel
theorem dX6_heights_19 : decode cX6_heights 19 = .ok (.iadd, 1) := by decide +kernel
theorem dX6_heights_20 : decode cX6_heights 20 = .ok (.istore_n 1, 1) := by decide +kernel
theorem dX6_heights_21 : decode cX6_heights 21 = .ok (.iinc 2 1, 3) := by decide +kernel
theorem dX6_heights_24 : decode cX6_heights 24 = .ok (.goto (-20), 3) := by decide +kernel
theorem dX6_heights_27 : decode cX6_heights 27 = .ok (.iload_n 1, 1) := by decide +kernel
theorem dX6_heights_28 : decode cX6_heights 28 = .ok (.ireturn, 1) := by decide +kernel
theorem dX6_go_0 : decode cX6_go 0 = .ok (.iload_n 1, 1) := by decide +kernel
theorem dX6_go_1 : decode cX6_go 1 = .ok (.i2l, 1) := by decide +kernel
theorem dX6_go_2 : decode cX6_go 2 = .ok (.lconst 1, 1) := by decide +kernel
theorem dX6_go_3 : decode cX6_go 3 = .ok (.ldc2_w 159, 3) := by decide +kernel
theorem dX6_go_6 : decode cX6_go 6 = .ok (.invokestatic 48, 3) := by decide +kernel
theorem dX6_go_9 : decode cX6_go 9 = .ok (.ifCond .ne 9, 3) := by decide +kernel
theorem dX6_go_12 : decode cX6_go 12 = .ok (.aload_n 0, 1) := by decide +kernel
theorem dX6_go_13 : decode cX6_go 13 = .ok (.iconst 0, 1) := by decide +kernel
theorem dX6_go_14 : decode cX6_go 14 = .ok (.invokevirtual 93, 3) := by decide +kernel
theorem dX6_go_17 : decode cX6_go 17 = .ok (.ireturn, 1) := by decide +kernel
theorem dX6_go_18 : decode cX6_go 18 = .ok (.aload_n 0, 1) := by decide +kernel
theorem dX6_go_19 : decode cX6_go 19 = .ok (.getfield 9, 3) := by decide +kernel
theorem dX6_go_22 : decode cX6_go 22 = .ok (.iconst 0, 1) := by decide +kernel
theorem dX6_go_23 : decode cX6_go 23 = .ok (.iaload, 1) := by decide +kernel
theorem dX6_go_24 : decode cX6_go 24 = .ok (.iload_n 1, 1) := by decide +kernel
theorem dX6_go_25 : decode cX6_go 25 = .ok (.iadd, 1) := by decide +kernel
theorem dX6_go_26 : decode cX6_go 26 = .ok (.ldc 161, 2) := by decide +kernel
theorem dX6_go_28 : decode cX6_go 28 = .ok (.if_icmp .le 9, 3) := by decide +kernel
theorem dX6_go_31 : decode cX6_go 31 = .ok (.aload_n 0, 1) := by decide +kernel
theorem dX6_go_32 : decode cX6_go 32 = .ok (.iconst 4, 1) := by decide +kernel
theorem dX6_go_33 : decode cX6_go 33 = .ok (.invokevirtual 93, 3) := by decide +kernel
theorem dX6_go_36 : decode cX6_go 36 = .ok (.ireturn, 1) := by decide +kernel
theorem dX6_go_37 : decode cX6_go 37 = .ok (.aload_n 0, 1) := by decide +kernel
theorem dX6_go_38 : decode cX6_go 38 = .ok (.iload_n 1, 1) := by decide +kernel
theorem dX6_go_39 : decode cX6_go 39 = .ok (.invokevirtual 162, 3) := by decide +kernel
theorem dX6_go_42 : decode cX6_go 42 = .ok (.aload_n 0, 1) := by decide +kernel
theorem dX6_go_43 : decode cX6_go 43 = .ok (.invokevirtual 166, 3) := by decide +kernel
theorem dX6_go_46 : decode cX6_go 46 = .ok (.ireturn, 1) := by decide +kernel
theorem dX6_ones_0 : decode cX6_ones 0 = .ok (.iconst 0, 1) := by decide +kernel
theorem dX6_ones_1 : decode cX6_ones 1 = .ok (.istore_n 1, 1) := by decide +kernel
theorem dX6_ones_2 : decode cX6_ones 2 = .ok (.iconst 0, 1) := by decide +kernel
theorem dX6_ones_3 : decode cX6_ones 3 = .ok (.istore_n 2, 1) := by decide +kernel
theorem dX6_ones_4 : decode cX6_ones 4 = .ok (.iload_n 2, 1) := by decide +kernel
theorem dX6_ones_5 : decode cX6_ones 5 = .ok (.bipush 6, 2) := by decide +kernel
theorem dX6_ones_7 : decode cX6_ones 7 = .ok (.if_icmp .ge 17, 3) := by decide +kernel
theorem dX6_ones_10 : decode cX6_ones 10 = .ok (.iload_n 1, 1) := by decide +kernel
theorem dX6_ones_11 : decode cX6_ones 11 = .ok (.iload_n 0, 1) := by decide +kernel
theorem dX6_ones_12 : decode cX6_ones 12 = .ok (.iload_n 2, 1) := by decide +kernel
theorem dX6_ones_13 : decode cX6_ones 13 = .ok (.ishr, 1) := by decide +kernel
theorem dX6_ones_14 : decode cX6_ones 14 = .ok (.iconst 1, 1) := by decide +kernel
theorem dX6_ones_15 : decode cX6_ones 15 = .ok (.iand, 1) := by decide +kernel
theorem dX6_ones_16 : decode cX6_ones 16 = .ok (.iadd, 1) := by decide +kernel
theorem dX6_ones_17 : decode cX6_ones 17 = .ok (.istore_n 1, 1) := by decide +kernel
theorem dX6_ones_18 : decode cX6_ones 18 = .ok (.iinc 2 1, 3) := by decide +kernel
theorem dX6_ones_21 : decode cX6_ones 21 = .ok (.goto (-17), 3) := by decide +kernel
theorem dX6_ones_24 : decode cX6_ones 24 = .ok (.iload_n 1, 1) := by decide +kernel
theorem dX6_ones_25 : decode cX6_ones 25 = .ok (.ireturn, 1) := by decide +kernel
theorem dX6_pitched_0 : decode cX6_pitched 0 = .ok (.iconst 0, 1) := by decide +kernel
theorem dX6_pitched_1 : decode cX6_pitched 1 = .ok (.istore_n 1, 1) := by decide +kernel
theorem dX6_pitched_2 : decode cX6_pitched 2 = .ok (.iconst 0, 1) := by decide +kernel
theorem dX6_pitched_3 : decode cX6_pitched 3 = .ok (.istore_n 2, 1) := by decide +kernel
theorem dX6_pitched_4 : decode cX6_pitched 4 = .ok (.iload_n 2, 1) := by decide +kernel
theorem dX6_pitched_5 : decode cX6_pitched 5 = .ok (.aload_n 0, 1) := by decide +kernel
theorem dX6_pitched_6 : decode cX6_pitched 6 = .ok (.getfield 9, 3) := by decide +kernel
theorem dX6_pitched_9 : decode cX6_pitched 9 = .ok (.iconst 2, 1) := by decide +kernel
theorem dX6_pitched_10 : decode cX6_pitched 10 = .ok (.iaload, 1) := by decide +kernel
theorem dX6_pitched_11 : decode cX6_pitched 11 = .ok (.if_icmp .ge 28, 3) := by decide +kernel
theorem dX6_pitched_14 : decode cX6_pitched 14 = .ok (.iload_n 1, 1) := by decide +kernel
theorem dX6_pitched_15 : decode cX6_pitched 15 = .ok (.aload_n 0, 1) := by decide +kernel
theorem dX6_pitched_16 : decode cX6_pitched 16 = .ok (.iload_n 2, 1) := by decide +kernel
theorem dX6_pitched_17 : decode cX6_pitched 17 = .ok (.iconst 1, 1) := by decide +kernel
theorem dX6_pitched_18 : decode cX6_pitched 18 = .ok (.invokevirtual 76, 3) := by decide +kernel
theorem dX6_pitched_21 : decode cX6_pitched 21 = .ok (.ifCond .lt 9, 3) := by decide +kernel
theorem dX6_pitched_24 : decode cX6_pitched 24 = .ok (.iconst 1, 1) := by decide +kernel
theorem dX6_pitched_25 : decode cX6_pitched 25 = .ok (.iload_n 2, 1) := by decide +kernel
theorem dX6_pitched_26 : decode cX6_pitched 26 = .ok (.ishl, 1) := by decide +kernel
theorem dX6_pitched_27 : decode cX6_pitched 27 = .ok (.goto 4, 3) := by decide +kernel
theorem dX6_pitched_30 : decode cX6_pitched 30 = .ok (.iconst 0, 1) := by decide +kernel
theorem dX6_pitched_31 : decode cX6_pitched 31 = .ok (.ior, 1) := by decide +kernel
theorem dX6_pitched_32 : decode cX6_pitched 32 = .ok (.istore_n 1, 1) := by decide +kernel
theorem dX6_pitched_33 : decode cX6_pitched 33 = .ok (.iinc 2 1, 3) := by decide +kernel
theorem dX6_pitched_36 : decode cX6_pitched 36 = .ok (.goto (-32), 3) := by decide +kernel
theorem dX6_pitched_39 : decode cX6_pitched 39 = .ok (.iload_n 1, 1) := by decide +kernel
theorem dX6_pitched_40 : decode cX6_pitched 40 = .ok (.ireturn, 1) := by decide +kernel
theorem dX6_allWorn_0 : decode cX6_allWorn 0 = .ok (.iconst 0, 1) := by decide +kernel
theorem dX6_allWorn_1 : decode cX6_allWorn 1 = .ok (.istore_n 1, 1) := by decide +kernel
theorem dX6_allWorn_2 : decode cX6_allWorn 2 = .ok (.iconst 0, 1) := by decide +kernel
theorem dX6_allWorn_3 : decode cX6_allWorn 3 = .ok (.istore_n 2, 1) := by decide +kernel
theorem dX6_allWorn_4 : decode cX6_allWorn 4 = .ok (.iload_n 2, 1) := by decide +kernel
theorem dX6_allWorn_5 : decode cX6_allWorn 5 = .ok (.aload_n 0, 1) := by decide +kernel
theorem dX6_allWorn_6 : decode cX6_allWorn 6 = .ok (.getfield 9, 3) := by decide +kernel
theorem dX6_allWorn_9 : decode cX6_allWorn 9 = .ok (.iconst 2, 1) := by decide +kernel
theorem dX6_allWorn_10 : decode cX6_allWorn 10 = .ok (.iaload, 1) := by decide +kernel
theorem dX6_allWorn_11 : decode cX6_allWorn 11 = .ok (.if_icmp .ge 18, 3) := by decide +kernel
theorem dX6_allWorn_14 : decode cX6_allWorn 14 = .ok (.iload_n 1, 1) := by decide +kernel
theorem dX6_allWorn_15 : decode cX6_allWorn 15 = .ok (.aload_n 0, 1) := by decide +kernel
theorem dX6_allWorn_16 : decode cX6_allWorn 16 = .ok (.iload_n 2, 1) := by decide +kernel
theorem dX6_allWorn_17 : decode cX6_allWorn 17 = .ok (.iconst 2, 1) := by decide +kernel
theorem dX6_allWorn_18 : decode cX6_allWorn 18 = .ok (.invokevirtual 76, 3) := by decide +kernel
theorem dX6_allWorn_21 : decode cX6_allWorn 21 = .ok (.iadd, 1) := by decide +kernel
theorem dX6_allWorn_22 : decode cX6_allWorn 22 = .ok (.istore_n 1, 1) := by decide +kernel
theorem dX6_allWorn_23 : decode cX6_allWorn 23 = .ok (.iinc 2 1, 3) := by decide +kernel
theorem dX6_allWorn_26 : decode cX6_allWorn 26 = .ok (.goto (-22), 3) := by decide +kernel
theorem dX6_allWorn_29 : decode cX6_allWorn 29 = .ok (.iload_n 1, 1) := by decide +kernel
theorem dX6_allWorn_30 : decode cX6_allWorn 30 = .ok (.ireturn, 1) := by decide +kernel
theorem dX6_span_0 : decode cX6_span 0 = .ok (.iconst 0, 1) := by decide +kernel
theorem dX6_span_1 : decode cX6_span 1 = .ok (.istore_n 1, 1) := by decide +kernel
theorem dX6_span_2 : decode cX6_span 2 = .ok (.bipush 99, 2) := by decide +kernel
theorem dX6_span_4 : decode cX6_span 4 = .ok (.istore_n 2, 1) := by decide +kernel
theorem dX6_span_5 : decode cX6_span 5 = .ok (.iconst 0, 1) := by decide +kernel
theorem dX6_span_6 : decode cX6_span 6 = .ok (.istore_n 3, 1) := by decide +kernel
theorem dX6_span_7 : decode cX6_span 7 = .ok (.iload_n 3, 1) := by decide +kernel
theorem dX6_span_8 : decode cX6_span 8 = .ok (.bipush 25, 2) := by decide +kernel
theorem dX6_span_10 : decode cX6_span 10 = .ok (.if_icmp .ge 35, 3) := by decide +kernel
theorem dX6_span_13 : decode cX6_span 13 = .ok (.iload_n 1, 1) := by decide +kernel
theorem dX6_span_14 : decode cX6_span 14 = .ok (.aload_n 0, 1) := by decide +kernel
theorem dX6_span_15 : decode cX6_span 15 = .ok (.getfield 9, 3) := by decide +kernel
theorem dX6_span_18 : decode cX6_span 18 = .ok (.iconst 4, 1) := by decide +kernel
theorem dX6_span_19 : decode cX6_span 19 = .ok (.iload_n 3, 1) := by decide +kernel
theorem dX6_span_20 : decode cX6_span 20 = .ok (.iadd, 1) := by decide +kernel
theorem dX6_span_21 : decode cX6_span 21 = .ok (.iaload, 1) := by decide +kernel
theorem dX6_span_22 : decode cX6_span 22 = .ok (.invokestatic 64, 3) := by decide +kernel
theorem dX6_span_25 : decode cX6_span 25 = .ok (.istore_n 1, 1) := by decide +kernel
theorem dX6_span_26 : decode cX6_span 26 = .ok (.iload_n 2, 1) := by decide +kernel
theorem dX6_span_27 : decode cX6_span 27 = .ok (.aload_n 0, 1) := by decide +kernel
theorem dX6_span_28 : decode cX6_span 28 = .ok (.getfield 9, 3) := by decide +kernel
theorem dX6_span_31 : decode cX6_span 31 = .ok (.iconst 4, 1) := by decide +kernel
theorem dX6_span_32 : decode cX6_span 32 = .ok (.iload_n 3, 1) := by decide +kernel
theorem dX6_span_33 : decode cX6_span 33 = .ok (.iadd, 1) := by decide +kernel
theorem dX6_span_34 : decode cX6_span 34 = .ok (.iaload, 1) := by decide +kernel
theorem dX6_span_35 : decode cX6_span 35 = .ok (.invokestatic 58, 3) := by decide +kernel
theorem dX6_span_38 : decode cX6_span 38 = .ok (.istore_n 2, 1) := by decide +kernel
end
section
theorem dX6_span_39 : decode cX6_span 39 = .ok (.iinc 3 1, 3) := by decide +kernel
theorem dX6_span_42 : decode cX6_span 42 = .ok (.goto (-35), 3) := by decide +kernel
theorem dX6_span_45 : decode cX6_span 45 = .ok (.iload_n 1, 1) := by decide +kernel
theorem dX6_span_46 : decode cX6_span 46 = .ok (.iload_n 2, 1) := by decide +kernel
theorem dX6_span_47 : decode cX6_span 47 = .ok (.isub, 1) := by decide +kernel
theorem dX6_span_48 : decode cX6_span 48 = .ok (.ireturn, 1) := by decide +kernel
theorem dX6_now_0 : decode cX6_now 0 = .ok (.iload_n 1, 1) := by decide +kernel
theorem dX6_now_1 : decode cX6_now 1 = .ok (.tableswitch 73 0 5 #[39, 46, 51, 58, 63, 68], 39) := by decide +kernel
theorem dX6_now_40 : decode cX6_now 40 = .ok (.aload_n 0, 1) := by decide +kernel
theorem dX6_now_41 : decode cX6_now 41 = .ok (.getfield 9, 3) := by decide +kernel
theorem dX6_now_44 : decode cX6_now 44 = .ok (.iconst 0, 1) := by decide +kernel
theorem dX6_now_45 : decode cX6_now 45 = .ok (.iaload, 1) := by decide +kernel
theorem dX6_now_46 : decode cX6_now 46 = .ok (.ireturn, 1) := by decide +kernel
theorem dX6_now_47 : decode cX6_now 47 = .ok (.aload_n 0, 1) := by decide +kernel
theorem dX6_now_48 : decode cX6_now 48 = .ok (.invokevirtual 166, 3) := by decide +kernel
theorem dX6_now_51 : decode cX6_now 51 = .ok (.ireturn, 1) := by decide +kernel
theorem dX6_now_52 : decode cX6_now 52 = .ok (.aload_n 0, 1) := by decide +kernel
theorem dX6_now_53 : decode cX6_now 53 = .ok (.getfield 9, 3) := by decide +kernel
theorem dX6_now_56 : decode cX6_now 56 = .ok (.iconst 3, 1) := by decide +kernel
theorem dX6_now_57 : decode cX6_now 57 = .ok (.iaload, 1) := by decide +kernel
theorem dX6_now_58 : decode cX6_now 58 = .ok (.ireturn, 1) := by decide +kernel
theorem dX6_now_59 : decode cX6_now 59 = .ok (.aload_n 0, 1) := by decide +kernel
theorem dX6_now_60 : decode cX6_now 60 = .ok (.invokevirtual 170, 3) := by decide +kernel
theorem dX6_now_63 : decode cX6_now 63 = .ok (.ireturn, 1) := by decide +kernel
theorem dX6_now_64 : decode cX6_now 64 = .ok (.aload_n 0, 1) := by decide +kernel
theorem dX6_now_65 : decode cX6_now 65 = .ok (.invokevirtual 173, 3) := by decide +kernel
theorem dX6_now_68 : decode cX6_now 68 = .ok (.ireturn, 1) := by decide +kernel
theorem dX6_now_69 : decode cX6_now 69 = .ok (.aload_n 0, 1) := by decide +kernel
theorem dX6_now_70 : decode cX6_now 70 = .ok (.invokevirtual 176, 3) := by decide +kernel
theorem dX6_now_73 : decode cX6_now 73 = .ok (.ireturn, 1) := by decide +kernel
theorem dX6_now_74 : decode cX6_now 74 = .ok (.aload_n 0, 1) := by decide +kernel
theorem dX6_now_75 : decode cX6_now 75 = .ok (.iconst 0, 1) := by decide +kernel
theorem dX6_now_76 : decode cX6_now 76 = .ok (.invokevirtual 93, 3) := by decide +kernel
theorem dX6_now_79 : decode cX6_now 79 = .ok (.ireturn, 1) := by decide +kernel
theorem dX6_canStep_0 : decode cX6_canStep 0 = .ok (.iload_n 1, 1) := by decide +kernel
theorem dX6_canStep_1 : decode cX6_canStep 1 = .ok (.iload_n 2, 1) := by decide +kernel
theorem dX6_canStep_2 : decode cX6_canStep 2 = .ok (.invokestatic 110, 3) := by decide +kernel
theorem dX6_canStep_5 : decode cX6_canStep 5 = .ok (.ifCond .eq 31, 3) := by decide +kernel
theorem dX6_canStep_8 : decode cX6_canStep 8 = .ok (.aload_n 0, 1) := by decide +kernel
theorem dX6_canStep_9 : decode cX6_canStep 9 = .ok (.getfield 9, 3) := by decide +kernel
theorem dX6_canStep_12 : decode cX6_canStep 12 = .ok (.iconst 4, 1) := by decide +kernel
theorem dX6_canStep_13 : decode cX6_canStep 13 = .ok (.iload_n 1, 1) := by decide +kernel
theorem dX6_canStep_14 : decode cX6_canStep 14 = .ok (.iadd, 1) := by decide +kernel
theorem dX6_canStep_15 : decode cX6_canStep 15 = .ok (.iaload, 1) := by decide +kernel
theorem dX6_canStep_16 : decode cX6_canStep 16 = .ok (.aload_n 0, 1) := by decide +kernel
theorem dX6_canStep_17 : decode cX6_canStep 17 = .ok (.getfield 9, 3) := by decide +kernel
theorem dX6_canStep_20 : decode cX6_canStep 20 = .ok (.iconst 4, 1) := by decide +kernel
theorem dX6_canStep_21 : decode cX6_canStep 21 = .ok (.iload_n 2, 1) := by decide +kernel
theorem dX6_canStep_22 : decode cX6_canStep 22 = .ok (.iadd, 1) := by decide +kernel
theorem dX6_canStep_23 : decode cX6_canStep 23 = .ok (.iaload, 1) := by decide +kernel
theorem dX6_canStep_24 : decode cX6_canStep 24 = .ok (.isub, 1) := by decide +kernel
theorem dX6_canStep_25 : decode cX6_canStep 25 = .ok (.invokestatic 67, 3) := by decide +kernel
theorem dX6_canStep_28 : decode cX6_canStep 28 = .ok (.iload_n 3, 1) := by decide +kernel
theorem dX6_canStep_29 : decode cX6_canStep 29 = .ok (.if_icmp .gt 7, 3) := by decide +kernel
theorem dX6_canStep_32 : decode cX6_canStep 32 = .ok (.iconst 1, 1) := by decide +kernel
theorem dX6_canStep_33 : decode cX6_canStep 33 = .ok (.goto 4, 3) := by decide +kernel
theorem dX6_canStep_36 : decode cX6_canStep 36 = .ok (.iconst 0, 1) := by decide +kernel
theorem dX6_canStep_37 : decode cX6_canStep 37 = .ok (.ireturn, 1) := by decide +kernel
theorem dX6_walk_0 : decode cX6_walk 0 = .ok (.iconst 0, 1) := by decide +kernel
theorem dX6_walk_1 : decode cX6_walk 1 = .ok (.istore_n 3, 1) := by decide +kernel
theorem dX6_walk_2 : decode cX6_walk 2 = .ok (.iload_n 3, 1) := by decide +kernel
theorem dX6_walk_3 : decode cX6_walk 3 = .ok (.bipush 25, 2) := by decide +kernel
theorem dX6_walk_5 : decode cX6_walk 5 = .ok (.if_icmp .ge 25, 3) := by decide +kernel
theorem dX6_walk_8 : decode cX6_walk 8 = .ok (.aload_n 0, 1) := by decide +kernel
theorem dX6_walk_9 : decode cX6_walk 9 = .ok (.getfield 22, 3) := by decide +kernel
theorem dX6_walk_12 : decode cX6_walk 12 = .ok (.iload_n 3, 1) := by decide +kernel
theorem dX6_walk_13 : decode cX6_walk 13 = .ok (.iload_n 3, 1) := by decide +kernel
theorem dX6_walk_14 : decode cX6_walk 14 = .ok (.iload_n 1, 1) := by decide +kernel
theorem dX6_walk_15 : decode cX6_walk 15 = .ok (.if_icmp .ne 7, 3) := by decide +kernel
theorem dX6_walk_18 : decode cX6_walk 18 = .ok (.iconst 0, 1) := by decide +kernel
theorem dX6_walk_19 : decode cX6_walk 19 = .ok (.goto 4, 3) := by decide +kernel
theorem dX6_walk_22 : decode cX6_walk 22 = .ok (.iconst (-1), 1) := by decide +kernel
theorem dX6_walk_23 : decode cX6_walk 23 = .ok (.iastore, 1) := by decide +kernel
theorem dX6_walk_24 : decode cX6_walk 24 = .ok (.iinc 3 1, 3) := by decide +kernel
theorem dX6_walk_27 : decode cX6_walk 27 = .ok (.goto (-25), 3) := by decide +kernel
theorem dX6_walk_30 : decode cX6_walk 30 = .ok (.iconst 0, 1) := by decide +kernel
theorem dX6_walk_31 : decode cX6_walk 31 = .ok (.istore_n 3, 1) := by decide +kernel
theorem dX6_walk_32 : decode cX6_walk 32 = .ok (.iload_n 3, 1) := by decide +kernel
theorem dX6_walk_33 : decode cX6_walk 33 = .ok (.bipush 25, 2) := by decide +kernel
theorem dX6_walk_35 : decode cX6_walk 35 = .ok (.if_icmp .ge 94, 3) := by decide +kernel
theorem dX6_walk_38 : decode cX6_walk 38 = .ok (.iconst 0, 1) := by decide +kernel
theorem dX6_walk_39 : decode cX6_walk 39 = .ok (.istore 4, 2) := by decide +kernel
theorem dX6_walk_41 : decode cX6_walk 41 = .ok (.iload 4, 2) := by decide +kernel
theorem dX6_walk_43 : decode cX6_walk 43 = .ok (.bipush 25, 2) := by decide +kernel
theorem dX6_walk_45 : decode cX6_walk 45 = .ok (.if_icmp .ge 78, 3) := by decide +kernel
theorem dX6_walk_48 : decode cX6_walk 48 = .ok (.iconst 0, 1) := by decide +kernel
theorem dX6_walk_49 : decode cX6_walk 49 = .ok (.istore 5, 2) := by decide +kernel
theorem dX6_walk_51 : decode cX6_walk 51 = .ok (.iload 5, 2) := by decide +kernel
theorem dX6_walk_53 : decode cX6_walk 53 = .ok (.bipush 25, 2) := by decide +kernel
theorem dX6_walk_55 : decode cX6_walk 55 = .ok (.if_icmp .ge 62, 3) := by decide +kernel
theorem dX6_walk_58 : decode cX6_walk 58 = .ok (.aload_n 0, 1) := by decide +kernel
theorem dX6_walk_59 : decode cX6_walk 59 = .ok (.getfield 22, 3) := by decide +kernel
theorem dX6_walk_62 : decode cX6_walk 62 = .ok (.iload 4, 2) := by decide +kernel
theorem dX6_walk_64 : decode cX6_walk 64 = .ok (.iaload, 1) := by decide +kernel
theorem dX6_walk_65 : decode cX6_walk 65 = .ok (.iload_n 3, 1) := by decide +kernel
theorem dX6_walk_66 : decode cX6_walk 66 = .ok (.if_icmp .ne 51, 3) := by decide +kernel
theorem dX6_walk_69 : decode cX6_walk 69 = .ok (.aload_n 0, 1) := by decide +kernel
theorem dX6_walk_70 : decode cX6_walk 70 = .ok (.getfield 22, 3) := by decide +kernel
theorem dX6_walk_73 : decode cX6_walk 73 = .ok (.iload 5, 2) := by decide +kernel
theorem dX6_walk_75 : decode cX6_walk 75 = .ok (.aload_n 0, 1) := by decide +kernel
theorem dX6_walk_76 : decode cX6_walk 76 = .ok (.getfield 22, 3) := by decide +kernel
theorem dX6_walk_79 : decode cX6_walk 79 = .ok (.iload 5, 2) := by decide +kernel
theorem dX6_walk_81 : decode cX6_walk 81 = .ok (.iaload, 1) := by decide +kernel
theorem dX6_walk_82 : decode cX6_walk 82 = .ok (.ifCond .ge 21, 3) := by decide +kernel
theorem dX6_walk_85 : decode cX6_walk 85 = .ok (.aload_n 0, 1) := by decide +kernel
theorem dX6_walk_86 : decode cX6_walk 86 = .ok (.iload 4, 2) := by decide +kernel
theorem dX6_walk_88 : decode cX6_walk 88 = .ok (.iload 5, 2) := by decide +kernel
theorem dX6_walk_90 : decode cX6_walk 90 = .ok (.iload_n 2, 1) := by decide +kernel
theorem dX6_walk_91 : decode cX6_walk 91 = .ok (.invokevirtual 179, 3) := by decide +kernel
theorem dX6_walk_94 : decode cX6_walk 94 = .ok (.ifCond .eq 9, 3) := by decide +kernel
theorem dX6_walk_97 : decode cX6_walk 97 = .ok (.iload_n 3, 1) := by decide +kernel
theorem dX6_walk_98 : decode cX6_walk 98 = .ok (.iconst 1, 1) := by decide +kernel
theorem dX6_walk_99 : decode cX6_walk 99 = .ok (.iadd, 1) := by decide +kernel
theorem dX6_walk_100 : decode cX6_walk 100 = .ok (.goto 10, 3) := by decide +kernel
theorem dX6_walk_103 : decode cX6_walk 103 = .ok (.aload_n 0, 1) := by decide +kernel
theorem dX6_walk_104 : decode cX6_walk 104 = .ok (.getfield 22, 3) := by decide +kernel
theorem dX6_walk_107 : decode cX6_walk 107 = .ok (.iload 5, 2) := by decide +kernel
theorem dX6_walk_109 : decode cX6_walk 109 = .ok (.iaload, 1) := by decide +kernel
theorem dX6_walk_110 : decode cX6_walk 110 = .ok (.iastore, 1) := by decide +kernel
theorem dX6_walk_111 : decode cX6_walk 111 = .ok (.iinc 5 1, 3) := by decide +kernel
theorem dX6_walk_114 : decode cX6_walk 114 = .ok (.goto (-63), 3) := by decide +kernel
theorem dX6_walk_117 : decode cX6_walk 117 = .ok (.iinc 4 1, 3) := by decide +kernel
theorem dX6_walk_120 : decode cX6_walk 120 = .ok (.goto (-79), 3) := by decide +kernel
theorem dX6_walk_123 : decode cX6_walk 123 = .ok (.iinc 3 1, 3) := by decide +kernel
theorem dX6_walk_126 : decode cX6_walk 126 = .ok (.goto (-94), 3) := by decide +kernel
theorem dX6_walk_129 : decode cX6_walk 129 = .ok (.return_, 1) := by decide +kernel
theorem dX6_areWay_0 : decode cX6_areWay 0 = .ok (.iload_n 0, 1) := by decide +kernel
theorem dX6_areWay_1 : decode cX6_areWay 1 = .ok (.invokestatic 83, 3) := by decide +kernel
theorem dX6_areWay_4 : decode cX6_areWay 4 = .ok (.ifCond .eq 21, 3) := by decide +kernel
theorem dX6_areWay_7 : decode cX6_areWay 7 = .ok (.iload_n 1, 1) := by decide +kernel
theorem dX6_areWay_8 : decode cX6_areWay 8 = .ok (.invokestatic 83, 3) := by decide +kernel
theorem dX6_areWay_11 : decode cX6_areWay 11 = .ok (.ifCond .eq 14, 3) := by decide +kernel
theorem dX6_areWay_14 : decode cX6_areWay 14 = .ok (.iload_n 2, 1) := by decide +kernel
theorem dX6_areWay_15 : decode cX6_areWay 15 = .ok (.invokestatic 87, 3) := by decide +kernel
theorem dX6_areWay_18 : decode cX6_areWay 18 = .ok (.ifCond .eq 7, 3) := by decide +kernel
theorem dX6_areWay_21 : decode cX6_areWay 21 = .ok (.iconst 1, 1) := by decide +kernel
theorem dX6_areWay_22 : decode cX6_areWay 22 = .ok (.goto 4, 3) := by decide +kernel
theorem dX6_areWay_25 : decode cX6_areWay 25 = .ok (.iconst 0, 1) := by decide +kernel
theorem dX6_areWay_26 : decode cX6_areWay 26 = .ok (.ireturn, 1) := by decide +kernel
theorem dX6_way_0 : decode cX6_way 0 = .ok (.iload_n 1, 1) := by decide +kernel
theorem dX6_way_1 : decode cX6_way 1 = .ok (.iload_n 2, 1) := by decide +kernel
theorem dX6_way_2 : decode cX6_way 2 = .ok (.iload_n 3, 1) := by decide +kernel
theorem dX6_way_3 : decode cX6_way 3 = .ok (.invokestatic 183, 3) := by decide +kernel
theorem dX6_way_6 : decode cX6_way 6 = .ok (.ifCond .ne 9, 3) := by decide +kernel
theorem dX6_way_9 : decode cX6_way 9 = .ok (.aload_n 0, 1) := by decide +kernel
theorem dX6_way_10 : decode cX6_way 10 = .ok (.iconst 0, 1) := by decide +kernel
theorem dX6_way_11 : decode cX6_way 11 = .ok (.invokevirtual 93, 3) := by decide +kernel
theorem dX6_way_14 : decode cX6_way 14 = .ok (.ireturn, 1) := by decide +kernel
theorem dX6_way_15 : decode cX6_way 15 = .ok (.aload_n 0, 1) := by decide +kernel
theorem dX6_way_16 : decode cX6_way 16 = .ok (.iload_n 1, 1) := by decide +kernel
theorem dX6_way_17 : decode cX6_way 17 = .ok (.iload_n 3, 1) := by decide +kernel
theorem dX6_way_18 : decode cX6_way 18 = .ok (.invokevirtual 186, 3) := by decide +kernel
theorem dX6_way_21 : decode cX6_way 21 = .ok (.aload_n 0, 1) := by decide +kernel
theorem dX6_way_22 : decode cX6_way 22 = .ok (.getfield 22, 3) := by decide +kernel
theorem dX6_way_25 : decode cX6_way 25 = .ok (.iload_n 2, 1) := by decide +kernel
theorem dX6_way_26 : decode cX6_way 26 = .ok (.iaload, 1) := by decide +kernel
theorem dX6_way_27 : decode cX6_way 27 = .ok (.ifCond .ge 11, 3) := by decide +kernel
theorem dX6_way_30 : decode cX6_way 30 = .ok (.aload_n 0, 1) := by decide +kernel
theorem dX6_way_31 : decode cX6_way 31 = .ok (.iconst 3, 1) := by decide +kernel
theorem dX6_way_32 : decode cX6_way 32 = .ok (.invokevirtual 93, 3) := by decide +kernel
theorem dX6_way_35 : decode cX6_way 35 = .ok (.goto 9, 3) := by decide +kernel
theorem dX6_way_38 : decode cX6_way 38 = .ok (.aload_n 0, 1) := by decide +kernel
theorem dX6_way_39 : decode cX6_way 39 = .ok (.getfield 22, 3) := by decide +kernel
theorem dX6_way_42 : decode cX6_way 42 = .ok (.iload_n 2, 1) := by decide +kernel
theorem dX6_way_43 : decode cX6_way 43 = .ok (.iaload, 1) := by decide +kernel
theorem dX6_way_44 : decode cX6_way 44 = .ok (.ireturn, 1) := by decide +kernel
theorem dX6_climb_0 : decode cX6_climb 0 = .ok (.iload_n 1, 1) := by decide +kernel
theorem dX6_climb_1 : decode cX6_climb 1 = .ok (.iload_n 2, 1) := by decide +kernel
theorem dX6_climb_2 : decode cX6_climb 2 = .ok (.iconst 0, 1) := by decide +kernel
theorem dX6_climb_3 : decode cX6_climb 3 = .ok (.invokestatic 183, 3) := by decide +kernel
theorem dX6_climb_6 : decode cX6_climb 6 = .ok (.ifCond .ne 9, 3) := by decide +kernel
theorem dX6_climb_9 : decode cX6_climb 9 = .ok (.aload_n 0, 1) := by decide +kernel
theorem dX6_climb_10 : decode cX6_climb 10 = .ok (.iconst 0, 1) := by decide +kernel
theorem dX6_climb_11 : decode cX6_climb 11 = .ok (.invokevirtual 93, 3) := by decide +kernel
theorem dX6_climb_14 : decode cX6_climb 14 = .ok (.ireturn, 1) := by decide +kernel
theorem dX6_climb_15 : decode cX6_climb 15 = .ok (.iconst (-1), 1) := by decide +kernel
theorem dX6_climb_16 : decode cX6_climb 16 = .ok (.istore_n 3, 1) := by decide +kernel
theorem dX6_climb_17 : decode cX6_climb 17 = .ok (.iinc 3 1, 3) := by decide +kernel
theorem dX6_climb_20 : decode cX6_climb 20 = .ok (.aload_n 0, 1) := by decide +kernel
theorem dX6_climb_21 : decode cX6_climb 21 = .ok (.iload_n 1, 1) := by decide +kernel
theorem dX6_climb_22 : decode cX6_climb 22 = .ok (.iload_n 3, 1) := by decide +kernel
theorem dX6_climb_23 : decode cX6_climb 23 = .ok (.invokevirtual 186, 3) := by decide +kernel
theorem dX6_climb_26 : decode cX6_climb 26 = .ok (.aload_n 0, 1) := by decide +kernel
theorem dX6_climb_27 : decode cX6_climb 27 = .ok (.getfield 22, 3) := by decide +kernel
theorem dX6_climb_30 : decode cX6_climb 30 = .ok (.iload_n 2, 1) := by decide +kernel
theorem dX6_climb_31 : decode cX6_climb 31 = .ok (.iaload, 1) := by decide +kernel
theorem dX6_climb_32 : decode cX6_climb 32 = .ok (.ifCond .lt (-15), 3) := by decide +kernel
theorem dX6_climb_35 : decode cX6_climb 35 = .ok (.iload_n 3, 1) := by decide +kernel
theorem dX6_climb_36 : decode cX6_climb 36 = .ok (.ireturn, 1) := by decide +kernel
theorem dX6_reach_0 : decode cX6_reach 0 = .ok (.iload_n 1, 1) := by decide +kernel
theorem dX6_reach_1 : decode cX6_reach 1 = .ok (.iload_n 1, 1) := by decide +kernel
theorem dX6_reach_2 : decode cX6_reach 2 = .ok (.iload_n 2, 1) := by decide +kernel
theorem dX6_reach_3 : decode cX6_reach 3 = .ok (.invokestatic 183, 3) := by decide +kernel
theorem dX6_reach_6 : decode cX6_reach 6 = .ok (.ifCond .ne 9, 3) := by decide +kernel
theorem dX6_reach_9 : decode cX6_reach 9 = .ok (.aload_n 0, 1) := by decide +kernel
theorem dX6_reach_10 : decode cX6_reach 10 = .ok (.iconst 0, 1) := by decide +kernel
theorem dX6_reach_11 : decode cX6_reach 11 = .ok (.invokevirtual 93, 3) := by decide +kernel
theorem dX6_reach_14 : decode cX6_reach 14 = .ok (.ireturn, 1) := by decide +kernel
theorem dX6_reach_15 : decode cX6_reach 15 = .ok (.aload_n 0, 1) := by decide +kernel
theorem dX6_reach_16 : decode cX6_reach 16 = .ok (.iload_n 1, 1) := by decide +kernel
theorem dX6_reach_17 : decode cX6_reach 17 = .ok (.iload_n 2, 1) := by decide +kernel
theorem dX6_reach_18 : decode cX6_reach 18 = .ok (.invokevirtual 186, 3) := by decide +kernel
theorem dX6_reach_21 : decode cX6_reach 21 = .ok (.iconst 0, 1) := by decide +kernel
theorem dX6_reach_22 : decode cX6_reach 22 = .ok (.istore_n 3, 1) := by decide +kernel
theorem dX6_reach_23 : decode cX6_reach 23 = .ok (.iconst 0, 1) := by decide +kernel
theorem dX6_reach_24 : decode cX6_reach 24 = .ok (.istore 4, 2) := by decide +kernel
theorem dX6_reach_26 : decode cX6_reach 26 = .ok (.iload 4, 2) := by decide +kernel
theorem dX6_reach_28 : decode cX6_reach 28 = .ok (.bipush 25, 2) := by decide +kernel
theorem dX6_reach_30 : decode cX6_reach 30 = .ok (.if_icmp .ge 30, 3) := by decide +kernel
theorem dX6_reach_33 : decode cX6_reach 33 = .ok (.iload_n 3, 1) := by decide +kernel
theorem dX6_reach_34 : decode cX6_reach 34 = .ok (.aload_n 0, 1) := by decide +kernel
theorem dX6_reach_35 : decode cX6_reach 35 = .ok (.getfield 22, 3) := by decide +kernel
theorem dX6_reach_38 : decode cX6_reach 38 = .ok (.iload 4, 2) := by decide +kernel
theorem dX6_reach_40 : decode cX6_reach 40 = .ok (.iaload, 1) := by decide +kernel
theorem dX6_reach_41 : decode cX6_reach 41 = .ok (.ifCond .lt 10, 3) := by decide +kernel
theorem dX6_reach_44 : decode cX6_reach 44 = .ok (.iconst 1, 1) := by decide +kernel
theorem dX6_reach_45 : decode cX6_reach 45 = .ok (.iload 4, 2) := by decide +kernel
theorem dX6_reach_47 : decode cX6_reach 47 = .ok (.ishl, 1) := by decide +kernel
theorem dX6_reach_48 : decode cX6_reach 48 = .ok (.goto 4, 3) := by decide +kernel
theorem dX6_reach_51 : decode cX6_reach 51 = .ok (.iconst 0, 1) := by decide +kernel
theorem dX6_reach_52 : decode cX6_reach 52 = .ok (.ior, 1) := by decide +kernel
theorem dX6_reach_53 : decode cX6_reach 53 = .ok (.istore_n 3, 1) := by decide +kernel
theorem dX6_reach_54 : decode cX6_reach 54 = .ok (.iinc 4 1, 3) := by decide +kernel
theorem dX6_reach_57 : decode cX6_reach 57 = .ok (.goto (-31), 3) := by decide +kernel
theorem dX6_reach_60 : decode cX6_reach 60 = .ok (.iload_n 3, 1) := by decide +kernel
theorem dX6_reach_61 : decode cX6_reach 61 = .ok (.ireturn, 1) := by decide +kernel
theorem dX6_drink_0 : decode cX6_drink 0 = .ok (.iload_n 1, 1) := by decide +kernel
theorem dX6_drink_1 : decode cX6_drink 1 = .ok (.iload_n 1, 1) := by decide +kernel
theorem dX6_drink_2 : decode cX6_drink 2 = .ok (.iload_n 2, 1) := by decide +kernel
theorem dX6_drink_3 : decode cX6_drink 3 = .ok (.invokestatic 183, 3) := by decide +kernel
theorem dX6_drink_6 : decode cX6_drink 6 = .ok (.ifCond .ne 9, 3) := by decide +kernel
theorem dX6_drink_9 : decode cX6_drink 9 = .ok (.aload_n 0, 1) := by decide +kernel
theorem dX6_drink_10 : decode cX6_drink 10 = .ok (.iconst 0, 1) := by decide +kernel
theorem dX6_drink_11 : decode cX6_drink 11 = .ok (.invokevirtual 93, 3) := by decide +kernel
theorem dX6_drink_14 : decode cX6_drink 14 = .ok (.ireturn, 1) := by decide +kernel
theorem dX6_drink_15 : decode cX6_drink 15 = .ok (.aload_n 0, 1) := by decide +kernel
theorem dX6_drink_16 : decode cX6_drink 16 = .ok (.iload_n 1, 1) := by decide +kernel
theorem dX6_drink_17 : decode cX6_drink 17 = .ok (.iload_n 2, 1) := by decide +kernel
theorem dX6_drink_18 : decode cX6_drink 18 = .ok (.invokevirtual 186, 3) := by decide +kernel
theorem dX6_drink_21 : decode cX6_drink 21 = .ok (.iconst (-1), 1) := by decide +kernel
theorem dX6_drink_22 : decode cX6_drink 22 = .ok (.istore_n 3, 1) := by decide +kernel
theorem dX6_drink_23 : decode cX6_drink 23 = .ok (.iconst 0, 1) := by decide +kernel
theorem dX6_drink_24 : decode cX6_drink 24 = .ok (.istore 4, 2) := by decide +kernel
theorem dX6_drink_26 : decode cX6_drink 26 = .ok (.iload 4, 2) := by decide +kernel
theorem dX6_drink_28 : decode cX6_drink 28 = .ok (.bipush 25, 2) := by decide +kernel
theorem dX6_drink_30 : decode cX6_drink 30 = .ok (.if_icmp .ge 67, 3) := by decide +kernel
theorem dX6_drink_33 : decode cX6_drink 33 = .ok (.aload_n 0, 1) := by decide +kernel
theorem dX6_drink_34 : decode cX6_drink 34 = .ok (.iload 4, 2) := by decide +kernel
theorem dX6_drink_36 : decode cX6_drink 36 = .ok (.invokevirtual 96, 3) := by decide +kernel
theorem dX6_drink_39 : decode cX6_drink 39 = .ok (.ifCond .eq 17, 3) := by decide +kernel
theorem dX6_drink_42 : decode cX6_drink 42 = .ok (.aload_n 0, 1) := by decide +kernel
theorem dX6_drink_43 : decode cX6_drink 43 = .ok (.getfield 22, 3) := by decide +kernel
theorem dX6_drink_46 : decode cX6_drink 46 = .ok (.iload 4, 2) := by decide +kernel
theorem dX6_drink_48 : decode cX6_drink 48 = .ok (.iaload, 1) := by decide +kernel
theorem dX6_drink_49 : decode cX6_drink 49 = .ok (.ifCond .lt 7, 3) := by decide +kernel
theorem dX6_drink_52 : decode cX6_drink 52 = .ok (.iconst 1, 1) := by decide +kernel
theorem dX6_drink_53 : decode cX6_drink 53 = .ok (.goto 4, 3) := by decide +kernel
theorem dX6_drink_56 : decode cX6_drink 56 = .ok (.iconst 0, 1) := by decide +kernel
theorem dX6_drink_57 : decode cX6_drink 57 = .ok (.istore 5, 2) := by decide +kernel
theorem dX6_drink_59 : decode cX6_drink 59 = .ok (.iload 5, 2) := by decide +kernel
theorem dX6_drink_61 : decode cX6_drink 61 = .ok (.ifCond .eq 28, 3) := by decide +kernel
theorem dX6_drink_64 : decode cX6_drink 64 = .ok (.iload_n 3, 1) := by decide +kernel
theorem dX6_drink_65 : decode cX6_drink 65 = .ok (.ifCond .lt 19, 3) := by decide +kernel
theorem dX6_drink_68 : decode cX6_drink 68 = .ok (.aload_n 0, 1) := by decide +kernel
theorem dX6_drink_69 : decode cX6_drink 69 = .ok (.getfield 22, 3) := by decide +kernel
theorem dX6_drink_72 : decode cX6_drink 72 = .ok (.iload 4, 2) := by decide +kernel
theorem dX6_drink_74 : decode cX6_drink 74 = .ok (.iaload, 1) := by decide +kernel
theorem dX6_drink_75 : decode cX6_drink 75 = .ok (.aload_n 0, 1) := by decide +kernel
theorem dX6_drink_76 : decode cX6_drink 76 = .ok (.getfield 22, 3) := by decide +kernel
theorem dX6_drink_79 : decode cX6_drink 79 = .ok (.iload_n 3, 1) := by decide +kernel
theorem dX6_drink_80 : decode cX6_drink 80 = .ok (.iaload, 1) := by decide +kernel
theorem dX6_drink_81 : decode cX6_drink 81 = .ok (.if_icmp .ge 8, 3) := by decide +kernel
theorem dX6_drink_84 : decode cX6_drink 84 = .ok (.iload 4, 2) := by decide +kernel
theorem dX6_drink_86 : decode cX6_drink 86 = .ok (.goto 4, 3) := by decide +kernel
theorem dX6_drink_89 : decode cX6_drink 89 = .ok (.iload_n 3, 1) := by decide +kernel
theorem dX6_drink_90 : decode cX6_drink 90 = .ok (.istore_n 3, 1) := by decide +kernel
theorem dX6_drink_91 : decode cX6_drink 91 = .ok (.iinc 4 1, 3) := by decide +kernel
theorem dX6_drink_94 : decode cX6_drink 94 = .ok (.goto (-68), 3) := by decide +kernel
theorem dX6_drink_97 : decode cX6_drink 97 = .ok (.iload_n 3, 1) := by decide +kernel
theorem dX6_drink_98 : decode cX6_drink 98 = .ok (.ifCond .ge 11, 3) := by decide +kernel
theorem dX6_drink_101 : decode cX6_drink 101 = .ok (.aload_n 0, 1) := by decide +kernel
theorem dX6_drink_102 : decode cX6_drink 102 = .ok (.iconst 3, 1) := by decide +kernel
theorem dX6_drink_103 : decode cX6_drink 103 = .ok (.invokevirtual 93, 3) := by decide +kernel
theorem dX6_drink_106 : decode cX6_drink 106 = .ok (.goto 4, 3) := by decide +kernel
theorem dX6_drink_109 : decode cX6_drink 109 = .ok (.iload_n 3, 1) := by decide +kernel
theorem dX6_drink_110 : decode cX6_drink 110 = .ok (.ireturn, 1) := by decide +kernel
theorem dX6_ahead_0 : decode cX6_ahead 0 = .ok (.iload_n 1, 1) := by decide +kernel
theorem dX6_ahead_1 : decode cX6_ahead 1 = .ok (.invokestatic 83, 3) := by decide +kernel
theorem dX6_ahead_4 : decode cX6_ahead 4 = .ok (.ifCond .eq 15, 3) := by decide +kernel
theorem dX6_ahead_7 : decode cX6_ahead 7 = .ok (.iload_n 2, 1) := by decide +kernel
theorem dX6_ahead_8 : decode cX6_ahead 8 = .ok (.i2l, 1) := by decide +kernel
theorem dX6_ahead_9 : decode cX6_ahead 9 = .ok (.lconst 0, 1) := by decide +kernel
theorem dX6_ahead_10 : decode cX6_ahead 10 = .ok (.ldc2_w 189, 3) := by decide +kernel
theorem dX6_ahead_13 : decode cX6_ahead 13 = .ok (.invokestatic 48, 3) := by decide +kernel
theorem dX6_ahead_16 : decode cX6_ahead 16 = .ok (.ifCond .ne 9, 3) := by decide +kernel
theorem dX6_ahead_19 : decode cX6_ahead 19 = .ok (.aload_n 0, 1) := by decide +kernel
theorem dX6_ahead_20 : decode cX6_ahead 20 = .ok (.iconst 0, 1) := by decide +kernel
theorem dX6_ahead_21 : decode cX6_ahead 21 = .ok (.invokevirtual 93, 3) := by decide +kernel
theorem dX6_ahead_24 : decode cX6_ahead 24 = .ok (.ireturn, 1) := by decide +kernel
theorem dX6_ahead_25 : decode cX6_ahead 25 = .ok (.aload_n 0, 1) := by decide +kernel
theorem dX6_ahead_26 : decode cX6_ahead 26 = .ok (.invokevirtual 191, 3) := by decide +kernel
theorem dX6_ahead_29 : decode cX6_ahead 29 = .ok (.aload_n 0, 1) := by decide +kernel
theorem dX6_ahead_30 : decode cX6_ahead 30 = .ok (.iload_n 2, 1) := by decide +kernel
theorem dX6_ahead_31 : decode cX6_ahead 31 = .ok (.invokevirtual 162, 3) := by decide +kernel
theorem dX6_ahead_34 : decode cX6_ahead 34 = .ok (.aload_n 0, 1) := by decide +kernel
theorem dX6_ahead_35 : decode cX6_ahead 35 = .ok (.getfield 9, 3) := by decide +kernel
theorem dX6_ahead_38 : decode cX6_ahead 38 = .ok (.iconst 4, 1) := by decide +kernel
theorem dX6_ahead_39 : decode cX6_ahead 39 = .ok (.iload_n 1, 1) := by decide +kernel
theorem dX6_ahead_40 : decode cX6_ahead 40 = .ok (.iadd, 1) := by decide +kernel
theorem dX6_ahead_41 : decode cX6_ahead 41 = .ok (.iaload, 1) := by decide +kernel
theorem dX6_ahead_42 : decode cX6_ahead 42 = .ok (.istore_n 3, 1) := by decide +kernel
theorem dX6_ahead_43 : decode cX6_ahead 43 = .ok (.aload_n 0, 1) := by decide +kernel
theorem dX6_ahead_44 : decode cX6_ahead 44 = .ok (.invokevirtual 194, 3) := by decide +kernel
theorem dX6_ahead_47 : decode cX6_ahead 47 = .ok (.iload_n 3, 1) := by decide +kernel
theorem dX6_ahead_48 : decode cX6_ahead 48 = .ok (.ireturn, 1) := by decide +kernel
theorem dX6_felt_0 : decode cX6_felt 0 = .ok (.aload_n 0, 1) := by decide +kernel
theorem dX6_felt_1 : decode cX6_felt 1 = .ok (.iload_n 1, 1) := by decide +kernel
theorem dX6_felt_2 : decode cX6_felt 2 = .ok (.invokevirtual 127, 3) := by decide +kernel
theorem dX6_felt_5 : decode cX6_felt 5 = .ok (.ifCond .eq 27, 3) := by decide +kernel
theorem dX6_felt_8 : decode cX6_felt 8 = .ok (.iload_n 2, 1) := by decide +kernel
theorem dX6_felt_9 : decode cX6_felt 9 = .ok (.i2l, 1) := by decide +kernel
theorem dX6_felt_10 : decode cX6_felt 10 = .ok (.lconst 0, 1) := by decide +kernel
theorem dX6_felt_11 : decode cX6_felt 11 = .ok (.ldc2_w 113, 3) := by decide +kernel
theorem dX6_felt_14 : decode cX6_felt 14 = .ok (.invokestatic 48, 3) := by decide +kernel
theorem dX6_felt_17 : decode cX6_felt 17 = .ok (.ifCond .eq 15, 3) := by decide +kernel
theorem dX6_felt_20 : decode cX6_felt 20 = .ok (.iload_n 3, 1) := by decide +kernel
theorem dX6_felt_21 : decode cX6_felt 21 = .ok (.i2l, 1) := by decide +kernel
theorem dX6_felt_22 : decode cX6_felt 22 = .ok (.lconst 0, 1) := by decide +kernel
theorem dX6_felt_23 : decode cX6_felt 23 = .ok (.ldc2_w 189, 3) := by decide +kernel
theorem dX6_felt_26 : decode cX6_felt 26 = .ok (.invokestatic 48, 3) := by decide +kernel
theorem dX6_felt_29 : decode cX6_felt 29 = .ok (.ifCond .ne 9, 3) := by decide +kernel
theorem dX6_felt_32 : decode cX6_felt 32 = .ok (.aload_n 0, 1) := by decide +kernel
theorem dX6_felt_33 : decode cX6_felt 33 = .ok (.iconst 0, 1) := by decide +kernel
theorem dX6_felt_34 : decode cX6_felt 34 = .ok (.invokevirtual 93, 3) := by decide +kernel
theorem dX6_felt_37 : decode cX6_felt 37 = .ok (.ireturn, 1) := by decide +kernel
theorem dX6_felt_38 : decode cX6_felt 38 = .ok (.aload_n 0, 1) := by decide +kernel
theorem dX6_felt_39 : decode cX6_felt 39 = .ok (.invokevirtual 191, 3) := by decide +kernel
theorem dX6_felt_42 : decode cX6_felt 42 = .ok (.aload_n 0, 1) := by decide +kernel
theorem dX6_felt_43 : decode cX6_felt 43 = .ok (.iload_n 3, 1) := by decide +kernel
theorem dX6_felt_44 : decode cX6_felt 44 = .ok (.invokevirtual 162, 3) := by decide +kernel
theorem dX6_felt_47 : decode cX6_felt 47 = .ok (.aload_n 0, 1) := by decide +kernel
theorem dX6_felt_48 : decode cX6_felt 48 = .ok (.iload_n 1, 1) := by decide +kernel
theorem dX6_felt_49 : decode cX6_felt 49 = .ok (.iconst 4, 1) := by decide +kernel
theorem dX6_felt_50 : decode cX6_felt 50 = .ok (.iload_n 2, 1) := by decide +kernel
theorem dX6_felt_51 : decode cX6_felt 51 = .ok (.iadd, 1) := by decide +kernel
theorem dX6_felt_52 : decode cX6_felt 52 = .ok (.invokevirtual 76, 3) := by decide +kernel
theorem dX6_felt_55 : decode cX6_felt 55 = .ok (.istore 4, 2) := by decide +kernel
theorem dX6_felt_57 : decode cX6_felt 57 = .ok (.aload_n 0, 1) := by decide +kernel
theorem dX6_felt_58 : decode cX6_felt 58 = .ok (.invokevirtual 194, 3) := by decide +kernel
theorem dX6_felt_61 : decode cX6_felt 61 = .ok (.iload 4, 2) := by decide +kernel
theorem dX6_felt_63 : decode cX6_felt 63 = .ok (.ireturn, 1) := by decide +kernel
theorem dX6_orNone_0 : decode cX6_orNone 0 = .ok (.iload_n 1, 1) := by decide +kernel
theorem dX6_orNone_1 : decode cX6_orNone 1 = .ok (.iload_n 2, 1) := by decide +kernel
theorem dX6_orNone_2 : decode cX6_orNone 2 = .ok (.if_icmp .gt 7, 3) := by decide +kernel
theorem dX6_orNone_5 : decode cX6_orNone 5 = .ok (.iload_n 1, 1) := by decide +kernel
theorem dX6_orNone_6 : decode cX6_orNone 6 = .ok (.goto 8, 3) := by decide +kernel
theorem dX6_orNone_9 : decode cX6_orNone 9 = .ok (.aload_n 0, 1) := by decide +kernel
theorem dX6_orNone_10 : decode cX6_orNone 10 = .ok (.iconst 3, 1) := by decide +kernel
theorem dX6_orNone_11 : decode cX6_orNone 11 = .ok (.invokevirtual 93, 3) := by decide +kernel
theorem dX6_orNone_14 : decode cX6_orNone 14 = .ok (.ireturn, 1) := by decide +kernel
theorem dX6_isThrough_0 : decode cX6_isThrough 0 = .ok (.aload_n 0, 1) := by decide +kernel
theorem dX6_isThrough_1 : decode cX6_isThrough 1 = .ok (.iload_n 1, 1) := by decide +kernel
theorem dX6_isThrough_2 : decode cX6_isThrough 2 = .ok (.iload_n 3, 1) := by decide +kernel
theorem dX6_isThrough_3 : decode cX6_isThrough 3 = .ok (.invokevirtual 186, 3) := by decide +kernel
theorem dX6_isThrough_6 : decode cX6_isThrough 6 = .ok (.aload_n 0, 1) := by decide +kernel
theorem dX6_isThrough_7 : decode cX6_isThrough 7 = .ok (.getfield 22, 3) := by decide +kernel
theorem dX6_isThrough_10 : decode cX6_isThrough 10 = .ok (.iload_n 2, 1) := by decide +kernel
theorem dX6_isThrough_11 : decode cX6_isThrough 11 = .ok (.iaload, 1) := by decide +kernel
theorem dX6_isThrough_12 : decode cX6_isThrough 12 = .ok (.ifCond .lt 7, 3) := by decide +kernel
theorem dX6_isThrough_15 : decode cX6_isThrough 15 = .ok (.iconst 1, 1) := by decide +kernel
theorem dX6_isThrough_16 : decode cX6_isThrough 16 = .ok (.goto 4, 3) := by decide +kernel
theorem dX6_isThrough_19 : decode cX6_isThrough 19 = .ok (.iconst 0, 1) := by decide +kernel
theorem dX6_isThrough_20 : decode cX6_isThrough 20 = .ok (.ireturn, 1) := by decide +kernel
theorem dX6_when_0 : decode cX6_when 0 = .ok (.iload_n 1, 1) := by decide +kernel
theorem dX6_when_1 : decode cX6_when 1 = .ok (.iload_n 2, 1) := by decide +kernel
theorem dX6_when_2 : decode cX6_when 2 = .ok (.iload_n 3, 1) := by decide +kernel
theorem dX6_when_3 : decode cX6_when 3 = .ok (.invokestatic 183, 3) := by decide +kernel
theorem dX6_when_6 : decode cX6_when 6 = .ok (.ifCond .ne 9, 3) := by decide +kernel
theorem dX6_when_9 : decode cX6_when 9 = .ok (.aload_n 0, 1) := by decide +kernel
theorem dX6_when_10 : decode cX6_when 10 = .ok (.iconst 0, 1) := by decide +kernel
theorem dX6_when_11 : decode cX6_when 11 = .ok (.invokevirtual 93, 3) := by decide +kernel
theorem dX6_when_14 : decode cX6_when 14 = .ok (.ireturn, 1) := by decide +kernel
theorem dX6_when_15 : decode cX6_when 15 = .ok (.aload_n 0, 1) := by decide +kernel
theorem dX6_when_16 : decode cX6_when 16 = .ok (.invokevirtual 191, 3) := by decide +kernel
theorem dX6_when_19 : decode cX6_when 19 = .ok (.iconst 0, 1) := by decide +kernel
theorem dX6_when_20 : decode cX6_when 20 = .ok (.istore 4, 2) := by decide +kernel
theorem dX6_when_22 : decode cX6_when 22 = .ok (.iload 4, 2) := by decide +kernel
theorem dX6_when_24 : decode cX6_when 24 = .ok (.bipush 100, 2) := by decide +kernel
theorem dX6_when_26 : decode cX6_when 26 = .ok (.if_icmp .gt 23, 3) := by decide +kernel
theorem dX6_when_29 : decode cX6_when 29 = .ok (.aload_n 0, 1) := by decide +kernel
theorem dX6_when_30 : decode cX6_when 30 = .ok (.iload_n 1, 1) := by decide +kernel
theorem dX6_when_31 : decode cX6_when 31 = .ok (.iload_n 2, 1) := by decide +kernel
theorem dX6_when_32 : decode cX6_when 32 = .ok (.iload_n 3, 1) := by decide +kernel
theorem dX6_when_33 : decode cX6_when 33 = .ok (.invokevirtual 197, 3) := by decide +kernel
theorem dX6_when_36 : decode cX6_when 36 = .ok (.ifCond .ne 13, 3) := by decide +kernel
theorem dX6_when_39 : decode cX6_when 39 = .ok (.aload_n 0, 1) := by decide +kernel
theorem dX6_when_40 : decode cX6_when 40 = .ok (.invokevirtual 156, 3) := by decide +kernel
theorem dX6_when_43 : decode cX6_when 43 = .ok (.iinc 4 1, 3) := by decide +kernel
theorem dX6_when_46 : decode cX6_when 46 = .ok (.goto (-24), 3) := by decide +kernel
theorem dX6_when_49 : decode cX6_when 49 = .ok (.aload_n 0, 1) := by decide +kernel
theorem dX6_when_50 : decode cX6_when 50 = .ok (.invokevirtual 194, 3) := by decide +kernel
theorem dX6_when_53 : decode cX6_when 53 = .ok (.aload_n 0, 1) := by decide +kernel
theorem dX6_when_54 : decode cX6_when 54 = .ok (.iload 4, 2) := by decide +kernel
theorem dX6_when_56 : decode cX6_when 56 = .ok (.bipush 100, 2) := by decide +kernel
theorem dX6_when_58 : decode cX6_when 58 = .ok (.invokevirtual 200, 3) := by decide +kernel
theorem dX6_when_61 : decode cX6_when 61 = .ok (.ireturn, 1) := by decide +kernel
theorem dX6_leavesAll_0 : decode cX6_leavesAll 0 = .ok (.iconst 0, 1) := by decide +kernel
theorem dX6_leavesAll_1 : decode cX6_leavesAll 1 = .ok (.istore_n 1, 1) := by decide +kernel
theorem dX6_leavesAll_2 : decode cX6_leavesAll 2 = .ok (.iload_n 1, 1) := by decide +kernel
theorem dX6_leavesAll_3 : decode cX6_leavesAll 3 = .ok (.bipush 25, 2) := by decide +kernel
theorem dX6_leavesAll_5 : decode cX6_leavesAll 5 = .ok (.if_icmp .ge 23, 3) := by decide +kernel
theorem dX6_leavesAll_8 : decode cX6_leavesAll 8 = .ok (.aload_n 0, 1) := by decide +kernel
theorem dX6_leavesAll_9 : decode cX6_leavesAll 9 = .ok (.getfield 25, 3) := by decide +kernel
theorem dX6_leavesAll_12 : decode cX6_leavesAll 12 = .ok (.iload_n 1, 1) := by decide +kernel
theorem dX6_leavesAll_13 : decode cX6_leavesAll 13 = .ok (.aload_n 0, 1) := by decide +kernel
theorem dX6_leavesAll_14 : decode cX6_leavesAll 14 = .ok (.getfield 9, 3) := by decide +kernel
theorem dX6_leavesAll_17 : decode cX6_leavesAll 17 = .ok (.iconst 4, 1) := by decide +kernel
theorem dX6_leavesAll_18 : decode cX6_leavesAll 18 = .ok (.iload_n 1, 1) := by decide +kernel
theorem dX6_leavesAll_19 : decode cX6_leavesAll 19 = .ok (.iadd, 1) := by decide +kernel
theorem dX6_leavesAll_20 : decode cX6_leavesAll 20 = .ok (.iaload, 1) := by decide +kernel
theorem dX6_leavesAll_21 : decode cX6_leavesAll 21 = .ok (.iastore, 1) := by decide +kernel
theorem dX6_leavesAll_22 : decode cX6_leavesAll 22 = .ok (.iinc 1 1, 3) := by decide +kernel
theorem dX6_leavesAll_25 : decode cX6_leavesAll 25 = .ok (.goto (-23), 3) := by decide +kernel
theorem dX6_leavesAll_28 : decode cX6_leavesAll 28 = .ok (.aload_n 0, 1) := by decide +kernel
theorem dX6_leavesAll_29 : decode cX6_leavesAll 29 = .ok (.invokevirtual 156, 3) := by decide +kernel
theorem dX6_leavesAll_32 : decode cX6_leavesAll 32 = .ok (.iconst 1, 1) := by decide +kernel
theorem dX6_leavesAll_33 : decode cX6_leavesAll 33 = .ok (.istore_n 1, 1) := by decide +kernel
theorem dX6_leavesAll_34 : decode cX6_leavesAll 34 = .ok (.iconst 0, 1) := by decide +kernel
theorem dX6_leavesAll_35 : decode cX6_leavesAll 35 = .ok (.istore_n 2, 1) := by decide +kernel
theorem dX6_leavesAll_36 : decode cX6_leavesAll 36 = .ok (.iload_n 2, 1) := by decide +kernel
theorem dX6_leavesAll_37 : decode cX6_leavesAll 37 = .ok (.bipush 25, 2) := by decide +kernel
theorem dX6_leavesAll_39 : decode cX6_leavesAll 39 = .ok (.if_icmp .ge 36, 3) := by decide +kernel
theorem dX6_leavesAll_42 : decode cX6_leavesAll 42 = .ok (.iload_n 1, 1) := by decide +kernel
theorem dX6_leavesAll_43 : decode cX6_leavesAll 43 = .ok (.ifCond .eq 24, 3) := by decide +kernel
theorem dX6_leavesAll_46 : decode cX6_leavesAll 46 = .ok (.aload_n 0, 1) := by decide +kernel
theorem dX6_leavesAll_47 : decode cX6_leavesAll 47 = .ok (.getfield 25, 3) := by decide +kernel
theorem dX6_leavesAll_50 : decode cX6_leavesAll 50 = .ok (.iload_n 2, 1) := by decide +kernel
theorem dX6_leavesAll_51 : decode cX6_leavesAll 51 = .ok (.iaload, 1) := by decide +kernel
theorem dX6_leavesAll_52 : decode cX6_leavesAll 52 = .ok (.aload_n 0, 1) := by decide +kernel
theorem dX6_leavesAll_53 : decode cX6_leavesAll 53 = .ok (.getfield 9, 3) := by decide +kernel
theorem dX6_leavesAll_56 : decode cX6_leavesAll 56 = .ok (.iconst 4, 1) := by decide +kernel
theorem dX6_leavesAll_57 : decode cX6_leavesAll 57 = .ok (.iload_n 2, 1) := by decide +kernel
theorem dX6_leavesAll_58 : decode cX6_leavesAll 58 = .ok (.iadd, 1) := by decide +kernel
theorem dX6_leavesAll_59 : decode cX6_leavesAll 59 = .ok (.iaload, 1) := by decide +kernel
theorem dX6_leavesAll_60 : decode cX6_leavesAll 60 = .ok (.if_icmp .ne 7, 3) := by decide +kernel
theorem dX6_leavesAll_63 : decode cX6_leavesAll 63 = .ok (.iconst 1, 1) := by decide +kernel
theorem dX6_leavesAll_64 : decode cX6_leavesAll 64 = .ok (.goto 4, 3) := by decide +kernel
theorem dX6_leavesAll_67 : decode cX6_leavesAll 67 = .ok (.iconst 0, 1) := by decide +kernel
theorem dX6_leavesAll_68 : decode cX6_leavesAll 68 = .ok (.istore_n 1, 1) := by decide +kernel
theorem dX6_leavesAll_69 : decode cX6_leavesAll 69 = .ok (.iinc 2 1, 3) := by decide +kernel
theorem dX6_leavesAll_72 : decode cX6_leavesAll 72 = .ok (.goto (-36), 3) := by decide +kernel
theorem dX6_leavesAll_75 : decode cX6_leavesAll 75 = .ok (.iload_n 1, 1) := by decide +kernel
theorem dX6_leavesAll_76 : decode cX6_leavesAll 76 = .ok (.ireturn, 1) := by decide +kernel
theorem dX6_settles_0 : decode cX6_settles 0 = .ok (.aload_n 0, 1) := by decide +kernel
theorem dX6_settles_1 : decode cX6_settles 1 = .ok (.invokevirtual 191, 3) := by decide +kernel
theorem dX6_settles_4 : decode cX6_settles 4 = .ok (.iconst 0, 1) := by decide +kernel
theorem dX6_settles_5 : decode cX6_settles 5 = .ok (.istore_n 1, 1) := by decide +kernel
theorem dX6_settles_6 : decode cX6_settles 6 = .ok (.iload_n 1, 1) := by decide +kernel
theorem dX6_settles_7 : decode cX6_settles 7 = .ok (.bipush 100, 2) := by decide +kernel
theorem dX6_settles_9 : decode cX6_settles 9 = .ok (.if_icmp .gt 16, 3) := by decide +kernel
theorem dX6_settles_12 : decode cX6_settles 12 = .ok (.aload_n 0, 1) := by decide +kernel
theorem dX6_settles_13 : decode cX6_settles 13 = .ok (.invokevirtual 203, 3) := by decide +kernel
theorem dX6_settles_16 : decode cX6_settles 16 = .ok (.ifCond .ne 9, 3) := by decide +kernel
theorem dX6_settles_19 : decode cX6_settles 19 = .ok (.iinc 1 1, 3) := by decide +kernel
theorem dX6_settles_22 : decode cX6_settles 22 = .ok (.goto (-16), 3) := by decide +kernel
theorem dX6_settles_25 : decode cX6_settles 25 = .ok (.aload_n 0, 1) := by decide +kernel
theorem dX6_settles_26 : decode cX6_settles 26 = .ok (.invokevirtual 194, 3) := by decide +kernel
theorem dX6_settles_29 : decode cX6_settles 29 = .ok (.aload_n 0, 1) := by decide +kernel
theorem dX6_settles_30 : decode cX6_settles 30 = .ok (.iload_n 1, 1) := by decide +kernel
theorem dX6_settles_31 : decode cX6_settles 31 = .ok (.bipush 100, 2) := by decide +kernel
theorem dX6_settles_33 : decode cX6_settles 33 = .ok (.invokevirtual 200, 3) := by decide +kernel
theorem dX6_settles_36 : decode cX6_settles 36 = .ok (.ireturn, 1) := by decide +kernel
theorem dX6_isLying_0 : decode cX6_isLying 0 = .ok (.iconst 1, 1) := by decide +kernel
theorem dX6_isLying_1 : decode cX6_isLying 1 = .ok (.istore_n 3, 1) := by decide +kernel
theorem dX6_isLying_2 : decode cX6_isLying 2 = .ok (.iconst 0, 1) := by decide +kernel
theorem dX6_isLying_3 : decode cX6_isLying 3 = .ok (.istore 4, 2) := by decide +kernel
theorem dX6_isLying_5 : decode cX6_isLying 5 = .ok (.iload 4, 2) := by decide +kernel
theorem dX6_isLying_7 : decode cX6_isLying 7 = .ok (.iconst 4, 1) := by decide +kernel
theorem dX6_isLying_8 : decode cX6_isLying 8 = .ok (.if_icmp .ge 63, 3) := by decide +kernel
theorem dX6_isLying_11 : decode cX6_isLying 11 = .ok (.aload_n 0, 1) := by decide +kernel
theorem dX6_isLying_12 : decode cX6_isLying 12 = .ok (.iload_n 1, 1) := by decide +kernel
theorem dX6_isLying_13 : decode cX6_isLying 13 = .ok (.iconst 4, 1) := by decide +kernel
theorem dX6_isLying_14 : decode cX6_isLying 14 = .ok (.iload 4, 2) := by decide +kernel
theorem dX6_isLying_16 : decode cX6_isLying 16 = .ok (.iadd, 1) := by decide +kernel
theorem dX6_isLying_17 : decode cX6_isLying 17 = .ok (.invokevirtual 76, 3) := by decide +kernel
theorem dX6_isLying_20 : decode cX6_isLying 20 = .ok (.istore 5, 2) := by decide +kernel
theorem dX6_isLying_22 : decode cX6_isLying 22 = .ok (.iload_n 3, 1) := by decide +kernel
theorem dX6_isLying_23 : decode cX6_isLying 23 = .ok (.ifCond .eq 40, 3) := by decide +kernel
theorem dX6_isLying_26 : decode cX6_isLying 26 = .ok (.iload 5, 2) := by decide +kernel
theorem dX6_isLying_28 : decode cX6_isLying 28 = .ok (.ifCond .lt 31, 3) := by decide +kernel
theorem dX6_isLying_31 : decode cX6_isLying 31 = .ok (.iload 5, 2) := by decide +kernel
theorem dX6_isLying_33 : decode cX6_isLying 33 = .ok (.aload_n 0, 1) := by decide +kernel
theorem dX6_isLying_34 : decode cX6_isLying 34 = .ok (.getfield 9, 3) := by decide +kernel
theorem dX6_isLying_37 : decode cX6_isLying 37 = .ok (.iconst 4, 1) := by decide +kernel
theorem dX6_isLying_38 : decode cX6_isLying 38 = .ok (.aload_n 0, 1) := by decide +kernel
theorem dX6_isLying_39 : decode cX6_isLying 39 = .ok (.iload_n 1, 1) := by decide +kernel
theorem dX6_isLying_40 : decode cX6_isLying 40 = .ok (.iconst 1, 1) := by decide +kernel
theorem dX6_isLying_41 : decode cX6_isLying 41 = .ok (.invokevirtual 76, 3) := by decide +kernel
theorem dX6_isLying_44 : decode cX6_isLying 44 = .ok (.iload 4, 2) := by decide +kernel
theorem dX6_isLying_46 : decode cX6_isLying 46 = .ok (.invokestatic 103, 3) := by decide +kernel
theorem dX6_isLying_49 : decode cX6_isLying 49 = .ok (.iadd, 1) := by decide +kernel
theorem dX6_isLying_50 : decode cX6_isLying 50 = .ok (.iaload, 1) := by decide +kernel
theorem dX6_isLying_51 : decode cX6_isLying 51 = .ok (.isub, 1) := by decide +kernel
theorem dX6_isLying_52 : decode cX6_isLying 52 = .ok (.invokestatic 67, 3) := by decide +kernel
theorem dX6_isLying_55 : decode cX6_isLying 55 = .ok (.iload_n 2, 1) := by decide +kernel
theorem dX6_isLying_56 : decode cX6_isLying 56 = .ok (.if_icmp .gt 7, 3) := by decide +kernel
theorem dX6_isLying_59 : decode cX6_isLying 59 = .ok (.iconst 1, 1) := by decide +kernel
theorem dX6_isLying_60 : decode cX6_isLying 60 = .ok (.goto 4, 3) := by decide +kernel
theorem dX6_isLying_63 : decode cX6_isLying 63 = .ok (.iconst 0, 1) := by decide +kernel
theorem dX6_isLying_64 : decode cX6_isLying 64 = .ok (.istore_n 3, 1) := by decide +kernel
theorem dX6_isLying_65 : decode cX6_isLying 65 = .ok (.iinc 4 1, 3) := by decide +kernel
theorem dX6_isLying_68 : decode cX6_isLying 68 = .ok (.goto (-63), 3) := by decide +kernel
theorem dX6_isLying_71 : decode cX6_isLying 71 = .ok (.iload_n 3, 1) := by decide +kernel
theorem dX6_isLying_72 : decode cX6_isLying 72 = .ok (.ireturn, 1) := by decide +kernel
theorem dX6_lies_0 : decode cX6_lies 0 = .ok (.aload_n 0, 1) := by decide +kernel
theorem dX6_lies_1 : decode cX6_lies 1 = .ok (.iload_n 1, 1) := by decide +kernel
theorem dX6_lies_2 : decode cX6_lies 2 = .ok (.invokevirtual 127, 3) := by decide +kernel
theorem dX6_lies_5 : decode cX6_lies 5 = .ok (.ifCond .eq 10, 3) := by decide +kernel
theorem dX6_lies_8 : decode cX6_lies 8 = .ok (.iload_n 2, 1) := by decide +kernel
theorem dX6_lies_9 : decode cX6_lies 9 = .ok (.invokestatic 87, 3) := by decide +kernel
theorem dX6_lies_12 : decode cX6_lies 12 = .ok (.ifCond .ne 9, 3) := by decide +kernel
theorem dX6_lies_15 : decode cX6_lies 15 = .ok (.aload_n 0, 1) := by decide +kernel
theorem dX6_lies_16 : decode cX6_lies 16 = .ok (.iconst 0, 1) := by decide +kernel
theorem dX6_lies_17 : decode cX6_lies 17 = .ok (.invokevirtual 93, 3) := by decide +kernel
theorem dX6_lies_20 : decode cX6_lies 20 = .ok (.ireturn, 1) := by decide +kernel
theorem dX6_lies_21 : decode cX6_lies 21 = .ok (.aload_n 0, 1) := by decide +kernel
theorem dX6_lies_22 : decode cX6_lies 22 = .ok (.iload_n 1, 1) := by decide +kernel
theorem dX6_lies_23 : decode cX6_lies 23 = .ok (.iconst 1, 1) := by decide +kernel
theorem dX6_lies_24 : decode cX6_lies 24 = .ok (.invokevirtual 76, 3) := by decide +kernel
theorem dX6_lies_27 : decode cX6_lies 27 = .ok (.ifCond .ge 9, 3) := by decide +kernel
theorem dX6_lies_30 : decode cX6_lies 30 = .ok (.aload_n 0, 1) := by decide +kernel
theorem dX6_lies_31 : decode cX6_lies 31 = .ok (.iconst 4, 1) := by decide +kernel
theorem dX6_lies_32 : decode cX6_lies 32 = .ok (.invokevirtual 93, 3) := by decide +kernel
theorem dX6_lies_35 : decode cX6_lies 35 = .ok (.ireturn, 1) := by decide +kernel
theorem dX6_lies_36 : decode cX6_lies 36 = .ok (.aload_n 0, 1) := by decide +kernel
theorem dX6_lies_37 : decode cX6_lies 37 = .ok (.invokevirtual 191, 3) := by decide +kernel
theorem dX6_lies_40 : decode cX6_lies 40 = .ok (.iconst 0, 1) := by decide +kernel
theorem dX6_lies_41 : decode cX6_lies 41 = .ok (.istore_n 3, 1) := by decide +kernel
theorem dX6_lies_42 : decode cX6_lies 42 = .ok (.iload_n 3, 1) := by decide +kernel
theorem dX6_lies_43 : decode cX6_lies 43 = .ok (.bipush 100, 2) := by decide +kernel
theorem dX6_lies_45 : decode cX6_lies 45 = .ok (.if_icmp .gt 22, 3) := by decide +kernel
theorem dX6_lies_48 : decode cX6_lies 48 = .ok (.aload_n 0, 1) := by decide +kernel
theorem dX6_lies_49 : decode cX6_lies 49 = .ok (.iload_n 1, 1) := by decide +kernel
theorem dX6_lies_50 : decode cX6_lies 50 = .ok (.iload_n 2, 1) := by decide +kernel
theorem dX6_lies_51 : decode cX6_lies 51 = .ok (.invokevirtual 207, 3) := by decide +kernel
theorem dX6_lies_54 : decode cX6_lies 54 = .ok (.ifCond .ne 13, 3) := by decide +kernel
theorem dX6_lies_57 : decode cX6_lies 57 = .ok (.aload_n 0, 1) := by decide +kernel
theorem dX6_lies_58 : decode cX6_lies 58 = .ok (.invokevirtual 156, 3) := by decide +kernel
theorem dX6_lies_61 : decode cX6_lies 61 = .ok (.iinc 3 1, 3) := by decide +kernel
theorem dX6_lies_64 : decode cX6_lies 64 = .ok (.goto (-22), 3) := by decide +kernel
theorem dX6_lies_67 : decode cX6_lies 67 = .ok (.aload_n 0, 1) := by decide +kernel
theorem dX6_lies_68 : decode cX6_lies 68 = .ok (.invokevirtual 194, 3) := by decide +kernel
theorem dX6_lies_71 : decode cX6_lies 71 = .ok (.aload_n 0, 1) := by decide +kernel
theorem dX6_lies_72 : decode cX6_lies 72 = .ok (.iload_n 3, 1) := by decide +kernel
theorem dX6_lies_73 : decode cX6_lies 73 = .ok (.bipush 100, 2) := by decide +kernel
theorem dX6_lies_75 : decode cX6_lies 75 = .ok (.invokevirtual 200, 3) := by decide +kernel
theorem dX6_lies_78 : decode cX6_lies 78 = .ok (.ireturn, 1) := by decide +kernel
theorem dX6_unlikeBy_0 : decode cX6_unlikeBy 0 = .ok (.iconst 0, 1) := by decide +kernel
theorem dX6_unlikeBy_1 : decode cX6_unlikeBy 1 = .ok (.istore_n 3, 1) := by decide +kernel
theorem dX6_unlikeBy_2 : decode cX6_unlikeBy 2 = .ok (.iconst 0, 1) := by decide +kernel
theorem dX6_unlikeBy_3 : decode cX6_unlikeBy 3 = .ok (.istore 4, 2) := by decide +kernel
theorem dX6_unlikeBy_5 : decode cX6_unlikeBy 5 = .ok (.iload 4, 2) := by decide +kernel
theorem dX6_unlikeBy_7 : decode cX6_unlikeBy 7 = .ok (.iconst 4, 1) := by decide +kernel
theorem dX6_unlikeBy_8 : decode cX6_unlikeBy 8 = .ok (.if_icmp .ge 51, 3) := by decide +kernel
theorem dX6_unlikeBy_11 : decode cX6_unlikeBy 11 = .ok (.aload_n 0, 1) := by decide +kernel
theorem dX6_unlikeBy_12 : decode cX6_unlikeBy 12 = .ok (.iload_n 1, 1) := by decide +kernel
theorem dX6_unlikeBy_13 : decode cX6_unlikeBy 13 = .ok (.iconst 4, 1) := by decide +kernel
theorem dX6_unlikeBy_14 : decode cX6_unlikeBy 14 = .ok (.iload 4, 2) := by decide +kernel
theorem dX6_unlikeBy_16 : decode cX6_unlikeBy 16 = .ok (.iadd, 1) := by decide +kernel
theorem dX6_unlikeBy_17 : decode cX6_unlikeBy 17 = .ok (.invokevirtual 76, 3) := by decide +kernel
theorem dX6_unlikeBy_20 : decode cX6_unlikeBy 20 = .ok (.istore 5, 2) := by decide +kernel
theorem dX6_unlikeBy_22 : decode cX6_unlikeBy 22 = .ok (.iload_n 3, 1) := by decide +kernel
theorem dX6_unlikeBy_23 : decode cX6_unlikeBy 23 = .ok (.iload 5, 2) := by decide +kernel
theorem dX6_unlikeBy_25 : decode cX6_unlikeBy 25 = .ok (.ifCond .ge 7, 3) := by decide +kernel
theorem dX6_unlikeBy_28 : decode cX6_unlikeBy 28 = .ok (.iconst 0, 1) := by decide +kernel
theorem dX6_unlikeBy_29 : decode cX6_unlikeBy 29 = .ok (.goto 22, 3) := by decide +kernel
theorem dX6_unlikeBy_32 : decode cX6_unlikeBy 32 = .ok (.iload 5, 2) := by decide +kernel
theorem dX6_unlikeBy_34 : decode cX6_unlikeBy 34 = .ok (.aload_n 0, 1) := by decide +kernel
theorem dX6_unlikeBy_35 : decode cX6_unlikeBy 35 = .ok (.getfield 9, 3) := by decide +kernel
theorem dX6_unlikeBy_38 : decode cX6_unlikeBy 38 = .ok (.iconst 4, 1) := by decide +kernel
theorem dX6_unlikeBy_39 : decode cX6_unlikeBy 39 = .ok (.iload_n 2, 1) := by decide +kernel
theorem dX6_unlikeBy_40 : decode cX6_unlikeBy 40 = .ok (.iload 4, 2) := by decide +kernel
theorem dX6_unlikeBy_42 : decode cX6_unlikeBy 42 = .ok (.invokestatic 103, 3) := by decide +kernel
theorem dX6_unlikeBy_45 : decode cX6_unlikeBy 45 = .ok (.iadd, 1) := by decide +kernel
theorem dX6_unlikeBy_46 : decode cX6_unlikeBy 46 = .ok (.iaload, 1) := by decide +kernel
theorem dX6_unlikeBy_47 : decode cX6_unlikeBy 47 = .ok (.isub, 1) := by decide +kernel
theorem dX6_unlikeBy_48 : decode cX6_unlikeBy 48 = .ok (.invokestatic 67, 3) := by decide +kernel
theorem dX6_unlikeBy_51 : decode cX6_unlikeBy 51 = .ok (.iadd, 1) := by decide +kernel
theorem dX6_unlikeBy_52 : decode cX6_unlikeBy 52 = .ok (.istore_n 3, 1) := by decide +kernel
theorem dX6_unlikeBy_53 : decode cX6_unlikeBy 53 = .ok (.iinc 4 1, 3) := by decide +kernel
theorem dX6_unlikeBy_56 : decode cX6_unlikeBy 56 = .ok (.goto (-51), 3) := by decide +kernel
theorem dX6_unlikeBy_59 : decode cX6_unlikeBy 59 = .ok (.iload_n 3, 1) := by decide +kernel
theorem dX6_unlikeBy_60 : decode cX6_unlikeBy 60 = .ok (.ireturn, 1) := by decide +kernel
theorem dX6_unlike_0 : decode cX6_unlike 0 = .ok (.aload_n 0, 1) := by decide +kernel
theorem dX6_unlike_1 : decode cX6_unlike 1 = .ok (.iload_n 1, 1) := by decide +kernel
theorem dX6_unlike_2 : decode cX6_unlike 2 = .ok (.invokevirtual 127, 3) := by decide +kernel
theorem dX6_unlike_5 : decode cX6_unlike 5 = .ok (.ifCond .eq 19, 3) := by decide +kernel
theorem dX6_unlike_8 : decode cX6_unlike 8 = .ok (.iload_n 2, 1) := by decide +kernel
theorem dX6_unlike_9 : decode cX6_unlike 9 = .ok (.invokestatic 210, 3) := by decide +kernel
theorem dX6_unlike_12 : decode cX6_unlike 12 = .ok (.ifCond .eq 12, 3) := by decide +kernel
theorem dX6_unlike_15 : decode cX6_unlike 15 = .ok (.aload_n 0, 1) := by decide +kernel
theorem dX6_unlike_16 : decode cX6_unlike 16 = .ok (.iload_n 1, 1) := by decide +kernel
theorem dX6_unlike_17 : decode cX6_unlike 17 = .ok (.iload_n 2, 1) := by decide +kernel
theorem dX6_unlike_18 : decode cX6_unlike 18 = .ok (.invokevirtual 213, 3) := by decide +kernel
theorem dX6_unlike_21 : decode cX6_unlike 21 = .ok (.goto 8, 3) := by decide +kernel
theorem dX6_unlike_24 : decode cX6_unlike 24 = .ok (.aload_n 0, 1) := by decide +kernel
theorem dX6_unlike_25 : decode cX6_unlike 25 = .ok (.iconst 0, 1) := by decide +kernel
theorem dX6_unlike_26 : decode cX6_unlike 26 = .ok (.invokevirtual 93, 3) := by decide +kernel
theorem dX6_unlike_29 : decode cX6_unlike 29 = .ok (.ireturn, 1) := by decide +kernel
theorem dX6_home_0 : decode cX6_home 0 = .ok (.aload_n 0, 1) := by decide +kernel
theorem dX6_home_1 : decode cX6_home 1 = .ok (.iload_n 1, 1) := by decide +kernel
theorem dX6_home_2 : decode cX6_home 2 = .ok (.invokevirtual 127, 3) := by decide +kernel
theorem dX6_home_5 : decode cX6_home 5 = .ok (.ifCond .ne 9, 3) := by decide +kernel
theorem dX6_home_8 : decode cX6_home 8 = .ok (.aload_n 0, 1) := by decide +kernel
theorem dX6_home_9 : decode cX6_home 9 = .ok (.iconst 0, 1) := by decide +kernel
theorem dX6_home_10 : decode cX6_home 10 = .ok (.invokevirtual 93, 3) := by decide +kernel
theorem dX6_home_13 : decode cX6_home 13 = .ok (.ireturn, 1) := by decide +kernel
theorem dX6_home_14 : decode cX6_home 14 = .ok (.iconst 0, 1) := by decide +kernel
theorem dX6_home_15 : decode cX6_home 15 = .ok (.istore_n 2, 1) := by decide +kernel
theorem dX6_home_16 : decode cX6_home 16 = .ok (.iconst 1, 1) := by decide +kernel
theorem dX6_home_17 : decode cX6_home 17 = .ok (.istore_n 3, 1) := by decide +kernel
theorem dX6_home_18 : decode cX6_home 18 = .ok (.iload_n 3, 1) := by decide +kernel
theorem dX6_home_19 : decode cX6_home 19 = .ok (.bipush 16, 2) := by decide +kernel
theorem dX6_home_21 : decode cX6_home 21 = .ok (.if_icmp .ge 30, 3) := by decide +kernel
theorem dX6_home_24 : decode cX6_home 24 = .ok (.aload_n 0, 1) := by decide +kernel
theorem dX6_home_25 : decode cX6_home 25 = .ok (.iload_n 1, 1) := by decide +kernel
theorem dX6_home_26 : decode cX6_home 26 = .ok (.iload_n 3, 1) := by decide +kernel
theorem dX6_home_27 : decode cX6_home 27 = .ok (.invokevirtual 213, 3) := by decide +kernel
theorem dX6_home_30 : decode cX6_home 30 = .ok (.aload_n 0, 1) := by decide +kernel
theorem dX6_home_31 : decode cX6_home 31 = .ok (.iload_n 1, 1) := by decide +kernel
theorem dX6_home_32 : decode cX6_home 32 = .ok (.iload_n 2, 1) := by decide +kernel
theorem dX6_home_33 : decode cX6_home 33 = .ok (.invokevirtual 213, 3) := by decide +kernel
theorem dX6_home_36 : decode cX6_home 36 = .ok (.if_icmp .ge 7, 3) := by decide +kernel
theorem dX6_home_39 : decode cX6_home 39 = .ok (.iload_n 3, 1) := by decide +kernel
theorem dX6_home_40 : decode cX6_home 40 = .ok (.goto 4, 3) := by decide +kernel
theorem dX6_home_43 : decode cX6_home 43 = .ok (.iload_n 2, 1) := by decide +kernel
theorem dX6_home_44 : decode cX6_home 44 = .ok (.istore_n 2, 1) := by decide +kernel
theorem dX6_home_45 : decode cX6_home 45 = .ok (.iinc 3 1, 3) := by decide +kernel
theorem dX6_home_48 : decode cX6_home 48 = .ok (.goto (-30), 3) := by decide +kernel
theorem dX6_home_51 : decode cX6_home 51 = .ok (.iload_n 2, 1) := by decide +kernel
theorem dX6_home_52 : decode cX6_home 52 = .ok (.ireturn, 1) := by decide +kernel
theorem dX6_pitchFor_0 : decode cX6_pitchFor 0 = .ok (.aload_n 0, 1) := by decide +kernel
theorem dX6_pitchFor_1 : decode cX6_pitchFor 1 = .ok (.iload_n 1, 1) := by decide +kernel
theorem dX6_pitchFor_2 : decode cX6_pitchFor 2 = .ok (.invokevirtual 127, 3) := by decide +kernel
theorem dX6_pitchFor_5 : decode cX6_pitchFor 5 = .ok (.ifCond .eq 13, 3) := by decide +kernel
theorem dX6_pitchFor_8 : decode cX6_pitchFor 8 = .ok (.iload_n 2, 1) := by decide +kernel
theorem dX6_pitchFor_9 : decode cX6_pitchFor 9 = .ok (.iload_n 3, 1) := by decide +kernel
theorem dX6_pitchFor_10 : decode cX6_pitchFor 10 = .ok (.iload 4, 2) := by decide +kernel
theorem dX6_pitchFor_12 : decode cX6_pitchFor 12 = .ok (.invokestatic 183, 3) := by decide +kernel
theorem dX6_pitchFor_15 : decode cX6_pitchFor 15 = .ok (.ifCond .ne 9, 3) := by decide +kernel
theorem dX6_pitchFor_18 : decode cX6_pitchFor 18 = .ok (.aload_n 0, 1) := by decide +kernel
theorem dX6_pitchFor_19 : decode cX6_pitchFor 19 = .ok (.iconst 0, 1) := by decide +kernel
theorem dX6_pitchFor_20 : decode cX6_pitchFor 20 = .ok (.invokevirtual 93, 3) := by decide +kernel
theorem dX6_pitchFor_23 : decode cX6_pitchFor 23 = .ok (.ireturn, 1) := by decide +kernel
theorem dX6_pitchFor_24 : decode cX6_pitchFor 24 = .ok (.iconst (-1), 1) := by decide +kernel
theorem dX6_pitchFor_25 : decode cX6_pitchFor 25 = .ok (.istore 5, 2) := by decide +kernel
theorem dX6_pitchFor_27 : decode cX6_pitchFor 27 = .ok (.bipush 15, 2) := by decide +kernel
theorem dX6_pitchFor_29 : decode cX6_pitchFor 29 = .ok (.istore 6, 2) := by decide +kernel
theorem dX6_pitchFor_31 : decode cX6_pitchFor 31 = .ok (.iload 6, 2) := by decide +kernel
theorem dX6_pitchFor_33 : decode cX6_pitchFor 33 = .ok (.ifCond .lt 49, 3) := by decide +kernel
theorem dX6_pitchFor_36 : decode cX6_pitchFor 36 = .ok (.aload_n 0, 1) := by decide +kernel
theorem dX6_pitchFor_37 : decode cX6_pitchFor 37 = .ok (.invokevirtual 191, 3) := by decide +kernel
theorem dX6_pitchFor_40 : decode cX6_pitchFor 40 = .ok (.aload_n 0, 1) := by decide +kernel
theorem dX6_pitchFor_41 : decode cX6_pitchFor 41 = .ok (.iload_n 1, 1) := by decide +kernel
theorem dX6_pitchFor_42 : decode cX6_pitchFor 42 = .ok (.iconst 1, 1) := by decide +kernel
theorem dX6_pitchFor_43 : decode cX6_pitchFor 43 = .ok (.iload 6, 2) := by decide +kernel
theorem dX6_pitchFor_45 : decode cX6_pitchFor 45 = .ok (.invokevirtual 79, 3) := by decide +kernel
theorem dX6_pitchFor_48 : decode cX6_pitchFor 48 = .ok (.aload_n 0, 1) := by decide +kernel
theorem dX6_pitchFor_49 : decode cX6_pitchFor 49 = .ok (.invokevirtual 156, 3) := by decide +kernel
theorem dX6_pitchFor_52 : decode cX6_pitchFor 52 = .ok (.aload_n 0, 1) := by decide +kernel
theorem dX6_pitchFor_53 : decode cX6_pitchFor 53 = .ok (.iload_n 2, 1) := by decide +kernel
theorem dX6_pitchFor_54 : decode cX6_pitchFor 54 = .ok (.iload_n 3, 1) := by decide +kernel
theorem dX6_pitchFor_55 : decode cX6_pitchFor 55 = .ok (.iload 4, 2) := by decide +kernel
theorem dX6_pitchFor_57 : decode cX6_pitchFor 57 = .ok (.invokevirtual 197, 3) := by decide +kernel
theorem dX6_pitchFor_60 : decode cX6_pitchFor 60 = .ok (.ifCond .eq 8, 3) := by decide +kernel
theorem dX6_pitchFor_63 : decode cX6_pitchFor 63 = .ok (.iload 6, 2) := by decide +kernel
theorem dX6_pitchFor_65 : decode cX6_pitchFor 65 = .ok (.goto 5, 3) := by decide +kernel
theorem dX6_pitchFor_68 : decode cX6_pitchFor 68 = .ok (.iload 5, 2) := by decide +kernel
theorem dX6_pitchFor_70 : decode cX6_pitchFor 70 = .ok (.istore 5, 2) := by decide +kernel
theorem dX6_pitchFor_72 : decode cX6_pitchFor 72 = .ok (.aload_n 0, 1) := by decide +kernel
theorem dX6_pitchFor_73 : decode cX6_pitchFor 73 = .ok (.invokevirtual 194, 3) := by decide +kernel
theorem dX6_pitchFor_76 : decode cX6_pitchFor 76 = .ok (.iinc 6 (-1), 3) := by decide +kernel
theorem dX6_pitchFor_79 : decode cX6_pitchFor 79 = .ok (.goto (-48), 3) := by decide +kernel
theorem dX6_pitchFor_82 : decode cX6_pitchFor 82 = .ok (.iload 5, 2) := by decide +kernel
theorem dX6_pitchFor_84 : decode cX6_pitchFor 84 = .ok (.ifCond .ge 11, 3) := by decide +kernel
theorem dX6_pitchFor_87 : decode cX6_pitchFor 87 = .ok (.aload_n 0, 1) := by decide +kernel
theorem dX6_pitchFor_88 : decode cX6_pitchFor 88 = .ok (.iconst 3, 1) := by decide +kernel
theorem dX6_pitchFor_89 : decode cX6_pitchFor 89 = .ok (.invokevirtual 93, 3) := by decide +kernel
theorem dX6_pitchFor_92 : decode cX6_pitchFor 92 = .ok (.goto 5, 3) := by decide +kernel
theorem dX6_pitchFor_95 : decode cX6_pitchFor 95 = .ok (.iload 5, 2) := by decide +kernel
theorem dX6_pitchFor_97 : decode cX6_pitchFor 97 = .ok (.ireturn, 1) := by decide +kernel
theorem dX6_kindFor_0 : decode cX6_kindFor 0 = .ok (.aload_n 0, 1) := by decide +kernel
theorem dX6_kindFor_1 : decode cX6_kindFor 1 = .ok (.iload_n 1, 1) := by decide +kernel
theorem dX6_kindFor_2 : decode cX6_kindFor 2 = .ok (.invokevirtual 127, 3) := by decide +kernel
theorem dX6_kindFor_5 : decode cX6_kindFor 5 = .ok (.ifCond .eq 15, 3) := by decide +kernel
theorem dX6_kindFor_8 : decode cX6_kindFor 8 = .ok (.iload_n 2, 1) := by decide +kernel
theorem dX6_kindFor_9 : decode cX6_kindFor 9 = .ok (.i2l, 1) := by decide +kernel
theorem dX6_kindFor_10 : decode cX6_kindFor 10 = .ok (.lconst 0, 1) := by decide +kernel
theorem dX6_kindFor_11 : decode cX6_kindFor 11 = .ok (.ldc2_w 159, 3) := by decide +kernel
theorem dX6_kindFor_14 : decode cX6_kindFor 14 = .ok (.invokestatic 48, 3) := by decide +kernel
theorem dX6_kindFor_17 : decode cX6_kindFor 17 = .ok (.ifCond .ne 9, 3) := by decide +kernel
theorem dX6_kindFor_20 : decode cX6_kindFor 20 = .ok (.aload_n 0, 1) := by decide +kernel
theorem dX6_kindFor_21 : decode cX6_kindFor 21 = .ok (.iconst 0, 1) := by decide +kernel
theorem dX6_kindFor_22 : decode cX6_kindFor 22 = .ok (.invokevirtual 93, 3) := by decide +kernel
theorem dX6_kindFor_25 : decode cX6_kindFor 25 = .ok (.ireturn, 1) := by decide +kernel
theorem dX6_kindFor_26 : decode cX6_kindFor 26 = .ok (.iconst (-1), 1) := by decide +kernel
theorem dX6_kindFor_27 : decode cX6_kindFor 27 = .ok (.istore_n 3, 1) := by decide +kernel
theorem dX6_kindFor_28 : decode cX6_kindFor 28 = .ok (.bipush 100, 2) := by decide +kernel
theorem dX6_kindFor_30 : decode cX6_kindFor 30 = .ok (.istore 4, 2) := by decide +kernel
theorem dX6_kindFor_32 : decode cX6_kindFor 32 = .ok (.iconst 0, 1) := by decide +kernel
theorem dX6_kindFor_33 : decode cX6_kindFor 33 = .ok (.istore 5, 2) := by decide +kernel
theorem dX6_kindFor_35 : decode cX6_kindFor 35 = .ok (.iload 5, 2) := by decide +kernel
theorem dX6_kindFor_37 : decode cX6_kindFor 37 = .ok (.bipush 6, 2) := by decide +kernel
theorem dX6_kindFor_39 : decode cX6_kindFor 39 = .ok (.if_icmp .gt 59, 3) := by decide +kernel
theorem dX6_kindFor_42 : decode cX6_kindFor 42 = .ok (.aload_n 0, 1) := by decide +kernel
theorem dX6_kindFor_43 : decode cX6_kindFor 43 = .ok (.invokevirtual 191, 3) := by decide +kernel
theorem dX6_kindFor_46 : decode cX6_kindFor 46 = .ok (.aload_n 0, 1) := by decide +kernel
theorem dX6_kindFor_47 : decode cX6_kindFor 47 = .ok (.iload_n 1, 1) := by decide +kernel
theorem dX6_kindFor_48 : decode cX6_kindFor 48 = .ok (.iconst 0, 1) := by decide +kernel
theorem dX6_kindFor_49 : decode cX6_kindFor 49 = .ok (.iload 5, 2) := by decide +kernel
theorem dX6_kindFor_51 : decode cX6_kindFor 51 = .ok (.invokevirtual 79, 3) := by decide +kernel
theorem dX6_kindFor_54 : decode cX6_kindFor 54 = .ok (.aload_n 0, 1) := by decide +kernel
theorem dX6_kindFor_55 : decode cX6_kindFor 55 = .ok (.iload_n 2, 1) := by decide +kernel
theorem dX6_kindFor_56 : decode cX6_kindFor 56 = .ok (.invokevirtual 162, 3) := by decide +kernel
theorem dX6_kindFor_59 : decode cX6_kindFor 59 = .ok (.aload_n 0, 1) := by decide +kernel
theorem dX6_kindFor_60 : decode cX6_kindFor 60 = .ok (.invokevirtual 176, 3) := by decide +kernel
theorem dX6_kindFor_63 : decode cX6_kindFor 63 = .ok (.istore 6, 2) := by decide +kernel
theorem dX6_kindFor_65 : decode cX6_kindFor 65 = .ok (.aload_n 0, 1) := by decide +kernel
theorem dX6_kindFor_66 : decode cX6_kindFor 66 = .ok (.invokevirtual 194, 3) := by decide +kernel
theorem dX6_kindFor_69 : decode cX6_kindFor 69 = .ok (.iload 6, 2) := by decide +kernel
theorem dX6_kindFor_71 : decode cX6_kindFor 71 = .ok (.iload 4, 2) := by decide +kernel
theorem dX6_kindFor_73 : decode cX6_kindFor 73 = .ok (.if_icmp .ge 8, 3) := by decide +kernel
theorem dX6_kindFor_76 : decode cX6_kindFor 76 = .ok (.iload 5, 2) := by decide +kernel
theorem dX6_kindFor_78 : decode cX6_kindFor 78 = .ok (.goto 4, 3) := by decide +kernel
theorem dX6_kindFor_81 : decode cX6_kindFor 81 = .ok (.iload_n 3, 1) := by decide +kernel
theorem dX6_kindFor_82 : decode cX6_kindFor 82 = .ok (.istore_n 3, 1) := by decide +kernel
theorem dX6_kindFor_83 : decode cX6_kindFor 83 = .ok (.iload 4, 2) := by decide +kernel
theorem dX6_kindFor_85 : decode cX6_kindFor 85 = .ok (.iload 6, 2) := by decide +kernel
theorem dX6_kindFor_87 : decode cX6_kindFor 87 = .ok (.invokestatic 58, 3) := by decide +kernel
theorem dX6_kindFor_90 : decode cX6_kindFor 90 = .ok (.istore 4, 2) := by decide +kernel
theorem dX6_kindFor_92 : decode cX6_kindFor 92 = .ok (.iinc 5 1, 3) := by decide +kernel
theorem dX6_kindFor_95 : decode cX6_kindFor 95 = .ok (.goto (-60), 3) := by decide +kernel
theorem dX6_kindFor_98 : decode cX6_kindFor 98 = .ok (.iload_n 3, 1) := by decide +kernel
theorem dX6_kindFor_99 : decode cX6_kindFor 99 = .ok (.ireturn, 1) := by decide +kernel
theorem dX6_alone_0 : decode cX6_alone 0 = .ok (.iconst 0, 1) := by decide +kernel
theorem dX6_alone_1 : decode cX6_alone 1 = .ok (.istore_n 3, 1) := by decide +kernel
theorem dX6_alone_2 : decode cX6_alone 2 = .ok (.iload_n 3, 1) := by decide +kernel
theorem dX6_alone_3 : decode cX6_alone 3 = .ok (.aload_n 0, 1) := by decide +kernel
theorem dX6_alone_4 : decode cX6_alone 4 = .ok (.getfield 9, 3) := by decide +kernel
theorem dX6_alone_7 : decode cX6_alone 7 = .ok (.iconst 2, 1) := by decide +kernel
theorem dX6_alone_8 : decode cX6_alone 8 = .ok (.iaload, 1) := by decide +kernel
theorem dX6_alone_9 : decode cX6_alone 9 = .ok (.if_icmp .ge 25, 3) := by decide +kernel
theorem dX6_alone_12 : decode cX6_alone 12 = .ok (.aload_n 0, 1) := by decide +kernel
theorem dX6_alone_13 : decode cX6_alone 13 = .ok (.iload_n 3, 1) := by decide +kernel
theorem dX6_alone_14 : decode cX6_alone 14 = .ok (.iconst 1, 1) := by decide +kernel
theorem dX6_alone_15 : decode cX6_alone 15 = .ok (.iload_n 3, 1) := by decide +kernel
theorem dX6_alone_16 : decode cX6_alone 16 = .ok (.iload_n 1, 1) := by decide +kernel
theorem dX6_alone_17 : decode cX6_alone 17 = .ok (.if_icmp .ne 7, 3) := by decide +kernel
theorem dX6_alone_20 : decode cX6_alone 20 = .ok (.iload_n 2, 1) := by decide +kernel
theorem dX6_alone_21 : decode cX6_alone 21 = .ok (.goto 4, 3) := by decide +kernel
theorem dX6_alone_24 : decode cX6_alone 24 = .ok (.iconst (-1), 1) := by decide +kernel
theorem dX6_alone_25 : decode cX6_alone 25 = .ok (.invokevirtual 79, 3) := by decide +kernel
theorem dX6_alone_28 : decode cX6_alone 28 = .ok (.iinc 3 1, 3) := by decide +kernel
theorem dX6_alone_31 : decode cX6_alone 31 = .ok (.goto (-29), 3) := by decide +kernel
theorem dX6_alone_34 : decode cX6_alone 34 = .ok (.aload_n 0, 1) := by decide +kernel
theorem dX6_alone_35 : decode cX6_alone 35 = .ok (.invokevirtual 156, 3) := by decide +kernel
theorem dX6_alone_38 : decode cX6_alone 38 = .ok (.return_, 1) := by decide +kernel
theorem dX6_heightsBy_0 : decode cX6_heightsBy 0 = .ok (.aload_n 0, 1) := by decide +kernel
theorem dX6_heightsBy_1 : decode cX6_heightsBy 1 = .ok (.invokevirtual 191, 3) := by decide +kernel
theorem dX6_heightsBy_4 : decode cX6_heightsBy 4 = .ok (.aload_n 0, 1) := by decide +kernel
theorem dX6_heightsBy_5 : decode cX6_heightsBy 5 = .ok (.iload_n 1, 1) := by decide +kernel
theorem dX6_heightsBy_6 : decode cX6_heightsBy 6 = .ok (.iload_n 3, 1) := by decide +kernel
theorem dX6_heightsBy_7 : decode cX6_heightsBy 7 = .ok (.invokevirtual 216, 3) := by decide +kernel
theorem dX6_heightsBy_10 : decode cX6_heightsBy 10 = .ok (.aload_n 0, 1) := by decide +kernel
theorem dX6_heightsBy_11 : decode cX6_heightsBy 11 = .ok (.iload_n 2, 1) := by decide +kernel
theorem dX6_heightsBy_12 : decode cX6_heightsBy 12 = .ok (.iload_n 3, 1) := by decide +kernel
theorem dX6_heightsBy_13 : decode cX6_heightsBy 13 = .ok (.invokevirtual 216, 3) := by decide +kernel
theorem dX6_heightsBy_16 : decode cX6_heightsBy 16 = .ok (.aload_n 0, 1) := by decide +kernel
theorem dX6_heightsBy_17 : decode cX6_heightsBy 17 = .ok (.invokevirtual 166, 3) := by decide +kernel
theorem dX6_heightsBy_20 : decode cX6_heightsBy 20 = .ok (.istore 4, 2) := by decide +kernel
theorem dX6_heightsBy_22 : decode cX6_heightsBy 22 = .ok (.aload_n 0, 1) := by decide +kernel
theorem dX6_heightsBy_23 : decode cX6_heightsBy 23 = .ok (.invokevirtual 194, 3) := by decide +kernel
theorem dX6_heightsBy_26 : decode cX6_heightsBy 26 = .ok (.iload 4, 2) := by decide +kernel
theorem dX6_heightsBy_28 : decode cX6_heightsBy 28 = .ok (.ireturn, 1) := by decide +kernel
theorem dX6_first_0 : decode cX6_first 0 = .ok (.aload_n 0, 1) := by decide +kernel
theorem dX6_first_1 : decode cX6_first 1 = .ok (.iload_n 1, 1) := by decide +kernel
theorem dX6_first_2 : decode cX6_first 2 = .ok (.invokevirtual 127, 3) := by decide +kernel
theorem dX6_first_5 : decode cX6_first 5 = .ok (.ifCond .eq 23, 3) := by decide +kernel
theorem dX6_first_8 : decode cX6_first 8 = .ok (.aload_n 0, 1) := by decide +kernel
theorem dX6_first_9 : decode cX6_first 9 = .ok (.iload_n 2, 1) := by decide +kernel
theorem dX6_first_10 : decode cX6_first 10 = .ok (.invokevirtual 127, 3) := by decide +kernel
theorem dX6_first_13 : decode cX6_first 13 = .ok (.ifCond .eq 15, 3) := by decide +kernel
theorem dX6_first_16 : decode cX6_first 16 = .ok (.iload_n 3, 1) := by decide +kernel
theorem dX6_first_17 : decode cX6_first 17 = .ok (.invokestatic 210, 3) := by decide +kernel
theorem dX6_first_20 : decode cX6_first 20 = .ok (.ifCond .eq 8, 3) := by decide +kernel
theorem dX6_first_23 : decode cX6_first 23 = .ok (.iload_n 1, 1) := by decide +kernel
theorem dX6_first_24 : decode cX6_first 24 = .ok (.iload_n 2, 1) := by decide +kernel
theorem dX6_first_25 : decode cX6_first 25 = .ok (.if_icmp .ne 9, 3) := by decide +kernel
theorem dX6_first_28 : decode cX6_first 28 = .ok (.aload_n 0, 1) := by decide +kernel
theorem dX6_first_29 : decode cX6_first 29 = .ok (.iconst 0, 1) := by decide +kernel
theorem dX6_first_30 : decode cX6_first 30 = .ok (.invokevirtual 93, 3) := by decide +kernel
theorem dX6_first_33 : decode cX6_first 33 = .ok (.ireturn, 1) := by decide +kernel
theorem dX6_first_34 : decode cX6_first 34 = .ok (.aload_n 0, 1) := by decide +kernel
theorem dX6_first_35 : decode cX6_first 35 = .ok (.iload_n 1, 1) := by decide +kernel
theorem dX6_first_36 : decode cX6_first 36 = .ok (.iload_n 2, 1) := by decide +kernel
theorem dX6_first_37 : decode cX6_first 37 = .ok (.iload_n 3, 1) := by decide +kernel
theorem dX6_first_38 : decode cX6_first 38 = .ok (.invokevirtual 219, 3) := by decide +kernel
theorem dX6_first_41 : decode cX6_first 41 = .ok (.aload_n 0, 1) := by decide +kernel
theorem dX6_first_42 : decode cX6_first 42 = .ok (.iload_n 2, 1) := by decide +kernel
theorem dX6_first_43 : decode cX6_first 43 = .ok (.iload_n 1, 1) := by decide +kernel
theorem dX6_first_44 : decode cX6_first 44 = .ok (.iload_n 3, 1) := by decide +kernel
theorem dX6_first_45 : decode cX6_first 45 = .ok (.invokevirtual 219, 3) := by decide +kernel
theorem dX6_first_48 : decode cX6_first 48 = .ok (.isub, 1) := by decide +kernel
theorem dX6_first_49 : decode cX6_first 49 = .ok (.ireturn, 1) := by decide +kernel
theorem dX6_isOut_0 : decode cX6_isOut 0 = .ok (.iconst 1, 1) := by decide +kernel
theorem dX6_isOut_1 : decode cX6_isOut 1 = .ok (.istore 4, 2) := by decide +kernel
theorem dX6_isOut_3 : decode cX6_isOut 3 = .ok (.iconst 0, 1) := by decide +kernel
theorem dX6_isOut_4 : decode cX6_isOut 4 = .ok (.istore 5, 2) := by decide +kernel
theorem dX6_isOut_6 : decode cX6_isOut 6 = .ok (.iload 5, 2) := by decide +kernel
theorem dX6_isOut_8 : decode cX6_isOut 8 = .ok (.iconst 4, 1) := by decide +kernel
theorem dX6_isOut_9 : decode cX6_isOut 9 = .ok (.if_icmp .ge 48, 3) := by decide +kernel
theorem dX6_isOut_12 : decode cX6_isOut 12 = .ok (.aload_n 0, 1) := by decide +kernel
theorem dX6_isOut_13 : decode cX6_isOut 13 = .ok (.iload_n 1, 1) := by decide +kernel
theorem dX6_isOut_14 : decode cX6_isOut 14 = .ok (.iconst 4, 1) := by decide +kernel
theorem dX6_isOut_15 : decode cX6_isOut 15 = .ok (.iload 5, 2) := by decide +kernel
theorem dX6_isOut_17 : decode cX6_isOut 17 = .ok (.iadd, 1) := by decide +kernel
theorem dX6_isOut_18 : decode cX6_isOut 18 = .ok (.invokevirtual 76, 3) := by decide +kernel
theorem dX6_isOut_21 : decode cX6_isOut 21 = .ok (.istore 6, 2) := by decide +kernel
theorem dX6_isOut_23 : decode cX6_isOut 23 = .ok (.iload 4, 2) := by decide +kernel
theorem dX6_isOut_25 : decode cX6_isOut 25 = .ok (.ifCond .eq 23, 3) := by decide +kernel
theorem dX6_isOut_28 : decode cX6_isOut 28 = .ok (.iload 6, 2) := by decide +kernel
theorem dX6_isOut_30 : decode cX6_isOut 30 = .ok (.ifCond .lt 18, 3) := by decide +kernel
theorem dX6_isOut_33 : decode cX6_isOut 33 = .ok (.iload 6, 2) := by decide +kernel
theorem dX6_isOut_35 : decode cX6_isOut 35 = .ok (.iload_n 2, 1) := by decide +kernel
theorem dX6_isOut_36 : decode cX6_isOut 36 = .ok (.isub, 1) := by decide +kernel
theorem dX6_isOut_37 : decode cX6_isOut 37 = .ok (.invokestatic 67, 3) := by decide +kernel
theorem dX6_isOut_40 : decode cX6_isOut 40 = .ok (.iload_n 3, 1) := by decide +kernel
theorem dX6_isOut_41 : decode cX6_isOut 41 = .ok (.if_icmp .gt 7, 3) := by decide +kernel
theorem dX6_isOut_44 : decode cX6_isOut 44 = .ok (.iconst 1, 1) := by decide +kernel
theorem dX6_isOut_45 : decode cX6_isOut 45 = .ok (.goto 4, 3) := by decide +kernel
theorem dX6_isOut_48 : decode cX6_isOut 48 = .ok (.iconst 0, 1) := by decide +kernel
theorem dX6_isOut_49 : decode cX6_isOut 49 = .ok (.istore 4, 2) := by decide +kernel
theorem dX6_isOut_51 : decode cX6_isOut 51 = .ok (.iinc 5 1, 3) := by decide +kernel
theorem dX6_isOut_54 : decode cX6_isOut 54 = .ok (.goto (-48), 3) := by decide +kernel
theorem dX6_isOut_57 : decode cX6_isOut 57 = .ok (.iload 4, 2) := by decide +kernel
theorem dX6_isOut_59 : decode cX6_isOut 59 = .ok (.ireturn, 1) := by decide +kernel
theorem dX6_out_0 : decode cX6_out 0 = .ok (.aload_n 0, 1) := by decide +kernel
theorem dX6_out_1 : decode cX6_out 1 = .ok (.iload_n 1, 1) := by decide +kernel
theorem dX6_out_2 : decode cX6_out 2 = .ok (.invokevirtual 127, 3) := by decide +kernel
theorem dX6_out_5 : decode cX6_out 5 = .ok (.ifCond .eq 25, 3) := by decide +kernel
theorem dX6_out_8 : decode cX6_out 8 = .ok (.iload_n 2, 1) := by decide +kernel
theorem dX6_out_9 : decode cX6_out 9 = .ok (.invokestatic 210, 3) := by decide +kernel
theorem dX6_out_12 : decode cX6_out 12 = .ok (.ifCond .eq 18, 3) := by decide +kernel
theorem dX6_out_15 : decode cX6_out 15 = .ok (.iload_n 3, 1) := by decide +kernel
theorem dX6_out_16 : decode cX6_out 16 = .ok (.invokestatic 87, 3) := by decide +kernel
theorem dX6_out_19 : decode cX6_out 19 = .ok (.ifCond .eq 11, 3) := by decide +kernel
theorem dX6_out_22 : decode cX6_out 22 = .ok (.iload 4, 2) := by decide +kernel
theorem dX6_out_24 : decode cX6_out 24 = .ok (.invokestatic 87, 3) := by decide +kernel
theorem dX6_out_27 : decode cX6_out 27 = .ok (.ifCond .ne 9, 3) := by decide +kernel
theorem dX6_out_30 : decode cX6_out 30 = .ok (.aload_n 0, 1) := by decide +kernel
theorem dX6_out_31 : decode cX6_out 31 = .ok (.iconst 0, 1) := by decide +kernel
theorem dX6_out_32 : decode cX6_out 32 = .ok (.invokevirtual 93, 3) := by decide +kernel
theorem dX6_out_35 : decode cX6_out 35 = .ok (.ireturn, 1) := by decide +kernel
theorem dX6_out_36 : decode cX6_out 36 = .ok (.aload_n 0, 1) := by decide +kernel
theorem dX6_out_37 : decode cX6_out 37 = .ok (.invokevirtual 191, 3) := by decide +kernel
theorem dX6_out_40 : decode cX6_out 40 = .ok (.iconst 0, 1) := by decide +kernel
theorem dX6_out_41 : decode cX6_out 41 = .ok (.istore 5, 2) := by decide +kernel
theorem dX6_out_43 : decode cX6_out 43 = .ok (.iload 5, 2) := by decide +kernel
theorem dX6_out_45 : decode cX6_out 45 = .ok (.bipush 60, 2) := by decide +kernel
theorem dX6_out_47 : decode cX6_out 47 = .ok (.if_icmp .gt 26, 3) := by decide +kernel
theorem dX6_out_50 : decode cX6_out 50 = .ok (.aload_n 0, 1) := by decide +kernel
theorem dX6_out_51 : decode cX6_out 51 = .ok (.iload_n 1, 1) := by decide +kernel
theorem dX6_out_52 : decode cX6_out 52 = .ok (.iload_n 3, 1) := by decide +kernel
theorem dX6_out_53 : decode cX6_out 53 = .ok (.iload 4, 2) := by decide +kernel
theorem dX6_out_55 : decode cX6_out 55 = .ok (.invokevirtual 222, 3) := by decide +kernel
theorem dX6_out_58 : decode cX6_out 58 = .ok (.ifCond .ne 15, 3) := by decide +kernel
theorem dX6_out_61 : decode cX6_out 61 = .ok (.aload_n 0, 1) := by decide +kernel
theorem dX6_out_62 : decode cX6_out 62 = .ok (.iload_n 1, 1) := by decide +kernel
theorem dX6_out_63 : decode cX6_out 63 = .ok (.iload_n 2, 1) := by decide +kernel
theorem dX6_out_64 : decode cX6_out 64 = .ok (.invokevirtual 216, 3) := by decide +kernel
theorem dX6_out_67 : decode cX6_out 67 = .ok (.iinc 5 1, 3) := by decide +kernel
theorem dX6_out_70 : decode cX6_out 70 = .ok (.goto (-27), 3) := by decide +kernel
theorem dX6_out_73 : decode cX6_out 73 = .ok (.aload_n 0, 1) := by decide +kernel
theorem dX6_out_74 : decode cX6_out 74 = .ok (.invokevirtual 194, 3) := by decide +kernel
theorem dX6_out_77 : decode cX6_out 77 = .ok (.aload_n 0, 1) := by decide +kernel
theorem dX6_out_78 : decode cX6_out 78 = .ok (.iload 5, 2) := by decide +kernel
theorem dX6_out_80 : decode cX6_out 80 = .ok (.bipush 60, 2) := by decide +kernel
theorem dX6_out_82 : decode cX6_out 82 = .ok (.invokevirtual 200, 3) := by decide +kernel
theorem dX6_out_85 : decode cX6_out 85 = .ok (.ireturn, 1) := by decide +kernel
theorem dX6_isSo_0 : decode cX6_isSo 0 = .ok (.iconst 1, 1) := by decide +kernel
theorem dX6_isSo_1 : decode cX6_isSo 1 = .ok (.istore_n 3, 1) := by decide +kernel
theorem dX6_isSo_2 : decode cX6_isSo 2 = .ok (.iconst 0, 1) := by decide +kernel
theorem dX6_isSo_3 : decode cX6_isSo 3 = .ok (.istore 4, 2) := by decide +kernel
theorem dX6_isSo_5 : decode cX6_isSo 5 = .ok (.iload 4, 2) := by decide +kernel
theorem dX6_isSo_7 : decode cX6_isSo 7 = .ok (.iconst 4, 1) := by decide +kernel
theorem dX6_isSo_8 : decode cX6_isSo 8 = .ok (.if_icmp .ge 64, 3) := by decide +kernel
theorem dX6_isSo_11 : decode cX6_isSo 11 = .ok (.iload 4, 2) := by decide +kernel
theorem dX6_isSo_13 : decode cX6_isSo 13 = .ok (.aload_n 0, 1) := by decide +kernel
theorem dX6_isSo_14 : decode cX6_isSo 14 = .ok (.getfield 34, 3) := by decide +kernel
theorem dX6_isSo_17 : decode cX6_isSo 17 = .ok (.iload_n 1, 1) := by decide +kernel
theorem dX6_isSo_18 : decode cX6_isSo 18 = .ok (.iaload, 1) := by decide +kernel
theorem dX6_isSo_19 : decode cX6_isSo 19 = .ok (.if_icmp .ge 53, 3) := by decide +kernel
theorem dX6_isSo_22 : decode cX6_isSo 22 = .ok (.aload_n 0, 1) := by decide +kernel
theorem dX6_isSo_23 : decode cX6_isSo 23 = .ok (.getfield 37, 3) := by decide +kernel
theorem dX6_isSo_26 : decode cX6_isSo 26 = .ok (.bipush 40, 2) := by decide +kernel
theorem dX6_isSo_28 : decode cX6_isSo 28 = .ok (.iload_n 1, 1) := by decide +kernel
theorem dX6_isSo_29 : decode cX6_isSo 29 = .ok (.imul, 1) := by decide +kernel
theorem dX6_isSo_30 : decode cX6_isSo 30 = .ok (.iload 4, 2) := by decide +kernel
theorem dX6_isSo_32 : decode cX6_isSo 32 = .ok (.iadd, 1) := by decide +kernel
theorem dX6_isSo_33 : decode cX6_isSo 33 = .ok (.iaload, 1) := by decide +kernel
theorem dX6_isSo_34 : decode cX6_isSo 34 = .ok (.istore 5, 2) := by decide +kernel
theorem dX6_isSo_36 : decode cX6_isSo 36 = .ok (.iload_n 3, 1) := by decide +kernel
theorem dX6_isSo_37 : decode cX6_isSo 37 = .ok (.ifCond .eq 27, 3) := by decide +kernel
theorem dX6_isSo_40 : decode cX6_isSo 40 = .ok (.iload 5, 2) := by decide +kernel
theorem dX6_isSo_42 : decode cX6_isSo 42 = .ok (.iconst (-1), 1) := by decide +kernel
theorem dX6_isSo_43 : decode cX6_isSo 43 = .ok (.if_icmp .eq 17, 3) := by decide +kernel
theorem dX6_isSo_46 : decode cX6_isSo 46 = .ok (.iload 5, 2) := by decide +kernel
theorem dX6_isSo_48 : decode cX6_isSo 48 = .ok (.aload_n 0, 1) := by decide +kernel
theorem dX6_isSo_49 : decode cX6_isSo 49 = .ok (.iload_n 2, 1) := by decide +kernel
theorem dX6_isSo_50 : decode cX6_isSo 50 = .ok (.iconst 4, 1) := by decide +kernel
theorem dX6_isSo_51 : decode cX6_isSo 51 = .ok (.iload 4, 2) := by decide +kernel
theorem dX6_isSo_53 : decode cX6_isSo 53 = .ok (.iadd, 1) := by decide +kernel
theorem dX6_isSo_54 : decode cX6_isSo 54 = .ok (.invokevirtual 76, 3) := by decide +kernel
theorem dX6_isSo_57 : decode cX6_isSo 57 = .ok (.if_icmp .ne 7, 3) := by decide +kernel
theorem dX6_isSo_60 : decode cX6_isSo 60 = .ok (.iconst 1, 1) := by decide +kernel
theorem dX6_isSo_61 : decode cX6_isSo 61 = .ok (.goto 4, 3) := by decide +kernel
theorem dX6_isSo_64 : decode cX6_isSo 64 = .ok (.iconst 0, 1) := by decide +kernel
theorem dX6_isSo_65 : decode cX6_isSo 65 = .ok (.istore_n 3, 1) := by decide +kernel
theorem dX6_isSo_66 : decode cX6_isSo 66 = .ok (.iinc 4 1, 3) := by decide +kernel
theorem dX6_isSo_69 : decode cX6_isSo 69 = .ok (.goto (-64), 3) := by decide +kernel
theorem dX6_isSo_72 : decode cX6_isSo 72 = .ok (.iload_n 3, 1) := by decide +kernel
theorem dX6_isSo_73 : decode cX6_isSo 73 = .ok (.ireturn, 1) := by decide +kernel
theorem dX6_lacksTent_0 : decode cX6_lacksTent 0 = .ok (.aload_n 0, 1) := by decide +kernel
theorem dX6_lacksTent_1 : decode cX6_lacksTent 1 = .ok (.iload_n 1, 1) := by decide +kernel
theorem dX6_lacksTent_2 : decode cX6_lacksTent 2 = .ok (.invokevirtual 225, 3) := by decide +kernel
theorem dX6_lacksTent_5 : decode cX6_lacksTent 5 = .ok (.istore_n 3, 1) := by decide +kernel
theorem dX6_lacksTent_6 : decode cX6_lacksTent 6 = .ok (.iload_n 3, 1) := by decide +kernel
theorem dX6_lacksTent_7 : decode cX6_lacksTent 7 = .ok (.ifCond .lt 5, 3) := by decide +kernel
theorem dX6_lacksTent_10 : decode cX6_lacksTent 10 = .ok (.iload_n 3, 1) := by decide +kernel
theorem dX6_lacksTent_11 : decode cX6_lacksTent 11 = .ok (.ireturn, 1) := by decide +kernel
theorem dX6_lacksTent_12 : decode cX6_lacksTent 12 = .ok (.aload_n 0, 1) := by decide +kernel
theorem dX6_lacksTent_13 : decode cX6_lacksTent 13 = .ok (.iload_n 2, 1) := by decide +kernel
theorem dX6_lacksTent_14 : decode cX6_lacksTent 14 = .ok (.invokevirtual 127, 3) := by decide +kernel
theorem dX6_lacksTent_17 : decode cX6_lacksTent 17 = .ok (.ifCond .eq 7, 3) := by decide +kernel
theorem dX6_lacksTent_20 : decode cX6_lacksTent 20 = .ok (.iconst (-1), 1) := by decide +kernel
theorem dX6_lacksTent_21 : decode cX6_lacksTent 21 = .ok (.goto 4, 3) := by decide +kernel
theorem dX6_lacksTent_24 : decode cX6_lacksTent 24 = .ok (.iconst 0, 1) := by decide +kernel
theorem dX6_lacksTent_25 : decode cX6_lacksTent 25 = .ok (.ireturn, 1) := by decide +kernel
theorem dX6_fits_0 : decode cX6_fits 0 = .ok (.aload_n 0, 1) := by decide +kernel
theorem dX6_fits_1 : decode cX6_fits 1 = .ok (.iload_n 1, 1) := by decide +kernel
theorem dX6_fits_2 : decode cX6_fits 2 = .ok (.iload_n 2, 1) := by decide +kernel
theorem dX6_fits_3 : decode cX6_fits 3 = .ok (.invokevirtual 228, 3) := by decide +kernel
theorem dX6_fits_6 : decode cX6_fits 6 = .ok (.istore_n 3, 1) := by decide +kernel
theorem dX6_fits_7 : decode cX6_fits 7 = .ok (.iload_n 3, 1) := by decide +kernel
theorem dX6_fits_8 : decode cX6_fits 8 = .ok (.ifCond .lt 9, 3) := by decide +kernel
theorem dX6_fits_11 : decode cX6_fits 11 = .ok (.aload_n 0, 1) := by decide +kernel
theorem dX6_fits_12 : decode cX6_fits 12 = .ok (.iload_n 3, 1) := by decide +kernel
theorem dX6_fits_13 : decode cX6_fits 13 = .ok (.invokevirtual 93, 3) := by decide +kernel
theorem dX6_fits_16 : decode cX6_fits 16 = .ok (.ireturn, 1) := by decide +kernel
theorem dX6_fits_17 : decode cX6_fits 17 = .ok (.iconst 0, 1) := by decide +kernel
theorem dX6_fits_18 : decode cX6_fits 18 = .ok (.istore 4, 2) := by decide +kernel
theorem dX6_fits_20 : decode cX6_fits 20 = .ok (.iconst 0, 1) := by decide +kernel
theorem dX6_fits_21 : decode cX6_fits 21 = .ok (.istore 5, 2) := by decide +kernel
theorem dX6_fits_23 : decode cX6_fits 23 = .ok (.iload 5, 2) := by decide +kernel
theorem dX6_fits_25 : decode cX6_fits 25 = .ok (.bipush 16, 2) := by decide +kernel
theorem dX6_fits_27 : decode cX6_fits 27 = .ok (.if_icmp .ge 46, 3) := by decide +kernel
theorem dX6_fits_30 : decode cX6_fits 30 = .ok (.aload_n 0, 1) := by decide +kernel
theorem dX6_fits_31 : decode cX6_fits 31 = .ok (.invokevirtual 191, 3) := by decide +kernel
theorem dX6_fits_34 : decode cX6_fits 34 = .ok (.aload_n 0, 1) := by decide +kernel
theorem dX6_fits_35 : decode cX6_fits 35 = .ok (.iload_n 2, 1) := by decide +kernel
theorem dX6_fits_36 : decode cX6_fits 36 = .ok (.iload 5, 2) := by decide +kernel
theorem dX6_fits_38 : decode cX6_fits 38 = .ok (.invokevirtual 216, 3) := by decide +kernel
theorem dX6_fits_41 : decode cX6_fits 41 = .ok (.iload 4, 2) := by decide +kernel
theorem dX6_fits_43 : decode cX6_fits 43 = .ok (.aload_n 0, 1) := by decide +kernel
theorem dX6_fits_44 : decode cX6_fits 44 = .ok (.iload_n 1, 1) := by decide +kernel
theorem dX6_fits_45 : decode cX6_fits 45 = .ok (.iload_n 2, 1) := by decide +kernel
theorem dX6_fits_46 : decode cX6_fits 46 = .ok (.invokevirtual 231, 3) := by decide +kernel
theorem dX6_fits_49 : decode cX6_fits 49 = .ok (.ifCond .eq 10, 3) := by decide +kernel
theorem dX6_fits_52 : decode cX6_fits 52 = .ok (.iconst 1, 1) := by decide +kernel
theorem dX6_fits_53 : decode cX6_fits 53 = .ok (.iload 5, 2) := by decide +kernel
theorem dX6_fits_55 : decode cX6_fits 55 = .ok (.ishl, 1) := by decide +kernel
theorem dX6_fits_56 : decode cX6_fits 56 = .ok (.goto 4, 3) := by decide +kernel
theorem dX6_fits_59 : decode cX6_fits 59 = .ok (.iconst 0, 1) := by decide +kernel
theorem dX6_fits_60 : decode cX6_fits 60 = .ok (.ior, 1) := by decide +kernel
theorem dX6_fits_61 : decode cX6_fits 61 = .ok (.istore 4, 2) := by decide +kernel
theorem dX6_fits_63 : decode cX6_fits 63 = .ok (.aload_n 0, 1) := by decide +kernel
theorem dX6_fits_64 : decode cX6_fits 64 = .ok (.invokevirtual 194, 3) := by decide +kernel
theorem dX6_fits_67 : decode cX6_fits 67 = .ok (.iinc 5 1, 3) := by decide +kernel
theorem dX6_fits_70 : decode cX6_fits 70 = .ok (.goto (-47), 3) := by decide +kernel
theorem dX6_fits_73 : decode cX6_fits 73 = .ok (.iload 4, 2) := by decide +kernel
theorem dX6_fits_75 : decode cX6_fits 75 = .ok (.ireturn, 1) := by decide +kernel
theorem dX6_kinds_0 : decode cX6_kinds 0 = .ok (.aload_n 0, 1) := by decide +kernel
theorem dX6_kinds_1 : decode cX6_kinds 1 = .ok (.iload_n 1, 1) := by decide +kernel
theorem dX6_kinds_2 : decode cX6_kinds 2 = .ok (.iload_n 2, 1) := by decide +kernel
theorem dX6_kinds_3 : decode cX6_kinds 3 = .ok (.invokevirtual 228, 3) := by decide +kernel
theorem dX6_kinds_6 : decode cX6_kinds 6 = .ok (.istore_n 3, 1) := by decide +kernel
theorem dX6_kinds_7 : decode cX6_kinds 7 = .ok (.iload_n 3, 1) := by decide +kernel
theorem dX6_kinds_8 : decode cX6_kinds 8 = .ok (.ifCond .lt 9, 3) := by decide +kernel
theorem dX6_kinds_11 : decode cX6_kinds 11 = .ok (.aload_n 0, 1) := by decide +kernel
theorem dX6_kinds_12 : decode cX6_kinds 12 = .ok (.iload_n 3, 1) := by decide +kernel
theorem dX6_kinds_13 : decode cX6_kinds 13 = .ok (.invokevirtual 93, 3) := by decide +kernel
theorem dX6_kinds_16 : decode cX6_kinds 16 = .ok (.ireturn, 1) := by decide +kernel
theorem dX6_kinds_17 : decode cX6_kinds 17 = .ok (.iconst 0, 1) := by decide +kernel
theorem dX6_kinds_18 : decode cX6_kinds 18 = .ok (.istore 4, 2) := by decide +kernel
theorem dX6_kinds_20 : decode cX6_kinds 20 = .ok (.iconst 0, 1) := by decide +kernel
theorem dX6_kinds_21 : decode cX6_kinds 21 = .ok (.istore 5, 2) := by decide +kernel
theorem dX6_kinds_23 : decode cX6_kinds 23 = .ok (.iload 5, 2) := by decide +kernel
theorem dX6_kinds_25 : decode cX6_kinds 25 = .ok (.bipush 6, 2) := by decide +kernel
theorem dX6_kinds_27 : decode cX6_kinds 27 = .ok (.if_icmp .gt 51, 3) := by decide +kernel
theorem dX6_kinds_30 : decode cX6_kinds 30 = .ok (.aload_n 0, 1) := by decide +kernel
theorem dX6_kinds_31 : decode cX6_kinds 31 = .ok (.invokevirtual 191, 3) := by decide +kernel
theorem dX6_kinds_34 : decode cX6_kinds 34 = .ok (.aload_n 0, 1) := by decide +kernel
theorem dX6_kinds_35 : decode cX6_kinds 35 = .ok (.iload_n 2, 1) := by decide +kernel
theorem dX6_kinds_36 : decode cX6_kinds 36 = .ok (.iconst 0, 1) := by decide +kernel
theorem dX6_kinds_37 : decode cX6_kinds 37 = .ok (.iload 5, 2) := by decide +kernel
theorem dX6_kinds_39 : decode cX6_kinds 39 = .ok (.invokevirtual 79, 3) := by decide +kernel
theorem dX6_kinds_42 : decode cX6_kinds 42 = .ok (.aload_n 0, 1) := by decide +kernel
theorem dX6_kinds_43 : decode cX6_kinds 43 = .ok (.invokevirtual 156, 3) := by decide +kernel
theorem dX6_kinds_46 : decode cX6_kinds 46 = .ok (.iload 4, 2) := by decide +kernel
theorem dX6_kinds_48 : decode cX6_kinds 48 = .ok (.aload_n 0, 1) := by decide +kernel
theorem dX6_kinds_49 : decode cX6_kinds 49 = .ok (.iload_n 1, 1) := by decide +kernel
theorem dX6_kinds_50 : decode cX6_kinds 50 = .ok (.iload_n 2, 1) := by decide +kernel
theorem dX6_kinds_51 : decode cX6_kinds 51 = .ok (.invokevirtual 231, 3) := by decide +kernel
theorem dX6_kinds_54 : decode cX6_kinds 54 = .ok (.ifCond .eq 10, 3) := by decide +kernel
theorem dX6_kinds_57 : decode cX6_kinds 57 = .ok (.iconst 1, 1) := by decide +kernel
theorem dX6_kinds_58 : decode cX6_kinds 58 = .ok (.iload 5, 2) := by decide +kernel
theorem dX6_kinds_60 : decode cX6_kinds 60 = .ok (.ishl, 1) := by decide +kernel
theorem dX6_kinds_61 : decode cX6_kinds 61 = .ok (.goto 4, 3) := by decide +kernel
theorem dX6_kinds_64 : decode cX6_kinds 64 = .ok (.iconst 0, 1) := by decide +kernel
theorem dX6_kinds_65 : decode cX6_kinds 65 = .ok (.ior, 1) := by decide +kernel
theorem dX6_kinds_66 : decode cX6_kinds 66 = .ok (.istore 4, 2) := by decide +kernel
theorem dX6_kinds_68 : decode cX6_kinds 68 = .ok (.aload_n 0, 1) := by decide +kernel
theorem dX6_kinds_69 : decode cX6_kinds 69 = .ok (.invokevirtual 194, 3) := by decide +kernel
theorem dX6_kinds_72 : decode cX6_kinds 72 = .ok (.iinc 5 1, 3) := by decide +kernel
theorem dX6_kinds_75 : decode cX6_kinds 75 = .ok (.goto (-52), 3) := by decide +kernel
theorem dX6_kinds_78 : decode cX6_kinds 78 = .ok (.iload 4, 2) := by decide +kernel
theorem dX6_kinds_80 : decode cX6_kinds 80 = .ok (.ireturn, 1) := by decide +kernel
theorem dX6_draw_0 : decode cX6_draw 0 = .ok (.aload_n 0, 1) := by decide +kernel
theorem dX6_draw_1 : decode cX6_draw 1 = .ok (.getfield 9, 3) := by decide +kernel
theorem dX6_draw_4 : decode cX6_draw 4 = .ok (.iconst 1, 1) := by decide +kernel
theorem dX6_draw_5 : decode cX6_draw 5 = .ok (.aload_n 0, 1) := by decide +kernel
theorem dX6_draw_6 : decode cX6_draw 6 = .ok (.getfield 9, 3) := by decide +kernel
theorem dX6_draw_9 : decode cX6_draw 9 = .ok (.iconst 1, 1) := by decide +kernel
theorem dX6_draw_10 : decode cX6_draw 10 = .ok (.iaload, 1) := by decide +kernel
theorem dX6_draw_11 : decode cX6_draw 11 = .ok (.ldc 234, 2) := by decide +kernel
theorem dX6_draw_13 : decode cX6_draw 13 = .ok (.imul, 1) := by decide +kernel
theorem dX6_draw_14 : decode cX6_draw 14 = .ok (.sipush 12345, 3) := by decide +kernel
theorem dX6_draw_17 : decode cX6_draw 17 = .ok (.iadd, 1) := by decide +kernel
theorem dX6_draw_18 : decode cX6_draw 18 = .ok (.iastore, 1) := by decide +kernel
theorem dX6_draw_19 : decode cX6_draw 19 = .ok (.aload_n 0, 1) := by decide +kernel
theorem dX6_draw_20 : decode cX6_draw 20 = .ok (.getfield 9, 3) := by decide +kernel
theorem dX6_draw_23 : decode cX6_draw 23 = .ok (.iconst 1, 1) := by decide +kernel
theorem dX6_draw_24 : decode cX6_draw 24 = .ok (.iaload, 1) := by decide +kernel
theorem dX6_draw_25 : decode cX6_draw 25 = .ok (.bipush 8, 2) := by decide +kernel
theorem dX6_draw_27 : decode cX6_draw 27 = .ok (.iushr, 1) := by decide +kernel
theorem dX6_draw_28 : decode cX6_draw 28 = .ok (.ireturn, 1) := by decide +kernel
theorem dX6_nomads_0 : decode cX6_nomads 0 = .ok (.iload_n 1, 1) := by decide +kernel
theorem dX6_nomads_1 : decode cX6_nomads 1 = .ok (.i2l, 1) := by decide +kernel
theorem dX6_nomads_2 : decode cX6_nomads 2 = .ok (.lconst 1, 1) := by decide +kernel
theorem dX6_nomads_3 : decode cX6_nomads 3 = .ok (.ldc2_w 235, 3) := by decide +kernel
theorem dX6_nomads_6 : decode cX6_nomads 6 = .ok (.invokestatic 48, 3) := by decide +kernel
theorem dX6_nomads_9 : decode cX6_nomads 9 = .ok (.ifCond .ne 9, 3) := by decide +kernel
theorem dX6_nomads_12 : decode cX6_nomads 12 = .ok (.aload_n 0, 1) := by decide +kernel
theorem dX6_nomads_13 : decode cX6_nomads 13 = .ok (.iconst 0, 1) := by decide +kernel
theorem dX6_nomads_14 : decode cX6_nomads 14 = .ok (.invokevirtual 93, 3) := by decide +kernel
theorem dX6_nomads_17 : decode cX6_nomads 17 = .ok (.ireturn, 1) := by decide +kernel
theorem dX6_nomads_18 : decode cX6_nomads 18 = .ok (.aload_n 0, 1) := by decide +kernel
theorem dX6_nomads_19 : decode cX6_nomads 19 = .ok (.getfield 9, 3) := by decide +kernel
theorem dX6_nomads_22 : decode cX6_nomads 22 = .ok (.iconst 0, 1) := by decide +kernel
theorem dX6_nomads_23 : decode cX6_nomads 23 = .ok (.iaload, 1) := by decide +kernel
theorem dX6_nomads_24 : decode cX6_nomads 24 = .ok (.iload_n 1, 1) := by decide +kernel
theorem dX6_nomads_25 : decode cX6_nomads 25 = .ok (.iadd, 1) := by decide +kernel
theorem dX6_nomads_26 : decode cX6_nomads 26 = .ok (.ldc 161, 2) := by decide +kernel
theorem dX6_nomads_28 : decode cX6_nomads 28 = .ok (.if_icmp .le 9, 3) := by decide +kernel
theorem dX6_nomads_31 : decode cX6_nomads 31 = .ok (.aload_n 0, 1) := by decide +kernel
theorem dX6_nomads_32 : decode cX6_nomads 32 = .ok (.iconst 4, 1) := by decide +kernel
theorem dX6_nomads_33 : decode cX6_nomads 33 = .ok (.invokevirtual 93, 3) := by decide +kernel
theorem dX6_nomads_36 : decode cX6_nomads 36 = .ok (.ireturn, 1) := by decide +kernel
theorem dX6_nomads_37 : decode cX6_nomads 37 = .ok (.iconst 0, 1) := by decide +kernel
theorem dX6_nomads_38 : decode cX6_nomads 38 = .ok (.istore_n 2, 1) := by decide +kernel
theorem dX6_nomads_39 : decode cX6_nomads 39 = .ok (.iload_n 2, 1) := by decide +kernel
theorem dX6_nomads_40 : decode cX6_nomads 40 = .ok (.iload_n 1, 1) := by decide +kernel
theorem dX6_nomads_41 : decode cX6_nomads 41 = .ok (.if_icmp .ge 46, 3) := by decide +kernel
theorem dX6_nomads_44 : decode cX6_nomads 44 = .ok (.aload_n 0, 1) := by decide +kernel
theorem dX6_nomads_45 : decode cX6_nomads 45 = .ok (.invokevirtual 237, 3) := by decide +kernel
theorem dX6_nomads_48 : decode cX6_nomads 48 = .ok (.bipush 8, 2) := by decide +kernel
theorem dX6_nomads_50 : decode cX6_nomads 50 = .ok (.irem, 1) := by decide +kernel
theorem dX6_nomads_51 : decode cX6_nomads 51 = .ok (.istore_n 3, 1) := by decide +kernel
theorem dX6_nomads_52 : decode cX6_nomads 52 = .ok (.aload_n 0, 1) := by decide +kernel
theorem dX6_nomads_53 : decode cX6_nomads 53 = .ok (.invokevirtual 237, 3) := by decide +kernel
theorem dX6_nomads_56 : decode cX6_nomads 56 = .ok (.bipush 16, 2) := by decide +kernel
theorem dX6_nomads_58 : decode cX6_nomads 58 = .ok (.irem, 1) := by decide +kernel
theorem dX6_nomads_59 : decode cX6_nomads 59 = .ok (.istore 4, 2) := by decide +kernel
theorem dX6_nomads_61 : decode cX6_nomads 61 = .ok (.aload_n 0, 1) := by decide +kernel
theorem dX6_nomads_62 : decode cX6_nomads 62 = .ok (.iload_n 3, 1) := by decide +kernel
theorem dX6_nomads_63 : decode cX6_nomads 63 = .ok (.invokevirtual 127, 3) := by decide +kernel
theorem dX6_nomads_66 : decode cX6_nomads 66 = .ok (.ifCond .eq 11, 3) := by decide +kernel
theorem dX6_nomads_69 : decode cX6_nomads 69 = .ok (.aload_n 0, 1) := by decide +kernel
theorem dX6_nomads_70 : decode cX6_nomads 70 = .ok (.iload_n 3, 1) := by decide +kernel
theorem dX6_nomads_71 : decode cX6_nomads 71 = .ok (.iconst 1, 1) := by decide +kernel
theorem dX6_nomads_72 : decode cX6_nomads 72 = .ok (.iload 4, 2) := by decide +kernel
theorem dX6_nomads_74 : decode cX6_nomads 74 = .ok (.invokevirtual 79, 3) := by decide +kernel
theorem dX6_nomads_77 : decode cX6_nomads 77 = .ok (.aload_n 0, 1) := by decide +kernel
theorem dX6_nomads_78 : decode cX6_nomads 78 = .ok (.invokevirtual 156, 3) := by decide +kernel
theorem dX6_nomads_81 : decode cX6_nomads 81 = .ok (.iinc 2 1, 3) := by decide +kernel
theorem dX6_nomads_84 : decode cX6_nomads 84 = .ok (.goto (-45), 3) := by decide +kernel
theorem dX6_nomads_87 : decode cX6_nomads 87 = .ok (.aload_n 0, 1) := by decide +kernel
theorem dX6_nomads_88 : decode cX6_nomads 88 = .ok (.invokevirtual 166, 3) := by decide +kernel
theorem dX6_nomads_91 : decode cX6_nomads 91 = .ok (.ireturn, 1) := by decide +kernel
theorem dX6_dryPitches_0 : decode cX6_dryPitches 0 = .ok (.iconst 0, 1) := by decide +kernel
theorem dX6_dryPitches_1 : decode cX6_dryPitches 1 = .ok (.istore_n 1, 1) := by decide +kernel
theorem dX6_dryPitches_2 : decode cX6_dryPitches 2 = .ok (.iconst 0, 1) := by decide +kernel
theorem dX6_dryPitches_3 : decode cX6_dryPitches 3 = .ok (.istore_n 2, 1) := by decide +kernel
theorem dX6_dryPitches_4 : decode cX6_dryPitches 4 = .ok (.iload_n 2, 1) := by decide +kernel
theorem dX6_dryPitches_5 : decode cX6_dryPitches 5 = .ok (.bipush 16, 2) := by decide +kernel
theorem dX6_dryPitches_7 : decode cX6_dryPitches 7 = .ok (.if_icmp .ge 61, 3) := by decide +kernel
theorem dX6_dryPitches_10 : decode cX6_dryPitches 10 = .ok (.iconst 1, 1) := by decide +kernel
theorem dX6_dryPitches_11 : decode cX6_dryPitches 11 = .ok (.istore_n 3, 1) := by decide +kernel
theorem dX6_dryPitches_12 : decode cX6_dryPitches 12 = .ok (.iconst 0, 1) := by decide +kernel
theorem dX6_dryPitches_13 : decode cX6_dryPitches 13 = .ok (.istore 4, 2) := by decide +kernel
theorem dX6_dryPitches_15 : decode cX6_dryPitches 15 = .ok (.iload 4, 2) := by decide +kernel
theorem dX6_dryPitches_17 : decode cX6_dryPitches 17 = .ok (.iconst 4, 1) := by decide +kernel
theorem dX6_dryPitches_18 : decode cX6_dryPitches 18 = .ok (.if_icmp .ge 32, 3) := by decide +kernel
theorem dX6_dryPitches_21 : decode cX6_dryPitches 21 = .ok (.iload_n 3, 1) := by decide +kernel
theorem dX6_dryPitches_22 : decode cX6_dryPitches 22 = .ok (.ifCond .eq 20, 3) := by decide +kernel
theorem dX6_dryPitches_25 : decode cX6_dryPitches 25 = .ok (.aload_n 0, 1) := by decide +kernel
theorem dX6_dryPitches_26 : decode cX6_dryPitches 26 = .ok (.iload_n 2, 1) := by decide +kernel
theorem dX6_dryPitches_27 : decode cX6_dryPitches 27 = .ok (.iload 4, 2) := by decide +kernel
theorem dX6_dryPitches_29 : decode cX6_dryPitches 29 = .ok (.invokestatic 103, 3) := by decide +kernel
theorem dX6_dryPitches_32 : decode cX6_dryPitches 32 = .ok (.invokevirtual 96, 3) := by decide +kernel
theorem dX6_dryPitches_35 : decode cX6_dryPitches 35 = .ok (.ifCond .ne 7, 3) := by decide +kernel
theorem dX6_dryPitches_38 : decode cX6_dryPitches 38 = .ok (.iconst 1, 1) := by decide +kernel
theorem dX6_dryPitches_39 : decode cX6_dryPitches 39 = .ok (.goto 4, 3) := by decide +kernel
theorem dX6_dryPitches_42 : decode cX6_dryPitches 42 = .ok (.iconst 0, 1) := by decide +kernel
theorem dX6_dryPitches_43 : decode cX6_dryPitches 43 = .ok (.istore_n 3, 1) := by decide +kernel
theorem dX6_dryPitches_44 : decode cX6_dryPitches 44 = .ok (.iinc 4 1, 3) := by decide +kernel
theorem dX6_dryPitches_47 : decode cX6_dryPitches 47 = .ok (.goto (-32), 3) := by decide +kernel
theorem dX6_dryPitches_50 : decode cX6_dryPitches 50 = .ok (.iload_n 1, 1) := by decide +kernel
theorem dX6_dryPitches_51 : decode cX6_dryPitches 51 = .ok (.iload_n 3, 1) := by decide +kernel
theorem dX6_dryPitches_52 : decode cX6_dryPitches 52 = .ok (.ifCond .eq 7, 3) := by decide +kernel
theorem dX6_dryPitches_55 : decode cX6_dryPitches 55 = .ok (.iconst 1, 1) := by decide +kernel
theorem dX6_dryPitches_56 : decode cX6_dryPitches 56 = .ok (.goto 4, 3) := by decide +kernel
theorem dX6_dryPitches_59 : decode cX6_dryPitches 59 = .ok (.iconst 0, 1) := by decide +kernel
theorem dX6_dryPitches_60 : decode cX6_dryPitches 60 = .ok (.iadd, 1) := by decide +kernel
theorem dX6_dryPitches_61 : decode cX6_dryPitches 61 = .ok (.istore_n 1, 1) := by decide +kernel
theorem dX6_dryPitches_62 : decode cX6_dryPitches 62 = .ok (.iinc 2 1, 3) := by decide +kernel
theorem dX6_dryPitches_65 : decode cX6_dryPitches 65 = .ok (.goto (-61), 3) := by decide +kernel
theorem dX6_dryPitches_68 : decode cX6_dryPitches 68 = .ok (.iload_n 1, 1) := by decide +kernel
theorem dX6_dryPitches_69 : decode cX6_dryPitches 69 = .ok (.ireturn, 1) := by decide +kernel
theorem dX6_odds_0 : decode cX6_odds 0 = .ok (.iload_n 1, 1) := by decide +kernel
theorem dX6_odds_1 : decode cX6_odds 1 = .ok (.i2l, 1) := by decide +kernel
theorem dX6_odds_2 : decode cX6_odds 2 = .ok (.lconst 0, 1) := by decide +kernel
theorem dX6_odds_3 : decode cX6_odds 3 = .ok (.ldc2_w 54, 3) := by decide +kernel
theorem dX6_odds_6 : decode cX6_odds 6 = .ok (.invokestatic 48, 3) := by decide +kernel
theorem dX6_odds_9 : decode cX6_odds 9 = .ok (.ifCond .eq 13, 3) := by decide +kernel
theorem dX6_odds_12 : decode cX6_odds 12 = .ok (.iload_n 2, 1) := by decide +kernel
theorem dX6_odds_13 : decode cX6_odds 13 = .ok (.i2l, 1) := by decide +kernel
theorem dX6_odds_14 : decode cX6_odds 14 = .ok (.lconst 0, 1) := by decide +kernel
theorem dX6_odds_15 : decode cX6_odds 15 = .ok (.lconst 1, 1) := by decide +kernel
theorem dX6_odds_16 : decode cX6_odds 16 = .ok (.invokestatic 48, 3) := by decide +kernel
theorem dX6_odds_19 : decode cX6_odds 19 = .ok (.ifCond .ne 10, 3) := by decide +kernel
theorem dX6_odds_22 : decode cX6_odds 22 = .ok (.aload_n 0, 1) := by decide +kernel
theorem dX6_odds_23 : decode cX6_odds 23 = .ok (.iconst 0, 1) := by decide +kernel
theorem dX6_odds_24 : decode cX6_odds 24 = .ok (.invokevirtual 93, 3) := by decide +kernel
theorem dX6_odds_27 : decode cX6_odds 27 = .ok (.i2l, 1) := by decide +kernel
theorem dX6_odds_28 : decode cX6_odds 28 = .ok (.lreturn, 1) := by decide +kernel
theorem dX6_odds_29 : decode cX6_odds 29 = .ok (.lconst 1, 1) := by decide +kernel
theorem dX6_odds_30 : decode cX6_odds 30 = .ok (.lstore_n 3, 1) := by decide +kernel
theorem dX6_odds_31 : decode cX6_odds 31 = .ok (.lconst 1, 1) := by decide +kernel
theorem dX6_odds_32 : decode cX6_odds 32 = .ok (.lstore 5, 2) := by decide +kernel
theorem dX6_odds_34 : decode cX6_odds 34 = .ok (.iconst 0, 1) := by decide +kernel
theorem dX6_odds_35 : decode cX6_odds 35 = .ok (.istore 7, 2) := by decide +kernel
theorem dX6_odds_37 : decode cX6_odds 37 = .ok (.iload 7, 2) := by decide +kernel
theorem dX6_odds_39 : decode cX6_odds 39 = .ok (.iload_n 1, 1) := by decide +kernel
theorem dX6_odds_40 : decode cX6_odds 40 = .ok (.if_icmp .ge 25, 3) := by decide +kernel
theorem dX6_odds_43 : decode cX6_odds 43 = .ok (.lload_n 3, 1) := by decide +kernel
theorem dX6_odds_44 : decode cX6_odds 44 = .ok (.aload_n 0, 1) := by decide +kernel
theorem dX6_odds_45 : decode cX6_odds 45 = .ok (.invokevirtual 240, 3) := by decide +kernel
theorem dX6_odds_48 : decode cX6_odds 48 = .ok (.i2l, 1) := by decide +kernel
theorem dX6_odds_49 : decode cX6_odds 49 = .ok (.lmul, 1) := by decide +kernel
theorem dX6_odds_50 : decode cX6_odds 50 = .ok (.lstore_n 3, 1) := by decide +kernel
theorem dX6_odds_51 : decode cX6_odds 51 = .ok (.lload 5, 2) := by decide +kernel
theorem dX6_odds_53 : decode cX6_odds 53 = .ok (.ldc2_w 243, 3) := by decide +kernel
theorem dX6_odds_56 : decode cX6_odds 56 = .ok (.lmul, 1) := by decide +kernel
theorem dX6_odds_57 : decode cX6_odds 57 = .ok (.lstore 5, 2) := by decide +kernel
theorem dX6_odds_59 : decode cX6_odds 59 = .ok (.iinc 7 1, 3) := by decide +kernel
theorem dX6_odds_62 : decode cX6_odds 62 = .ok (.goto (-25), 3) := by decide +kernel
theorem dX6_odds_65 : decode cX6_odds 65 = .ok (.lload_n 3, 1) := by decide +kernel
theorem dX6_odds_66 : decode cX6_odds 66 = .ok (.lstore 7, 2) := by decide +kernel
theorem dX6_odds_68 : decode cX6_odds 68 = .ok (.lload 5, 2) := by decide +kernel
theorem dX6_odds_70 : decode cX6_odds 70 = .ok (.lstore 9, 2) := by decide +kernel
theorem dX6_odds_72 : decode cX6_odds 72 = .ok (.lload 9, 2) := by decide +kernel
theorem dX6_odds_74 : decode cX6_odds 74 = .ok (.lconst 0, 1) := by decide +kernel
theorem dX6_odds_75 : decode cX6_odds 75 = .ok (.lcmp, 1) := by decide +kernel
theorem dX6_odds_76 : decode cX6_odds 76 = .ok (.ifCond .eq 21, 3) := by decide +kernel
theorem dX6_odds_79 : decode cX6_odds 79 = .ok (.lload 7, 2) := by decide +kernel
theorem dX6_odds_81 : decode cX6_odds 81 = .ok (.lload 9, 2) := by decide +kernel
theorem dX6_odds_83 : decode cX6_odds 83 = .ok (.lrem, 1) := by decide +kernel
theorem dX6_odds_84 : decode cX6_odds 84 = .ok (.lstore 11, 2) := by decide +kernel
theorem dX6_odds_86 : decode cX6_odds 86 = .ok (.lload 9, 2) := by decide +kernel
end
section
theorem dX6_odds_88 : decode cX6_odds 88 = .ok (.lstore 7, 2) := by decide +kernel
theorem dX6_odds_90 : decode cX6_odds 90 = .ok (.lload 11, 2) := by decide +kernel
theorem dX6_odds_92 : decode cX6_odds 92 = .ok (.lstore 9, 2) := by decide +kernel
theorem dX6_odds_94 : decode cX6_odds 94 = .ok (.goto (-22), 3) := by decide +kernel
theorem dX6_odds_97 : decode cX6_odds 97 = .ok (.iload_n 2, 1) := by decide +kernel
theorem dX6_odds_98 : decode cX6_odds 98 = .ok (.ifCond .ne 7, 3) := by decide +kernel
theorem dX6_odds_101 : decode cX6_odds 101 = .ok (.lload_n 3, 1) := by decide +kernel
theorem dX6_odds_102 : decode cX6_odds 102 = .ok (.goto 5, 3) := by decide +kernel
theorem dX6_odds_105 : decode cX6_odds 105 = .ok (.lload 5, 2) := by decide +kernel
theorem dX6_odds_107 : decode cX6_odds 107 = .ok (.lload 7, 2) := by decide +kernel
theorem dX6_odds_109 : decode cX6_odds 109 = .ok (.ldiv, 1) := by decide +kernel
theorem dX6_odds_110 : decode cX6_odds 110 = .ok (.lreturn, 1) := by decide +kernel
theorem dX6_seed_0 : decode cX6_seed 0 = .ok (.aload_n 0, 1) := by decide +kernel
theorem dX6_seed_1 : decode cX6_seed 1 = .ok (.iconst 1, 1) := by decide +kernel
theorem dX6_seed_2 : decode cX6_seed 2 = .ok (.iload_n 1, 1) := by decide +kernel
theorem dX6_seed_3 : decode cX6_seed 3 = .ok (.invokevirtual 90, 3) := by decide +kernel
theorem dX6_seed_6 : decode cX6_seed 6 = .ok (.ireturn, 1) := by decide +kernel
theorem dX6_feed_0 : decode cX6_feed 0 = .ok (.iload_n 2, 1) := by decide +kernel
theorem dX6_feed_1 : decode cX6_feed 1 = .ok (.i2l, 1) := by decide +kernel
theorem dX6_feed_2 : decode cX6_feed 2 = .ok (.lconst 1, 1) := by decide +kernel
theorem dX6_feed_3 : decode cX6_feed 3 = .ok (.ldc2_w 137, 3) := by decide +kernel
theorem dX6_feed_6 : decode cX6_feed 6 = .ok (.invokestatic 48, 3) := by decide +kernel
theorem dX6_feed_9 : decode cX6_feed 9 = .ok (.ifCond .ne 9, 3) := by decide +kernel
theorem dX6_feed_12 : decode cX6_feed 12 = .ok (.aload_n 0, 1) := by decide +kernel
theorem dX6_feed_13 : decode cX6_feed 13 = .ok (.iconst 0, 1) := by decide +kernel
theorem dX6_feed_14 : decode cX6_feed 14 = .ok (.invokevirtual 93, 3) := by decide +kernel
theorem dX6_feed_17 : decode cX6_feed 17 = .ok (.ireturn, 1) := by decide +kernel
theorem dX6_feed_18 : decode cX6_feed 18 = .ok (.aload_n 0, 1) := by decide +kernel
theorem dX6_feed_19 : decode cX6_feed 19 = .ok (.getfield 245, 3) := by decide +kernel
theorem dX6_feed_22 : decode cX6_feed 22 = .ok (.iload_n 2, 1) := by decide +kernel
theorem dX6_feed_23 : decode cX6_feed 23 = .ok (.iadd, 1) := by decide +kernel
theorem dX6_feed_24 : decode cX6_feed 24 = .ok (.bipush 120, 2) := by decide +kernel
theorem dX6_feed_26 : decode cX6_feed 26 = .ok (.if_icmp .le 9, 3) := by decide +kernel
theorem dX6_feed_29 : decode cX6_feed 29 = .ok (.aload_n 0, 1) := by decide +kernel
theorem dX6_feed_30 : decode cX6_feed 30 = .ok (.iconst 1, 1) := by decide +kernel
theorem dX6_feed_31 : decode cX6_feed 31 = .ok (.invokevirtual 93, 3) := by decide +kernel
theorem dX6_feed_34 : decode cX6_feed 34 = .ok (.ireturn, 1) := by decide +kernel
theorem dX6_feed_35 : decode cX6_feed 35 = .ok (.iload_n 2, 1) := by decide +kernel
theorem dX6_feed_36 : decode cX6_feed 36 = .ok (.iconst 1, 1) := by decide +kernel
theorem dX6_feed_37 : decode cX6_feed 37 = .ok (.isub, 1) := by decide +kernel
theorem dX6_feed_38 : decode cX6_feed 38 = .ok (.istore_n 3, 1) := by decide +kernel
theorem dX6_feed_39 : decode cX6_feed 39 = .ok (.iload_n 3, 1) := by decide +kernel
theorem dX6_feed_40 : decode cX6_feed 40 = .ok (.ifCond .lt 38, 3) := by decide +kernel
theorem dX6_feed_43 : decode cX6_feed 43 = .ok (.aload_n 0, 1) := by decide +kernel
theorem dX6_feed_44 : decode cX6_feed 44 = .ok (.getfield 28, 3) := by decide +kernel
theorem dX6_feed_47 : decode cX6_feed 47 = .ok (.aload_n 0, 1) := by decide +kernel
theorem dX6_feed_48 : decode cX6_feed 48 = .ok (.getfield 245, 3) := by decide +kernel
theorem dX6_feed_51 : decode cX6_feed 51 = .ok (.iload_n 1, 1) := by decide +kernel
theorem dX6_feed_52 : decode cX6_feed 52 = .ok (.bipush 8, 2) := by decide +kernel
theorem dX6_feed_54 : decode cX6_feed 54 = .ok (.iload_n 3, 1) := by decide +kernel
theorem dX6_feed_55 : decode cX6_feed 55 = .ok (.imul, 1) := by decide +kernel
theorem dX6_feed_56 : decode cX6_feed 56 = .ok (.ishr, 1) := by decide +kernel
theorem dX6_feed_57 : decode cX6_feed 57 = .ok (.sipush 255, 3) := by decide +kernel
theorem dX6_feed_60 : decode cX6_feed 60 = .ok (.iand, 1) := by decide +kernel
theorem dX6_feed_61 : decode cX6_feed 61 = .ok (.iastore, 1) := by decide +kernel
theorem dX6_feed_62 : decode cX6_feed 62 = .ok (.aload_n 0, 1) := by decide +kernel
theorem dX6_feed_63 : decode cX6_feed 63 = .ok (.dup, 1) := by decide +kernel
theorem dX6_feed_64 : decode cX6_feed 64 = .ok (.getfield 245, 3) := by decide +kernel
theorem dX6_feed_67 : decode cX6_feed 67 = .ok (.iconst 1, 1) := by decide +kernel
theorem dX6_feed_68 : decode cX6_feed 68 = .ok (.iadd, 1) := by decide +kernel
theorem dX6_feed_69 : decode cX6_feed 69 = .ok (.putfield 245, 3) := by decide +kernel
theorem dX6_feed_72 : decode cX6_feed 72 = .ok (.iinc 3 (-1), 3) := by decide +kernel
theorem dX6_feed_75 : decode cX6_feed 75 = .ok (.goto (-36), 3) := by decide +kernel
theorem dX6_feed_78 : decode cX6_feed 78 = .ok (.aload_n 0, 1) := by decide +kernel
theorem dX6_feed_79 : decode cX6_feed 79 = .ok (.getfield 245, 3) := by decide +kernel
theorem dX6_feed_82 : decode cX6_feed 82 = .ok (.ireturn, 1) := by decide +kernel
theorem dX6_wipe_0 : decode cX6_wipe 0 = .ok (.aload_n 0, 1) := by decide +kernel
theorem dX6_wipe_1 : decode cX6_wipe 1 = .ok (.getfield 245, 3) := by decide +kernel
theorem dX6_wipe_4 : decode cX6_wipe 4 = .ok (.istore_n 1, 1) := by decide +kernel
theorem dX6_wipe_5 : decode cX6_wipe 5 = .ok (.aload_n 0, 1) := by decide +kernel
theorem dX6_wipe_6 : decode cX6_wipe 6 = .ok (.iconst 0, 1) := by decide +kernel
theorem dX6_wipe_7 : decode cX6_wipe 7 = .ok (.putfield 245, 3) := by decide +kernel
theorem dX6_wipe_10 : decode cX6_wipe 10 = .ok (.iload_n 1, 1) := by decide +kernel
theorem dX6_wipe_11 : decode cX6_wipe 11 = .ok (.ireturn, 1) := by decide +kernel
theorem dX6_isByte_0 : decode cX6_isByte 0 = .ok (.iload_n 1, 1) := by decide +kernel
theorem dX6_isByte_1 : decode cX6_isByte 1 = .ok (.aload_n 0, 1) := by decide +kernel
theorem dX6_isByte_2 : decode cX6_isByte 2 = .ok (.getfield 245, 3) := by decide +kernel
theorem dX6_isByte_5 : decode cX6_isByte 5 = .ok (.if_icmp .ge 24, 3) := by decide +kernel
theorem dX6_isByte_8 : decode cX6_isByte 8 = .ok (.aload_n 0, 1) := by decide +kernel
theorem dX6_isByte_9 : decode cX6_isByte 9 = .ok (.getfield 28, 3) := by decide +kernel
theorem dX6_isByte_12 : decode cX6_isByte 12 = .ok (.iload_n 1, 1) := by decide +kernel
theorem dX6_isByte_13 : decode cX6_isByte 13 = .ok (.iaload, 1) := by decide +kernel
theorem dX6_isByte_14 : decode cX6_isByte 14 = .ok (.i2l, 1) := by decide +kernel
theorem dX6_isByte_15 : decode cX6_isByte 15 = .ok (.iload_n 2, 1) := by decide +kernel
theorem dX6_isByte_16 : decode cX6_isByte 16 = .ok (.i2l, 1) := by decide +kernel
theorem dX6_isByte_17 : decode cX6_isByte 17 = .ok (.iload_n 3, 1) := by decide +kernel
theorem dX6_isByte_18 : decode cX6_isByte 18 = .ok (.i2l, 1) := by decide +kernel
theorem dX6_isByte_19 : decode cX6_isByte 19 = .ok (.invokestatic 48, 3) := by decide +kernel
theorem dX6_isByte_22 : decode cX6_isByte 22 = .ok (.ifCond .eq 7, 3) := by decide +kernel
theorem dX6_isByte_25 : decode cX6_isByte 25 = .ok (.iconst 1, 1) := by decide +kernel
theorem dX6_isByte_26 : decode cX6_isByte 26 = .ok (.goto 4, 3) := by decide +kernel
theorem dX6_isByte_29 : decode cX6_isByte 29 = .ok (.iconst 0, 1) := by decide +kernel
theorem dX6_isByte_30 : decode cX6_isByte 30 = .ok (.ireturn, 1) := by decide +kernel
theorem dX6_next_0 : decode cX6_next 0 = .ok (.aload_n 0, 1) := by decide +kernel
theorem dX6_next_1 : decode cX6_next 1 = .ok (.aload_n 0, 1) := by decide +kernel
theorem dX6_next_2 : decode cX6_next 2 = .ok (.getfield 249, 3) := by decide +kernel
theorem dX6_next_5 : decode cX6_next 5 = .ok (.putfield 252, 3) := by decide +kernel
theorem dX6_next_8 : decode cX6_next 8 = .ok (.aload_n 0, 1) := by decide +kernel
theorem dX6_next_9 : decode cX6_next 9 = .ok (.aload_n 0, 1) := by decide +kernel
theorem dX6_next_10 : decode cX6_next 10 = .ok (.getfield 252, 3) := by decide +kernel
theorem dX6_next_13 : decode cX6_next 13 = .ok (.bipush 32, 2) := by decide +kernel
theorem dX6_next_15 : decode cX6_next 15 = .ok (.bipush 32, 2) := by decide +kernel
theorem dX6_next_17 : decode cX6_next 17 = .ok (.invokevirtual 255, 3) := by decide +kernel
theorem dX6_next_20 : decode cX6_next 20 = .ok (.ifCond .eq 16, 3) := by decide +kernel
theorem dX6_next_23 : decode cX6_next 23 = .ok (.aload_n 0, 1) := by decide +kernel
theorem dX6_next_24 : decode cX6_next 24 = .ok (.dup, 1) := by decide +kernel
theorem dX6_next_25 : decode cX6_next 25 = .ok (.getfield 252, 3) := by decide +kernel
theorem dX6_next_28 : decode cX6_next 28 = .ok (.iconst 1, 1) := by decide +kernel
theorem dX6_next_29 : decode cX6_next 29 = .ok (.iadd, 1) := by decide +kernel
theorem dX6_next_30 : decode cX6_next 30 = .ok (.putfield 252, 3) := by decide +kernel
theorem dX6_next_33 : decode cX6_next 33 = .ok (.goto (-25), 3) := by decide +kernel
theorem dX6_next_36 : decode cX6_next 36 = .ok (.aload_n 0, 1) := by decide +kernel
theorem dX6_next_37 : decode cX6_next 37 = .ok (.aload_n 0, 1) := by decide +kernel
theorem dX6_next_38 : decode cX6_next 38 = .ok (.getfield 252, 3) := by decide +kernel
theorem dX6_next_41 : decode cX6_next 41 = .ok (.putfield 249, 3) := by decide +kernel
theorem dX6_next_44 : decode cX6_next 44 = .ok (.aload_n 0, 1) := by decide +kernel
theorem dX6_next_45 : decode cX6_next 45 = .ok (.aload_n 0, 1) := by decide +kernel
theorem dX6_next_46 : decode cX6_next 46 = .ok (.getfield 252, 3) := by decide +kernel
theorem dX6_next_49 : decode cX6_next 49 = .ok (.bipush 97, 2) := by decide +kernel
theorem dX6_next_51 : decode cX6_next 51 = .ok (.bipush 122, 2) := by decide +kernel
theorem dX6_next_53 : decode cX6_next 53 = .ok (.invokevirtual 255, 3) := by decide +kernel
theorem dX6_next_56 : decode cX6_next 56 = .ok (.istore_n 1, 1) := by decide +kernel
theorem dX6_next_57 : decode cX6_next 57 = .ok (.aload_n 0, 1) := by decide +kernel
theorem dX6_next_58 : decode cX6_next 58 = .ok (.aload_n 0, 1) := by decide +kernel
theorem dX6_next_59 : decode cX6_next 59 = .ok (.getfield 252, 3) := by decide +kernel
theorem dX6_next_62 : decode cX6_next 62 = .ok (.bipush 48, 2) := by decide +kernel
theorem dX6_next_64 : decode cX6_next 64 = .ok (.bipush 57, 2) := by decide +kernel
theorem dX6_next_66 : decode cX6_next 66 = .ok (.invokevirtual 255, 3) := by decide +kernel
theorem dX6_next_69 : decode cX6_next 69 = .ok (.istore_n 2, 1) := by decide +kernel
theorem dX6_next_70 : decode cX6_next 70 = .ok (.iload_n 1, 1) := by decide +kernel
theorem dX6_next_71 : decode cX6_next 71 = .ok (.ifCond .eq 18, 3) := by decide +kernel
theorem dX6_next_74 : decode cX6_next 74 = .ok (.aload_n 0, 1) := by decide +kernel
theorem dX6_next_75 : decode cX6_next 75 = .ok (.aload_n 0, 1) := by decide +kernel
theorem dX6_next_76 : decode cX6_next 76 = .ok (.getfield 249, 3) := by decide +kernel
theorem dX6_next_79 : decode cX6_next 79 = .ok (.bipush 97, 2) := by decide +kernel
theorem dX6_next_81 : decode cX6_next 81 = .ok (.bipush 122, 2) := by decide +kernel
theorem dX6_next_83 : decode cX6_next 83 = .ok (.invokevirtual 255, 3) := by decide +kernel
theorem dX6_next_86 : decode cX6_next 86 = .ok (.ifCond .ne 22, 3) := by decide +kernel
theorem dX6_next_89 : decode cX6_next 89 = .ok (.iload_n 2, 1) := by decide +kernel
theorem dX6_next_90 : decode cX6_next 90 = .ok (.ifCond .eq 31, 3) := by decide +kernel
theorem dX6_next_93 : decode cX6_next 93 = .ok (.aload_n 0, 1) := by decide +kernel
theorem dX6_next_94 : decode cX6_next 94 = .ok (.aload_n 0, 1) := by decide +kernel
theorem dX6_next_95 : decode cX6_next 95 = .ok (.getfield 249, 3) := by decide +kernel
theorem dX6_next_98 : decode cX6_next 98 = .ok (.bipush 48, 2) := by decide +kernel
theorem dX6_next_100 : decode cX6_next 100 = .ok (.bipush 57, 2) := by decide +kernel
theorem dX6_next_102 : decode cX6_next 102 = .ok (.invokevirtual 255, 3) := by decide +kernel
theorem dX6_next_105 : decode cX6_next 105 = .ok (.ifCond .eq 16, 3) := by decide +kernel
theorem dX6_next_108 : decode cX6_next 108 = .ok (.aload_n 0, 1) := by decide +kernel
theorem dX6_next_109 : decode cX6_next 109 = .ok (.dup, 1) := by decide +kernel
theorem dX6_next_110 : decode cX6_next 110 = .ok (.getfield 249, 3) := by decide +kernel
theorem dX6_next_113 : decode cX6_next 113 = .ok (.iconst 1, 1) := by decide +kernel
theorem dX6_next_114 : decode cX6_next 114 = .ok (.iadd, 1) := by decide +kernel
theorem dX6_next_115 : decode cX6_next 115 = .ok (.putfield 249, 3) := by decide +kernel
theorem dX6_next_118 : decode cX6_next 118 = .ok (.goto (-48), 3) := by decide +kernel
theorem dX6_next_121 : decode cX6_next 121 = .ok (.aload_n 0, 1) := by decide +kernel
theorem dX6_next_122 : decode cX6_next 122 = .ok (.dup, 1) := by decide +kernel
theorem dX6_next_123 : decode cX6_next 123 = .ok (.getfield 249, 3) := by decide +kernel
theorem dX6_next_126 : decode cX6_next 126 = .ok (.iload_n 1, 1) := by decide +kernel
theorem dX6_next_127 : decode cX6_next 127 = .ok (.ifCond .ne 22, 3) := by decide +kernel
theorem dX6_next_130 : decode cX6_next 130 = .ok (.iload_n 2, 1) := by decide +kernel
theorem dX6_next_131 : decode cX6_next 131 = .ok (.ifCond .ne 18, 3) := by decide +kernel
theorem dX6_next_134 : decode cX6_next 134 = .ok (.aload_n 0, 1) := by decide +kernel
theorem dX6_next_135 : decode cX6_next 135 = .ok (.getfield 252, 3) := by decide +kernel
theorem dX6_next_138 : decode cX6_next 138 = .ok (.aload_n 0, 1) := by decide +kernel
theorem dX6_next_139 : decode cX6_next 139 = .ok (.getfield 245, 3) := by decide +kernel
theorem dX6_next_142 : decode cX6_next 142 = .ok (.if_icmp .ge 7, 3) := by decide +kernel
theorem dX6_next_145 : decode cX6_next 145 = .ok (.iconst 1, 1) := by decide +kernel
theorem dX6_next_146 : decode cX6_next 146 = .ok (.goto 4, 3) := by decide +kernel
theorem dX6_next_149 : decode cX6_next 149 = .ok (.iconst 0, 1) := by decide +kernel
theorem dX6_next_150 : decode cX6_next 150 = .ok (.iadd, 1) := by decide +kernel
theorem dX6_next_151 : decode cX6_next 151 = .ok (.putfield 249, 3) := by decide +kernel
theorem dX6_next_154 : decode cX6_next 154 = .ok (.return_, 1) := by decide +kernel
theorem dX6_isWord_0 : decode cX6_isWord 0 = .ok (.aload_n 0, 1) := by decide +kernel
theorem dX6_isWord_1 : decode cX6_isWord 1 = .ok (.getfield 258, 3) := by decide +kernel
theorem dX6_isWord_4 : decode cX6_isWord 4 = .ok (.ifCond .ne 23, 3) := by decide +kernel
theorem dX6_isWord_7 : decode cX6_isWord 7 = .ok (.aload_n 0, 1) := by decide +kernel
theorem dX6_isWord_8 : decode cX6_isWord 8 = .ok (.getfield 249, 3) := by decide +kernel
theorem dX6_isWord_11 : decode cX6_isWord 11 = .ok (.aload_n 0, 1) := by decide +kernel
theorem dX6_isWord_12 : decode cX6_isWord 12 = .ok (.getfield 252, 3) := by decide +kernel
theorem dX6_isWord_15 : decode cX6_isWord 15 = .ok (.isub, 1) := by decide +kernel
theorem dX6_isWord_16 : decode cX6_isWord 16 = .ok (.aload_n 1, 1) := by decide +kernel
theorem dX6_isWord_17 : decode cX6_isWord 17 = .ok (.invokevirtual 262, 3) := by decide +kernel
theorem dX6_isWord_20 : decode cX6_isWord 20 = .ok (.if_icmp .ne 7, 3) := by decide +kernel
theorem dX6_isWord_23 : decode cX6_isWord 23 = .ok (.iconst 1, 1) := by decide +kernel
theorem dX6_isWord_24 : decode cX6_isWord 24 = .ok (.goto 4, 3) := by decide +kernel
theorem dX6_isWord_27 : decode cX6_isWord 27 = .ok (.iconst 0, 1) := by decide +kernel
theorem dX6_isWord_28 : decode cX6_isWord 28 = .ok (.istore_n 2, 1) := by decide +kernel
theorem dX6_isWord_29 : decode cX6_isWord 29 = .ok (.iconst 0, 1) := by decide +kernel
theorem dX6_isWord_30 : decode cX6_isWord 30 = .ok (.istore_n 3, 1) := by decide +kernel
theorem dX6_isWord_31 : decode cX6_isWord 31 = .ok (.iload_n 2, 1) := by decide +kernel
theorem dX6_isWord_32 : decode cX6_isWord 32 = .ok (.ifCond .eq 42, 3) := by decide +kernel
theorem dX6_isWord_35 : decode cX6_isWord 35 = .ok (.iload_n 3, 1) := by decide +kernel
theorem dX6_isWord_36 : decode cX6_isWord 36 = .ok (.aload_n 1, 1) := by decide +kernel
theorem dX6_isWord_37 : decode cX6_isWord 37 = .ok (.invokevirtual 262, 3) := by decide +kernel
theorem dX6_isWord_40 : decode cX6_isWord 40 = .ok (.if_icmp .ge 34, 3) := by decide +kernel
theorem dX6_isWord_43 : decode cX6_isWord 43 = .ok (.aload_n 0, 1) := by decide +kernel
theorem dX6_isWord_44 : decode cX6_isWord 44 = .ok (.getfield 28, 3) := by decide +kernel
theorem dX6_isWord_47 : decode cX6_isWord 47 = .ok (.aload_n 0, 1) := by decide +kernel
theorem dX6_isWord_48 : decode cX6_isWord 48 = .ok (.getfield 252, 3) := by decide +kernel
theorem dX6_isWord_51 : decode cX6_isWord 51 = .ok (.iload_n 3, 1) := by decide +kernel
theorem dX6_isWord_52 : decode cX6_isWord 52 = .ok (.iadd, 1) := by decide +kernel
theorem dX6_isWord_53 : decode cX6_isWord 53 = .ok (.iaload, 1) := by decide +kernel
theorem dX6_isWord_54 : decode cX6_isWord 54 = .ok (.aload_n 1, 1) := by decide +kernel
theorem dX6_isWord_55 : decode cX6_isWord 55 = .ok (.iload_n 3, 1) := by decide +kernel
theorem dX6_isWord_56 : decode cX6_isWord 56 = .ok (.invokevirtual 267, 3) := by decide +kernel
theorem dX6_isWord_59 : decode cX6_isWord 59 = .ok (.if_icmp .ne 7, 3) := by decide +kernel
theorem dX6_isWord_62 : decode cX6_isWord 62 = .ok (.iconst 1, 1) := by decide +kernel
theorem dX6_isWord_63 : decode cX6_isWord 63 = .ok (.goto 4, 3) := by decide +kernel
theorem dX6_isWord_66 : decode cX6_isWord 66 = .ok (.iconst 0, 1) := by decide +kernel
theorem dX6_isWord_67 : decode cX6_isWord 67 = .ok (.istore_n 2, 1) := by decide +kernel
theorem dX6_isWord_68 : decode cX6_isWord 68 = .ok (.iinc 3 1, 3) := by decide +kernel
theorem dX6_isWord_71 : decode cX6_isWord 71 = .ok (.goto (-40), 3) := by decide +kernel
theorem dX6_isWord_74 : decode cX6_isWord 74 = .ok (.iload_n 2, 1) := by decide +kernel
theorem dX6_isWord_75 : decode cX6_isWord 75 = .ok (.ireturn, 1) := by decide +kernel
theorem dX6_must_0 : decode cX6_must 0 = .ok (.aload_n 0, 1) := by decide +kernel
theorem dX6_must_1 : decode cX6_must 1 = .ok (.aload_n 0, 1) := by decide +kernel
theorem dX6_must_2 : decode cX6_must 2 = .ok (.getfield 258, 3) := by decide +kernel
theorem dX6_must_5 : decode cX6_must 5 = .ok (.ifCond .ne 7, 3) := by decide +kernel
theorem dX6_must_8 : decode cX6_must 8 = .ok (.iload_n 1, 1) := by decide +kernel
theorem dX6_must_9 : decode cX6_must 9 = .ok (.ifCond .ne 7, 3) := by decide +kernel
theorem dX6_must_12 : decode cX6_must 12 = .ok (.iconst 1, 1) := by decide +kernel
theorem dX6_must_13 : decode cX6_must 13 = .ok (.goto 4, 3) := by decide +kernel
theorem dX6_must_16 : decode cX6_must 16 = .ok (.iconst 0, 1) := by decide +kernel
theorem dX6_must_17 : decode cX6_must 17 = .ok (.putfield 258, 3) := by decide +kernel
theorem dX6_must_20 : decode cX6_must 20 = .ok (.aload_n 0, 1) := by decide +kernel
theorem dX6_must_21 : decode cX6_must 21 = .ok (.getfield 258, 3) := by decide +kernel
theorem dX6_must_24 : decode cX6_must 24 = .ok (.ifCond .ne 7, 3) := by decide +kernel
theorem dX6_must_27 : decode cX6_must 27 = .ok (.aload_n 0, 1) := by decide +kernel
theorem dX6_must_28 : decode cX6_must 28 = .ok (.invokevirtual 271, 3) := by decide +kernel
theorem dX6_must_31 : decode cX6_must 31 = .ok (.return_, 1) := by decide +kernel
theorem dX6_takes__0 : decode cX6_takes_ 0 = .ok (.aload_n 0, 1) := by decide +kernel
theorem dX6_takes__1 : decode cX6_takes_ 1 = .ok (.aload_n 1, 1) := by decide +kernel
theorem dX6_takes__2 : decode cX6_takes_ 2 = .ok (.invokevirtual 274, 3) := by decide +kernel
theorem dX6_takes__5 : decode cX6_takes_ 5 = .ok (.istore_n 2, 1) := by decide +kernel
theorem dX6_takes__6 : decode cX6_takes_ 6 = .ok (.iload_n 2, 1) := by decide +kernel
theorem dX6_takes__7 : decode cX6_takes_ 7 = .ok (.ifCond .eq 7, 3) := by decide +kernel
theorem dX6_takes__10 : decode cX6_takes_ 10 = .ok (.aload_n 0, 1) := by decide +kernel
theorem dX6_takes__11 : decode cX6_takes_ 11 = .ok (.invokevirtual 271, 3) := by decide +kernel
theorem dX6_takes__14 : decode cX6_takes_ 14 = .ok (.iload_n 2, 1) := by decide +kernel
theorem dX6_takes__15 : decode cX6_takes_ 15 = .ok (.ireturn, 1) := by decide +kernel
theorem dX6_numberRead_0 : decode cX6_numberRead 0 = .ok (.aload_n 0, 1) := by decide +kernel
theorem dX6_numberRead_1 : decode cX6_numberRead 1 = .ok (.aload_n 0, 1) := by decide +kernel
theorem dX6_numberRead_2 : decode cX6_numberRead 2 = .ok (.getfield 252, 3) := by decide +kernel
theorem dX6_numberRead_5 : decode cX6_numberRead 5 = .ok (.bipush 48, 2) := by decide +kernel
theorem dX6_numberRead_7 : decode cX6_numberRead 7 = .ok (.bipush 57, 2) := by decide +kernel
theorem dX6_numberRead_9 : decode cX6_numberRead 9 = .ok (.invokevirtual 255, 3) := by decide +kernel
theorem dX6_numberRead_12 : decode cX6_numberRead 12 = .ok (.ifCond .eq 7, 3) := by decide +kernel
theorem dX6_numberRead_15 : decode cX6_numberRead 15 = .ok (.iconst 0, 1) := by decide +kernel
theorem dX6_numberRead_16 : decode cX6_numberRead 16 = .ok (.goto 4, 3) := by decide +kernel
theorem dX6_numberRead_19 : decode cX6_numberRead 19 = .ok (.iconst (-1), 1) := by decide +kernel
theorem dX6_numberRead_20 : decode cX6_numberRead 20 = .ok (.istore_n 3, 1) := by decide +kernel
theorem dX6_numberRead_21 : decode cX6_numberRead 21 = .ok (.aload_n 0, 1) := by decide +kernel
theorem dX6_numberRead_22 : decode cX6_numberRead 22 = .ok (.getfield 252, 3) := by decide +kernel
theorem dX6_numberRead_25 : decode cX6_numberRead 25 = .ok (.istore 4, 2) := by decide +kernel
theorem dX6_numberRead_27 : decode cX6_numberRead 27 = .ok (.iload 4, 2) := by decide +kernel
theorem dX6_numberRead_29 : decode cX6_numberRead 29 = .ok (.aload_n 0, 1) := by decide +kernel
theorem dX6_numberRead_30 : decode cX6_numberRead 30 = .ok (.getfield 249, 3) := by decide +kernel
theorem dX6_numberRead_33 : decode cX6_numberRead 33 = .ok (.if_icmp .ge 40, 3) := by decide +kernel
theorem dX6_numberRead_36 : decode cX6_numberRead 36 = .ok (.iload_n 3, 1) := by decide +kernel
theorem dX6_numberRead_37 : decode cX6_numberRead 37 = .ok (.ifCond .lt 36, 3) := by decide +kernel
theorem dX6_numberRead_40 : decode cX6_numberRead 40 = .ok (.iload_n 3, 1) := by decide +kernel
theorem dX6_numberRead_41 : decode cX6_numberRead 41 = .ok (.sipush 999, 3) := by decide +kernel
theorem dX6_numberRead_44 : decode cX6_numberRead 44 = .ok (.if_icmp .le 7, 3) := by decide +kernel
theorem dX6_numberRead_47 : decode cX6_numberRead 47 = .ok (.iload_n 3, 1) := by decide +kernel
theorem dX6_numberRead_48 : decode cX6_numberRead 48 = .ok (.goto 18, 3) := by decide +kernel
theorem dX6_numberRead_51 : decode cX6_numberRead 51 = .ok (.bipush 10, 2) := by decide +kernel
theorem dX6_numberRead_53 : decode cX6_numberRead 53 = .ok (.iload_n 3, 1) := by decide +kernel
theorem dX6_numberRead_54 : decode cX6_numberRead 54 = .ok (.imul, 1) := by decide +kernel
theorem dX6_numberRead_55 : decode cX6_numberRead 55 = .ok (.aload_n 0, 1) := by decide +kernel
theorem dX6_numberRead_56 : decode cX6_numberRead 56 = .ok (.getfield 28, 3) := by decide +kernel
theorem dX6_numberRead_59 : decode cX6_numberRead 59 = .ok (.iload 4, 2) := by decide +kernel
theorem dX6_numberRead_61 : decode cX6_numberRead 61 = .ok (.iaload, 1) := by decide +kernel
theorem dX6_numberRead_62 : decode cX6_numberRead 62 = .ok (.iadd, 1) := by decide +kernel
theorem dX6_numberRead_63 : decode cX6_numberRead 63 = .ok (.bipush 48, 2) := by decide +kernel
theorem dX6_numberRead_65 : decode cX6_numberRead 65 = .ok (.isub, 1) := by decide +kernel
theorem dX6_numberRead_66 : decode cX6_numberRead 66 = .ok (.istore_n 3, 1) := by decide +kernel
theorem dX6_numberRead_67 : decode cX6_numberRead 67 = .ok (.iinc 4 1, 3) := by decide +kernel
theorem dX6_numberRead_70 : decode cX6_numberRead 70 = .ok (.goto (-43), 3) := by decide +kernel
theorem dX6_numberRead_73 : decode cX6_numberRead 73 = .ok (.aload_n 0, 1) := by decide +kernel
theorem dX6_numberRead_74 : decode cX6_numberRead 74 = .ok (.iload_n 3, 1) := by decide +kernel
theorem dX6_numberRead_75 : decode cX6_numberRead 75 = .ok (.i2l, 1) := by decide +kernel
theorem dX6_numberRead_76 : decode cX6_numberRead 76 = .ok (.iload_n 1, 1) := by decide +kernel
theorem dX6_numberRead_77 : decode cX6_numberRead 77 = .ok (.i2l, 1) := by decide +kernel
theorem dX6_numberRead_78 : decode cX6_numberRead 78 = .ok (.iload_n 2, 1) := by decide +kernel
theorem dX6_numberRead_79 : decode cX6_numberRead 79 = .ok (.i2l, 1) := by decide +kernel
theorem dX6_numberRead_80 : decode cX6_numberRead 80 = .ok (.invokestatic 48, 3) := by decide +kernel
theorem dX6_numberRead_83 : decode cX6_numberRead 83 = .ok (.invokevirtual 278, 3) := by decide +kernel
theorem dX6_numberRead_86 : decode cX6_numberRead 86 = .ok (.iload_n 3, 1) := by decide +kernel
theorem dX6_numberRead_87 : decode cX6_numberRead 87 = .ok (.ireturn, 1) := by decide +kernel
theorem dX6_kindHere_0 : decode cX6_kindHere 0 = .ok (.aload_n 0, 1) := by decide +kernel
theorem dX6_kindHere_1 : decode cX6_kindHere 1 = .ok (.ldc_w 282, 3) := by decide +kernel
theorem dX6_kindHere_4 : decode cX6_kindHere 4 = .ok (.invokevirtual 274, 3) := by decide +kernel
theorem dX6_kindHere_7 : decode cX6_kindHere 7 = .ok (.ifCond .eq 7, 3) := by decide +kernel
theorem dX6_kindHere_10 : decode cX6_kindHere 10 = .ok (.iconst 0, 1) := by decide +kernel
theorem dX6_kindHere_11 : decode cX6_kindHere 11 = .ok (.goto 32, 3) := by decide +kernel
theorem dX6_kindHere_14 : decode cX6_kindHere 14 = .ok (.aload_n 0, 1) := by decide +kernel
theorem dX6_kindHere_15 : decode cX6_kindHere 15 = .ok (.ldc_w 284, 3) := by decide +kernel
theorem dX6_kindHere_18 : decode cX6_kindHere 18 = .ok (.invokevirtual 274, 3) := by decide +kernel
theorem dX6_kindHere_21 : decode cX6_kindHere 21 = .ok (.ifCond .eq 7, 3) := by decide +kernel
theorem dX6_kindHere_24 : decode cX6_kindHere 24 = .ok (.iconst 1, 1) := by decide +kernel
theorem dX6_kindHere_25 : decode cX6_kindHere 25 = .ok (.goto 18, 3) := by decide +kernel
theorem dX6_kindHere_28 : decode cX6_kindHere 28 = .ok (.aload_n 0, 1) := by decide +kernel
theorem dX6_kindHere_29 : decode cX6_kindHere 29 = .ok (.ldc_w 286, 3) := by decide +kernel
theorem dX6_kindHere_32 : decode cX6_kindHere 32 = .ok (.invokevirtual 274, 3) := by decide +kernel
theorem dX6_kindHere_35 : decode cX6_kindHere 35 = .ok (.ifCond .eq 7, 3) := by decide +kernel
theorem dX6_kindHere_38 : decode cX6_kindHere 38 = .ok (.iconst 2, 1) := by decide +kernel
theorem dX6_kindHere_39 : decode cX6_kindHere 39 = .ok (.goto 4, 3) := by decide +kernel
theorem dX6_kindHere_42 : decode cX6_kindHere 42 = .ok (.iconst (-1), 1) := by decide +kernel
theorem dX6_kindHere_43 : decode cX6_kindHere 43 = .ok (.istore_n 1, 1) := by decide +kernel
theorem dX6_kindHere_44 : decode cX6_kindHere 44 = .ok (.aload_n 0, 1) := by decide +kernel
theorem dX6_kindHere_45 : decode cX6_kindHere 45 = .ok (.ldc_w 288, 3) := by decide +kernel
theorem dX6_kindHere_48 : decode cX6_kindHere 48 = .ok (.invokevirtual 274, 3) := by decide +kernel
theorem dX6_kindHere_51 : decode cX6_kindHere 51 = .ok (.ifCond .eq 7, 3) := by decide +kernel
theorem dX6_kindHere_54 : decode cX6_kindHere 54 = .ok (.iconst 3, 1) := by decide +kernel
theorem dX6_kindHere_55 : decode cX6_kindHere 55 = .ok (.goto 32, 3) := by decide +kernel
theorem dX6_kindHere_58 : decode cX6_kindHere 58 = .ok (.aload_n 0, 1) := by decide +kernel
theorem dX6_kindHere_59 : decode cX6_kindHere 59 = .ok (.ldc_w 290, 3) := by decide +kernel
theorem dX6_kindHere_62 : decode cX6_kindHere 62 = .ok (.invokevirtual 274, 3) := by decide +kernel
theorem dX6_kindHere_65 : decode cX6_kindHere 65 = .ok (.ifCond .eq 7, 3) := by decide +kernel
theorem dX6_kindHere_68 : decode cX6_kindHere 68 = .ok (.iconst 4, 1) := by decide +kernel
theorem dX6_kindHere_69 : decode cX6_kindHere 69 = .ok (.goto 18, 3) := by decide +kernel
theorem dX6_kindHere_72 : decode cX6_kindHere 72 = .ok (.aload_n 0, 1) := by decide +kernel
theorem dX6_kindHere_73 : decode cX6_kindHere 73 = .ok (.ldc_w 292, 3) := by decide +kernel
theorem dX6_kindHere_76 : decode cX6_kindHere 76 = .ok (.invokevirtual 274, 3) := by decide +kernel
theorem dX6_kindHere_79 : decode cX6_kindHere 79 = .ok (.ifCond .eq 7, 3) := by decide +kernel
theorem dX6_kindHere_82 : decode cX6_kindHere 82 = .ok (.iconst 5, 1) := by decide +kernel
theorem dX6_kindHere_83 : decode cX6_kindHere 83 = .ok (.goto 4, 3) := by decide +kernel
theorem dX6_kindHere_86 : decode cX6_kindHere 86 = .ok (.iconst (-1), 1) := by decide +kernel
theorem dX6_kindHere_87 : decode cX6_kindHere 87 = .ok (.istore_n 2, 1) := by decide +kernel
theorem dX6_kindHere_88 : decode cX6_kindHere 88 = .ok (.iload_n 1, 1) := by decide +kernel
theorem dX6_kindHere_89 : decode cX6_kindHere 89 = .ok (.ifCond .lt 7, 3) := by decide +kernel
theorem dX6_kindHere_92 : decode cX6_kindHere 92 = .ok (.iload_n 1, 1) := by decide +kernel
theorem dX6_kindHere_93 : decode cX6_kindHere 93 = .ok (.goto 27, 3) := by decide +kernel
theorem dX6_kindHere_96 : decode cX6_kindHere 96 = .ok (.iload_n 2, 1) := by decide +kernel
theorem dX6_kindHere_97 : decode cX6_kindHere 97 = .ok (.ifCond .lt 7, 3) := by decide +kernel
theorem dX6_kindHere_100 : decode cX6_kindHere 100 = .ok (.iload_n 2, 1) := by decide +kernel
theorem dX6_kindHere_101 : decode cX6_kindHere 101 = .ok (.goto 19, 3) := by decide +kernel
theorem dX6_kindHere_104 : decode cX6_kindHere 104 = .ok (.aload_n 0, 1) := by decide +kernel
theorem dX6_kindHere_105 : decode cX6_kindHere 105 = .ok (.ldc_w 294, 3) := by decide +kernel
theorem dX6_kindHere_108 : decode cX6_kindHere 108 = .ok (.invokevirtual 274, 3) := by decide +kernel
theorem dX6_kindHere_111 : decode cX6_kindHere 111 = .ok (.ifCond .eq 8, 3) := by decide +kernel
theorem dX6_kindHere_114 : decode cX6_kindHere 114 = .ok (.bipush 6, 2) := by decide +kernel
theorem dX6_kindHere_116 : decode cX6_kindHere 116 = .ok (.goto 4, 3) := by decide +kernel
theorem dX6_kindHere_119 : decode cX6_kindHere 119 = .ok (.iconst (-1), 1) := by decide +kernel
theorem dX6_kindHere_120 : decode cX6_kindHere 120 = .ok (.ireturn, 1) := by decide +kernel
theorem dX6_tentTold_0 : decode cX6_tentTold 0 = .ok (.aload_n 0, 1) := by decide +kernel
theorem dX6_tentTold_1 : decode cX6_tentTold 1 = .ok (.aload_n 0, 1) := by decide +kernel
theorem dX6_tentTold_2 : decode cX6_tentTold 2 = .ok (.getfield 9, 3) := by decide +kernel
theorem dX6_tentTold_5 : decode cX6_tentTold 5 = .ok (.iconst 2, 1) := by decide +kernel
theorem dX6_tentTold_6 : decode cX6_tentTold 6 = .ok (.iaload, 1) := by decide +kernel
theorem dX6_tentTold_7 : decode cX6_tentTold 7 = .ok (.bipush 6, 2) := by decide +kernel
theorem dX6_tentTold_9 : decode cX6_tentTold 9 = .ok (.if_icmp .ge 7, 3) := by decide +kernel
theorem dX6_tentTold_12 : decode cX6_tentTold 12 = .ok (.iconst 1, 1) := by decide +kernel
theorem dX6_tentTold_13 : decode cX6_tentTold 13 = .ok (.goto 4, 3) := by decide +kernel
theorem dX6_tentTold_16 : decode cX6_tentTold 16 = .ok (.iconst 0, 1) := by decide +kernel
theorem dX6_tentTold_17 : decode cX6_tentTold 17 = .ok (.invokevirtual 278, 3) := by decide +kernel
theorem dX6_tentTold_20 : decode cX6_tentTold 20 = .ok (.aload_n 0, 1) := by decide +kernel
theorem dX6_tentTold_21 : decode cX6_tentTold 21 = .ok (.getfield 258, 3) := by decide +kernel
theorem dX6_tentTold_24 : decode cX6_tentTold 24 = .ok (.ifCond .eq 4, 3) := by decide +kernel
theorem dX6_tentTold_27 : decode cX6_tentTold 27 = .ok (.return_, 1) := by decide +kernel
theorem dX6_tentTold_28 : decode cX6_tentTold 28 = .ok (.aload_n 0, 1) := by decide +kernel
theorem dX6_tentTold_29 : decode cX6_tentTold 29 = .ok (.iload_n 1, 1) := by decide +kernel
theorem dX6_tentTold_30 : decode cX6_tentTold 30 = .ok (.invokevirtual 124, 3) := by decide +kernel
theorem dX6_tentTold_33 : decode cX6_tentTold 33 = .ok (.istore_n 2, 1) := by decide +kernel
theorem dX6_tentTold_34 : decode cX6_tentTold 34 = .ok (.aload_n 0, 1) := by decide +kernel
theorem dX6_tentTold_35 : decode cX6_tentTold 35 = .ok (.ldc_w 296, 3) := by decide +kernel
theorem dX6_tentTold_38 : decode cX6_tentTold 38 = .ok (.invokevirtual 298, 3) := by decide +kernel
theorem dX6_tentTold_41 : decode cX6_tentTold 41 = .ok (.ifCond .eq 16, 3) := by decide +kernel
theorem dX6_tentTold_44 : decode cX6_tentTold 44 = .ok (.aload_n 0, 1) := by decide +kernel
theorem dX6_tentTold_45 : decode cX6_tentTold 45 = .ok (.iload_n 2, 1) := by decide +kernel
theorem dX6_tentTold_46 : decode cX6_tentTold 46 = .ok (.iconst 1, 1) := by decide +kernel
theorem dX6_tentTold_47 : decode cX6_tentTold 47 = .ok (.aload_n 0, 1) := by decide +kernel
theorem dX6_tentTold_48 : decode cX6_tentTold 48 = .ok (.iconst 0, 1) := by decide +kernel
theorem dX6_tentTold_49 : decode cX6_tentTold 49 = .ok (.bipush 15, 2) := by decide +kernel
theorem dX6_tentTold_51 : decode cX6_tentTold 51 = .ok (.invokevirtual 300, 3) := by decide +kernel
theorem dX6_tentTold_54 : decode cX6_tentTold 54 = .ok (.invokevirtual 79, 3) := by decide +kernel
theorem dX6_tentTold_57 : decode cX6_tentTold 57 = .ok (.aload_n 0, 1) := by decide +kernel
theorem dX6_tentTold_58 : decode cX6_tentTold 58 = .ok (.ldc_w 303, 3) := by decide +kernel
theorem dX6_tentTold_61 : decode cX6_tentTold 61 = .ok (.invokevirtual 298, 3) := by decide +kernel
theorem dX6_tentTold_64 : decode cX6_tentTold 64 = .ok (.ifCond .eq 16, 3) := by decide +kernel
theorem dX6_tentTold_67 : decode cX6_tentTold 67 = .ok (.aload_n 0, 1) := by decide +kernel
theorem dX6_tentTold_68 : decode cX6_tentTold 68 = .ok (.iload_n 2, 1) := by decide +kernel
theorem dX6_tentTold_69 : decode cX6_tentTold 69 = .ok (.iconst 2, 1) := by decide +kernel
theorem dX6_tentTold_70 : decode cX6_tentTold 70 = .ok (.aload_n 0, 1) := by decide +kernel
theorem dX6_tentTold_71 : decode cX6_tentTold 71 = .ok (.iconst 0, 1) := by decide +kernel
theorem dX6_tentTold_72 : decode cX6_tentTold 72 = .ok (.bipush 99, 2) := by decide +kernel
theorem dX6_tentTold_74 : decode cX6_tentTold 74 = .ok (.invokevirtual 300, 3) := by decide +kernel
theorem dX6_tentTold_77 : decode cX6_tentTold 77 = .ok (.invokevirtual 79, 3) := by decide +kernel
theorem dX6_tentTold_80 : decode cX6_tentTold 80 = .ok (.aload_n 0, 1) := by decide +kernel
theorem dX6_tentTold_81 : decode cX6_tentTold 81 = .ok (.ldc_w 305, 3) := by decide +kernel
theorem dX6_tentTold_84 : decode cX6_tentTold 84 = .ok (.invokevirtual 298, 3) := by decide +kernel
theorem dX6_tentTold_87 : decode cX6_tentTold 87 = .ok (.ifCond .eq 31, 3) := by decide +kernel
theorem dX6_tentTold_90 : decode cX6_tentTold 90 = .ok (.iconst 0, 1) := by decide +kernel
theorem dX6_tentTold_91 : decode cX6_tentTold 91 = .ok (.istore_n 3, 1) := by decide +kernel
theorem dX6_tentTold_92 : decode cX6_tentTold 92 = .ok (.iload_n 3, 1) := by decide +kernel
theorem dX6_tentTold_93 : decode cX6_tentTold 93 = .ok (.iconst 4, 1) := by decide +kernel
theorem dX6_tentTold_94 : decode cX6_tentTold 94 = .ok (.if_icmp .ge 24, 3) := by decide +kernel
theorem dX6_tentTold_97 : decode cX6_tentTold 97 = .ok (.aload_n 0, 1) := by decide +kernel
theorem dX6_tentTold_98 : decode cX6_tentTold 98 = .ok (.iload_n 2, 1) := by decide +kernel
theorem dX6_tentTold_99 : decode cX6_tentTold 99 = .ok (.iconst 4, 1) := by decide +kernel
theorem dX6_tentTold_100 : decode cX6_tentTold 100 = .ok (.iload_n 3, 1) := by decide +kernel
theorem dX6_tentTold_101 : decode cX6_tentTold 101 = .ok (.iadd, 1) := by decide +kernel
theorem dX6_tentTold_102 : decode cX6_tentTold 102 = .ok (.aload_n 0, 1) := by decide +kernel
theorem dX6_tentTold_103 : decode cX6_tentTold 103 = .ok (.iconst 0, 1) := by decide +kernel
theorem dX6_tentTold_104 : decode cX6_tentTold 104 = .ok (.bipush 99, 2) := by decide +kernel
theorem dX6_tentTold_106 : decode cX6_tentTold 106 = .ok (.invokevirtual 300, 3) := by decide +kernel
theorem dX6_tentTold_109 : decode cX6_tentTold 109 = .ok (.invokevirtual 79, 3) := by decide +kernel
theorem dX6_tentTold_112 : decode cX6_tentTold 112 = .ok (.iinc 3 1, 3) := by decide +kernel
theorem dX6_tentTold_115 : decode cX6_tentTold 115 = .ok (.goto (-23), 3) := by decide +kernel
theorem dX6_tentTold_118 : decode cX6_tentTold 118 = .ok (.return_, 1) := by decide +kernel
theorem dX6_springTold_0 : decode cX6_springTold 0 = .ok (.aload_n 0, 1) := by decide +kernel
theorem dX6_springTold_1 : decode cX6_springTold 1 = .ok (.iconst 0, 1) := by decide +kernel
theorem dX6_springTold_2 : decode cX6_springTold 2 = .ok (.bipush 24, 2) := by decide +kernel
theorem dX6_springTold_4 : decode cX6_springTold 4 = .ok (.invokevirtual 300, 3) := by decide +kernel
theorem dX6_springTold_7 : decode cX6_springTold 7 = .ok (.istore_n 2, 1) := by decide +kernel
theorem dX6_springTold_8 : decode cX6_springTold 8 = .ok (.aload_n 0, 1) := by decide +kernel
theorem dX6_springTold_9 : decode cX6_springTold 9 = .ok (.getfield 258, 3) := by decide +kernel
theorem dX6_springTold_12 : decode cX6_springTold 12 = .ok (.ifCond .ne 9, 3) := by decide +kernel
theorem dX6_springTold_15 : decode cX6_springTold 15 = .ok (.aload_n 0, 1) := by decide +kernel
theorem dX6_springTold_16 : decode cX6_springTold 16 = .ok (.iload_n 2, 1) := by decide +kernel
theorem dX6_springTold_17 : decode cX6_springTold 17 = .ok (.iload_n 1, 1) := by decide +kernel
theorem dX6_springTold_18 : decode cX6_springTold 18 = .ok (.invokevirtual 99, 3) := by decide +kernel
theorem dX6_springTold_21 : decode cX6_springTold 21 = .ok (.return_, 1) := by decide +kernel
theorem dX6_item_0 : decode cX6_item 0 = .ok (.aload_n 0, 1) := by decide +kernel
theorem dX6_item_1 : decode cX6_item 1 = .ok (.invokevirtual 307, 3) := by decide +kernel
theorem dX6_item_4 : decode cX6_item 4 = .ok (.istore_n 1, 1) := by decide +kernel
theorem dX6_item_5 : decode cX6_item 5 = .ok (.iload_n 1, 1) := by decide +kernel
theorem dX6_item_6 : decode cX6_item 6 = .ok (.ifCond .lt 11, 3) := by decide +kernel
theorem dX6_item_9 : decode cX6_item 9 = .ok (.aload_n 0, 1) := by decide +kernel
theorem dX6_item_10 : decode cX6_item 10 = .ok (.iload_n 1, 1) := by decide +kernel
theorem dX6_item_11 : decode cX6_item 11 = .ok (.invokevirtual 310, 3) := by decide +kernel
theorem dX6_item_14 : decode cX6_item 14 = .ok (.goto 82, 3) := by decide +kernel
theorem dX6_item_17 : decode cX6_item 17 = .ok (.aload_n 0, 1) := by decide +kernel
theorem dX6_item_18 : decode cX6_item 18 = .ok (.ldc_w 313, 3) := by decide +kernel
theorem dX6_item_21 : decode cX6_item 21 = .ok (.invokevirtual 298, 3) := by decide +kernel
theorem dX6_item_24 : decode cX6_item 24 = .ok (.ifCond .eq 38, 3) := by decide +kernel
theorem dX6_item_27 : decode cX6_item 27 = .ok (.aload_n 0, 1) := by decide +kernel
theorem dX6_item_28 : decode cX6_item 28 = .ok (.iconst 0, 1) := by decide +kernel
theorem dX6_item_29 : decode cX6_item 29 = .ok (.bipush 24, 2) := by decide +kernel
theorem dX6_item_31 : decode cX6_item 31 = .ok (.invokevirtual 300, 3) := by decide +kernel
theorem dX6_item_34 : decode cX6_item 34 = .ok (.istore_n 2, 1) := by decide +kernel
theorem dX6_item_35 : decode cX6_item 35 = .ok (.aload_n 0, 1) := by decide +kernel
theorem dX6_item_36 : decode cX6_item 36 = .ok (.iconst 0, 1) := by decide +kernel
theorem dX6_item_37 : decode cX6_item 37 = .ok (.bipush 99, 2) := by decide +kernel
theorem dX6_item_39 : decode cX6_item 39 = .ok (.invokevirtual 300, 3) := by decide +kernel
theorem dX6_item_42 : decode cX6_item 42 = .ok (.istore_n 3, 1) := by decide +kernel
theorem dX6_item_43 : decode cX6_item 43 = .ok (.aload_n 0, 1) := by decide +kernel
theorem dX6_item_44 : decode cX6_item 44 = .ok (.getfield 258, 3) := by decide +kernel
theorem dX6_item_47 : decode cX6_item 47 = .ok (.ifCond .ne 12, 3) := by decide +kernel
theorem dX6_item_50 : decode cX6_item 50 = .ok (.aload_n 0, 1) := by decide +kernel
theorem dX6_item_51 : decode cX6_item 51 = .ok (.getfield 9, 3) := by decide +kernel
theorem dX6_item_54 : decode cX6_item 54 = .ok (.iconst 4, 1) := by decide +kernel
theorem dX6_item_55 : decode cX6_item 55 = .ok (.iload_n 2, 1) := by decide +kernel
theorem dX6_item_56 : decode cX6_item 56 = .ok (.iadd, 1) := by decide +kernel
theorem dX6_item_57 : decode cX6_item 57 = .ok (.iload_n 3, 1) := by decide +kernel
theorem dX6_item_58 : decode cX6_item 58 = .ok (.iastore, 1) := by decide +kernel
theorem dX6_item_59 : decode cX6_item 59 = .ok (.goto 37, 3) := by decide +kernel
theorem dX6_item_62 : decode cX6_item 62 = .ok (.aload_n 0, 1) := by decide +kernel
theorem dX6_item_63 : decode cX6_item 63 = .ok (.ldc_w 315, 3) := by decide +kernel
theorem dX6_item_66 : decode cX6_item 66 = .ok (.invokevirtual 298, 3) := by decide +kernel
theorem dX6_item_69 : decode cX6_item 69 = .ok (.ifCond .eq 11, 3) := by decide +kernel
theorem dX6_item_72 : decode cX6_item 72 = .ok (.aload_n 0, 1) := by decide +kernel
theorem dX6_item_73 : decode cX6_item 73 = .ok (.iconst 1, 1) := by decide +kernel
theorem dX6_item_74 : decode cX6_item 74 = .ok (.invokevirtual 317, 3) := by decide +kernel
theorem dX6_item_77 : decode cX6_item 77 = .ok (.goto 19, 3) := by decide +kernel
theorem dX6_item_80 : decode cX6_item 80 = .ok (.aload_n 0, 1) := by decide +kernel
theorem dX6_item_81 : decode cX6_item 81 = .ok (.aload_n 0, 1) := by decide +kernel
theorem dX6_item_82 : decode cX6_item 82 = .ok (.ldc_w 320, 3) := by decide +kernel
theorem dX6_item_85 : decode cX6_item 85 = .ok (.invokevirtual 274, 3) := by decide +kernel
theorem dX6_item_88 : decode cX6_item 88 = .ok (.invokevirtual 278, 3) := by decide +kernel
theorem dX6_item_91 : decode cX6_item 91 = .ok (.aload_n 0, 1) := by decide +kernel
theorem dX6_item_92 : decode cX6_item 92 = .ok (.iconst 0, 1) := by decide +kernel
theorem dX6_item_93 : decode cX6_item 93 = .ok (.invokevirtual 317, 3) := by decide +kernel
theorem dX6_item_96 : decode cX6_item 96 = .ok (.return_, 1) := by decide +kernel
theorem dX6_text_0 : decode cX6_text 0 = .ok (.aload_n 0, 1) := by decide +kernel
theorem dX6_text_1 : decode cX6_text 1 = .ok (.invokevirtual 191, 3) := by decide +kernel
theorem dX6_text_4 : decode cX6_text 4 = .ok (.aload_n 0, 1) := by decide +kernel
theorem dX6_text_5 : decode cX6_text 5 = .ok (.iconst 0, 1) := by decide +kernel
theorem dX6_text_6 : decode cX6_text 6 = .ok (.putfield 258, 3) := by decide +kernel
theorem dX6_text_9 : decode cX6_text 9 = .ok (.aload_n 0, 1) := by decide +kernel
theorem dX6_text_10 : decode cX6_text 10 = .ok (.iconst 0, 1) := by decide +kernel
theorem dX6_text_11 : decode cX6_text 11 = .ok (.putfield 249, 3) := by decide +kernel
theorem dX6_text_14 : decode cX6_text 14 = .ok (.aload_n 0, 1) := by decide +kernel
theorem dX6_text_15 : decode cX6_text 15 = .ok (.invokevirtual 271, 3) := by decide +kernel
theorem dX6_text_18 : decode cX6_text 18 = .ok (.aload_n 0, 1) := by decide +kernel
theorem dX6_text_19 : decode cX6_text 19 = .ok (.invokevirtual 322, 3) := by decide +kernel
theorem dX6_text_22 : decode cX6_text 22 = .ok (.iconst 1, 1) := by decide +kernel
theorem dX6_text_23 : decode cX6_text 23 = .ok (.istore_n 1, 1) := by decide +kernel
theorem dX6_text_24 : decode cX6_text 24 = .ok (.aload_n 0, 1) := by decide +kernel
theorem dX6_text_25 : decode cX6_text 25 = .ok (.getfield 258, 3) := by decide +kernel
theorem dX6_text_28 : decode cX6_text 28 = .ok (.ifCond .ne 35, 3) := by decide +kernel
theorem dX6_text_31 : decode cX6_text 31 = .ok (.aload_n 0, 1) := by decide +kernel
theorem dX6_text_32 : decode cX6_text 32 = .ok (.getfield 252, 3) := by decide +kernel
theorem dX6_text_35 : decode cX6_text 35 = .ok (.aload_n 0, 1) := by decide +kernel
theorem dX6_text_36 : decode cX6_text 36 = .ok (.getfield 245, 3) := by decide +kernel
theorem dX6_text_39 : decode cX6_text 39 = .ok (.if_icmp .ge 24, 3) := by decide +kernel
theorem dX6_text_42 : decode cX6_text 42 = .ok (.aload_n 0, 1) := by decide +kernel
theorem dX6_text_43 : decode cX6_text 43 = .ok (.aload_n 0, 1) := by decide +kernel
theorem dX6_text_44 : decode cX6_text 44 = .ok (.ldc_w 325, 3) := by decide +kernel
theorem dX6_text_47 : decode cX6_text 47 = .ok (.invokevirtual 274, 3) := by decide +kernel
theorem dX6_text_50 : decode cX6_text 50 = .ok (.invokevirtual 278, 3) := by decide +kernel
theorem dX6_text_53 : decode cX6_text 53 = .ok (.aload_n 0, 1) := by decide +kernel
theorem dX6_text_54 : decode cX6_text 54 = .ok (.invokevirtual 322, 3) := by decide +kernel
theorem dX6_text_57 : decode cX6_text 57 = .ok (.iinc 1 1, 3) := by decide +kernel
theorem dX6_text_60 : decode cX6_text 60 = .ok (.goto (-36), 3) := by decide +kernel
theorem dX6_text_63 : decode cX6_text 63 = .ok (.aload_n 0, 1) := by decide +kernel
theorem dX6_text_64 : decode cX6_text 64 = .ok (.iconst 0, 1) := by decide +kernel
theorem dX6_text_65 : decode cX6_text 65 = .ok (.putfield 245, 3) := by decide +kernel
theorem dX6_text_68 : decode cX6_text 68 = .ok (.aload_n 0, 1) := by decide +kernel
theorem dX6_text_69 : decode cX6_text 69 = .ok (.getfield 258, 3) := by decide +kernel
theorem dX6_text_72 : decode cX6_text 72 = .ok (.ifCond .eq 14, 3) := by decide +kernel
theorem dX6_text_75 : decode cX6_text 75 = .ok (.aload_n 0, 1) := by decide +kernel
theorem dX6_text_76 : decode cX6_text 76 = .ok (.invokevirtual 194, 3) := by decide +kernel
theorem dX6_text_79 : decode cX6_text 79 = .ok (.iconst (-1), 1) := by decide +kernel
theorem dX6_text_80 : decode cX6_text 80 = .ok (.aload_n 0, 1) := by decide +kernel
theorem dX6_text_81 : decode cX6_text 81 = .ok (.getfield 252, 3) := by decide +kernel
theorem dX6_text_84 : decode cX6_text 84 = .ok (.isub, 1) := by decide +kernel
theorem dX6_text_85 : decode cX6_text 85 = .ok (.ireturn, 1) := by decide +kernel
theorem dX6_text_86 : decode cX6_text 86 = .ok (.iload_n 1, 1) := by decide +kernel
theorem dX6_text_87 : decode cX6_text 87 = .ok (.ireturn, 1) := by decide +kernel
theorem dX6_isSpot_0 : decode cX6_isSpot 0 = .ok (.iload_n 0, 1) := by decide +kernel
theorem dX6_isSpot_1 : decode cX6_isSpot 1 = .ok (.i2l, 1) := by decide +kernel
theorem dX6_isSpot_2 : decode cX6_isSpot 2 = .ok (.lconst 0, 1) := by decide +kernel
theorem dX6_isSpot_3 : decode cX6_isSpot 3 = .ok (.ldc2_w 327, 3) := by decide +kernel
theorem dX6_isSpot_6 : decode cX6_isSpot 6 = .ok (.invokestatic 48, 3) := by decide +kernel
theorem dX6_isSpot_9 : decode cX6_isSpot 9 = .ok (.ireturn, 1) := by decide +kernel
theorem dX6_hold_0 : decode cX6_hold 0 = .ok (.iload_n 1, 1) := by decide +kernel
theorem dX6_hold_1 : decode cX6_hold 1 = .ok (.invokestatic 329, 3) := by decide +kernel
theorem dX6_hold_4 : decode cX6_hold 4 = .ok (.ifCond .eq 16, 3) := by decide +kernel
theorem dX6_hold_7 : decode cX6_hold 7 = .ok (.iload_n 2, 1) := by decide +kernel
theorem dX6_hold_8 : decode cX6_hold 8 = .ok (.iconst (-1), 1) := by decide +kernel
theorem dX6_hold_9 : decode cX6_hold 9 = .ok (.if_icmp .eq 17, 3) := by decide +kernel
theorem dX6_hold_12 : decode cX6_hold 12 = .ok (.aload_n 0, 1) := by decide +kernel
theorem dX6_hold_13 : decode cX6_hold 13 = .ok (.iload_n 2, 1) := by decide +kernel
theorem dX6_hold_14 : decode cX6_hold 14 = .ok (.invokevirtual 127, 3) := by decide +kernel
theorem dX6_hold_17 : decode cX6_hold 17 = .ok (.ifCond .ne 9, 3) := by decide +kernel
theorem dX6_hold_20 : decode cX6_hold 20 = .ok (.aload_n 0, 1) := by decide +kernel
theorem dX6_hold_21 : decode cX6_hold 21 = .ok (.iconst 0, 1) := by decide +kernel
theorem dX6_hold_22 : decode cX6_hold 22 = .ok (.invokevirtual 93, 3) := by decide +kernel
theorem dX6_hold_25 : decode cX6_hold 25 = .ok (.ireturn, 1) := by decide +kernel
theorem dX6_hold_26 : decode cX6_hold 26 = .ok (.aload_n 0, 1) := by decide +kernel
theorem dX6_hold_27 : decode cX6_hold 27 = .ok (.getfield 9, 3) := by decide +kernel
theorem dX6_hold_30 : decode cX6_hold 30 = .ok (.bipush 77, 2) := by decide +kernel
theorem dX6_hold_32 : decode cX6_hold 32 = .ok (.iload_n 1, 1) := by decide +kernel
theorem dX6_hold_33 : decode cX6_hold 33 = .ok (.iadd, 1) := by decide +kernel
theorem dX6_hold_34 : decode cX6_hold 34 = .ok (.iload_n 2, 1) := by decide +kernel
theorem dX6_hold_35 : decode cX6_hold 35 = .ok (.iastore, 1) := by decide +kernel
theorem dX6_hold_36 : decode cX6_hold 36 = .ok (.iconst 1, 1) := by decide +kernel
theorem dX6_hold_37 : decode cX6_hold 37 = .ok (.ireturn, 1) := by decide +kernel
theorem dX6_as_0 : decode cX6_as 0 = .ok (.iload_n 1, 1) := by decide +kernel
theorem dX6_as_1 : decode cX6_as 1 = .ok (.invokestatic 329, 3) := by decide +kernel
theorem dX6_as_4 : decode cX6_as 4 = .ok (.ifCond .eq 10, 3) := by decide +kernel
theorem dX6_as_7 : decode cX6_as 7 = .ok (.iload_n 2, 1) := by decide +kernel
theorem dX6_as_8 : decode cX6_as 8 = .ok (.invokestatic 121, 3) := by decide +kernel
theorem dX6_as_11 : decode cX6_as 11 = .ok (.ifCond .ne 9, 3) := by decide +kernel
theorem dX6_as_14 : decode cX6_as 14 = .ok (.aload_n 0, 1) := by decide +kernel
theorem dX6_as_15 : decode cX6_as 15 = .ok (.iconst 0, 1) := by decide +kernel
theorem dX6_as_16 : decode cX6_as 16 = .ok (.invokevirtual 93, 3) := by decide +kernel
theorem dX6_as_19 : decode cX6_as 19 = .ok (.ireturn, 1) := by decide +kernel
theorem dX6_as_20 : decode cX6_as 20 = .ok (.aload_n 0, 1) := by decide +kernel
theorem dX6_as_21 : decode cX6_as 21 = .ok (.getfield 9, 3) := by decide +kernel
theorem dX6_as_24 : decode cX6_as 24 = .ok (.bipush 77, 2) := by decide +kernel
theorem dX6_as_26 : decode cX6_as 26 = .ok (.iload_n 1, 1) := by decide +kernel
theorem dX6_as_27 : decode cX6_as 27 = .ok (.iadd, 1) := by decide +kernel
theorem dX6_as_28 : decode cX6_as 28 = .ok (.iaload, 1) := by decide +kernel
theorem dX6_as_29 : decode cX6_as 29 = .ok (.istore_n 3, 1) := by decide +kernel
theorem dX6_as_30 : decode cX6_as 30 = .ok (.iload_n 3, 1) := by decide +kernel
theorem dX6_as_31 : decode cX6_as 31 = .ok (.ifCond .ge 9, 3) := by decide +kernel
theorem dX6_as_34 : decode cX6_as 34 = .ok (.aload_n 0, 1) := by decide +kernel
theorem dX6_as_35 : decode cX6_as 35 = .ok (.iconst 5, 1) := by decide +kernel
theorem dX6_as_36 : decode cX6_as 36 = .ok (.invokevirtual 93, 3) := by decide +kernel
theorem dX6_as_39 : decode cX6_as 39 = .ok (.ireturn, 1) := by decide +kernel
theorem dX6_as_40 : decode cX6_as 40 = .ok (.aload_n 0, 1) := by decide +kernel
theorem dX6_as_41 : decode cX6_as 41 = .ok (.iload_n 3, 1) := by decide +kernel
theorem dX6_as_42 : decode cX6_as 42 = .ok (.iconst 0, 1) := by decide +kernel
theorem dX6_as_43 : decode cX6_as 43 = .ok (.invokevirtual 76, 3) := by decide +kernel
theorem dX6_as_46 : decode cX6_as 46 = .ok (.iload_n 2, 1) := by decide +kernel
theorem dX6_as_47 : decode cX6_as 47 = .ok (.invokestatic 332, 3) := by decide +kernel
theorem dX6_as_50 : decode cX6_as 50 = .ok (.ifCond .eq 7, 3) := by decide +kernel
theorem dX6_as_53 : decode cX6_as 53 = .ok (.iload_n 3, 1) := by decide +kernel
theorem dX6_as_54 : decode cX6_as 54 = .ok (.goto 8, 3) := by decide +kernel
theorem dX6_as_57 : decode cX6_as 57 = .ok (.aload_n 0, 1) := by decide +kernel
theorem dX6_as_58 : decode cX6_as 58 = .ok (.iconst 2, 1) := by decide +kernel
theorem dX6_as_59 : decode cX6_as 59 = .ok (.invokevirtual 93, 3) := by decide +kernel
theorem dX6_as_62 : decode cX6_as 62 = .ok (.ireturn, 1) := by decide +kernel
theorem dX6_isSheet_0 : decode cX6_isSheet 0 = .ok (.iload_n 0, 1) := by decide +kernel
theorem dX6_isSheet_1 : decode cX6_isSheet 1 = .ok (.i2l, 1) := by decide +kernel
theorem dX6_isSheet_2 : decode cX6_isSheet 2 = .ok (.lconst 0, 1) := by decide +kernel
theorem dX6_isSheet_3 : decode cX6_isSheet 3 = .ok (.ldc2_w 113, 3) := by decide +kernel
theorem dX6_isSheet_6 : decode cX6_isSheet 6 = .ok (.invokestatic 48, 3) := by decide +kernel
theorem dX6_isSheet_9 : decode cX6_isSheet 9 = .ok (.ireturn, 1) := by decide +kernel
theorem dX6_sheet_0 : decode cX6_sheet 0 = .ok (.iload_n 2, 1) := by decide +kernel
theorem dX6_sheet_1 : decode cX6_sheet 1 = .ok (.ifCond .eq 21, 3) := by decide +kernel
theorem dX6_sheet_4 : decode cX6_sheet 4 = .ok (.iload_n 2, 1) := by decide +kernel
theorem dX6_sheet_5 : decode cX6_sheet 5 = .ok (.bipush 8, 2) := by decide +kernel
theorem dX6_sheet_7 : decode cX6_sheet 7 = .ok (.if_icmp .eq 15, 3) := by decide +kernel
theorem dX6_sheet_10 : decode cX6_sheet 10 = .ok (.iload_n 2, 1) := by decide +kernel
theorem dX6_sheet_11 : decode cX6_sheet 11 = .ok (.bipush 16, 2) := by decide +kernel
theorem dX6_sheet_13 : decode cX6_sheet 13 = .ok (.if_icmp .eq 9, 3) := by decide +kernel
theorem dX6_sheet_16 : decode cX6_sheet 16 = .ok (.iload_n 2, 1) := by decide +kernel
theorem dX6_sheet_17 : decode cX6_sheet 17 = .ok (.bipush 32, 2) := by decide +kernel
theorem dX6_sheet_19 : decode cX6_sheet 19 = .ok (.if_icmp .ne 7, 3) := by decide +kernel
theorem dX6_sheet_22 : decode cX6_sheet 22 = .ok (.iconst 1, 1) := by decide +kernel
theorem dX6_sheet_23 : decode cX6_sheet 23 = .ok (.goto 4, 3) := by decide +kernel
theorem dX6_sheet_26 : decode cX6_sheet 26 = .ok (.iconst 0, 1) := by decide +kernel
theorem dX6_sheet_27 : decode cX6_sheet 27 = .ok (.istore 4, 2) := by decide +kernel
theorem dX6_sheet_29 : decode cX6_sheet 29 = .ok (.iload_n 1, 1) := by decide +kernel
theorem dX6_sheet_30 : decode cX6_sheet 30 = .ok (.invokestatic 335, 3) := by decide +kernel
theorem dX6_sheet_33 : decode cX6_sheet 33 = .ok (.ifCond .eq 8, 3) := by decide +kernel
theorem dX6_sheet_36 : decode cX6_sheet 36 = .ok (.iload 4, 2) := by decide +kernel
theorem dX6_sheet_38 : decode cX6_sheet 38 = .ok (.ifCond .ne 9, 3) := by decide +kernel
theorem dX6_sheet_41 : decode cX6_sheet 41 = .ok (.aload_n 0, 1) := by decide +kernel
theorem dX6_sheet_42 : decode cX6_sheet 42 = .ok (.iconst 0, 1) := by decide +kernel
theorem dX6_sheet_43 : decode cX6_sheet 43 = .ok (.invokevirtual 93, 3) := by decide +kernel
theorem dX6_sheet_46 : decode cX6_sheet 46 = .ok (.ireturn, 1) := by decide +kernel
theorem dX6_sheet_47 : decode cX6_sheet 47 = .ok (.iload_n 3, 1) := by decide +kernel
theorem dX6_sheet_48 : decode cX6_sheet 48 = .ok (.ifCond .ge 10, 3) := by decide +kernel
theorem dX6_sheet_51 : decode cX6_sheet 51 = .ok (.aload_n 0, 1) := by decide +kernel
theorem dX6_sheet_52 : decode cX6_sheet 52 = .ok (.bipush 6, 2) := by decide +kernel
theorem dX6_sheet_54 : decode cX6_sheet 54 = .ok (.invokevirtual 93, 3) := by decide +kernel
theorem dX6_sheet_57 : decode cX6_sheet 57 = .ok (.ireturn, 1) := by decide +kernel
theorem dX6_sheet_58 : decode cX6_sheet 58 = .ok (.iload_n 3, 1) := by decide +kernel
theorem dX6_sheet_59 : decode cX6_sheet 59 = .ok (.bipush 40, 2) := by decide +kernel
theorem dX6_sheet_61 : decode cX6_sheet 61 = .ok (.if_icmp .le 9, 3) := by decide +kernel
theorem dX6_sheet_64 : decode cX6_sheet 64 = .ok (.aload_n 0, 1) := by decide +kernel
theorem dX6_sheet_65 : decode cX6_sheet 65 = .ok (.iconst 0, 1) := by decide +kernel
theorem dX6_sheet_66 : decode cX6_sheet 66 = .ok (.invokevirtual 93, 3) := by decide +kernel
theorem dX6_sheet_69 : decode cX6_sheet 69 = .ok (.ireturn, 1) := by decide +kernel
theorem dX6_sheet_70 : decode cX6_sheet 70 = .ok (.aload_n 0, 1) := by decide +kernel
theorem dX6_sheet_71 : decode cX6_sheet 71 = .ok (.getfield 31, 3) := by decide +kernel
theorem dX6_sheet_74 : decode cX6_sheet 74 = .ok (.iload_n 1, 1) := by decide +kernel
theorem dX6_sheet_75 : decode cX6_sheet 75 = .ok (.iload_n 2, 1) := by decide +kernel
theorem dX6_sheet_76 : decode cX6_sheet 76 = .ok (.iastore, 1) := by decide +kernel
theorem dX6_sheet_77 : decode cX6_sheet 77 = .ok (.aload_n 0, 1) := by decide +kernel
theorem dX6_sheet_78 : decode cX6_sheet 78 = .ok (.getfield 34, 3) := by decide +kernel
theorem dX6_sheet_81 : decode cX6_sheet 81 = .ok (.iload_n 1, 1) := by decide +kernel
theorem dX6_sheet_82 : decode cX6_sheet 82 = .ok (.iload_n 2, 1) := by decide +kernel
theorem dX6_sheet_83 : decode cX6_sheet 83 = .ok (.ifCond .ne 7, 3) := by decide +kernel
theorem dX6_sheet_86 : decode cX6_sheet 86 = .ok (.iconst 0, 1) := by decide +kernel
theorem dX6_sheet_87 : decode cX6_sheet 87 = .ok (.goto 4, 3) := by decide +kernel
theorem dX6_sheet_90 : decode cX6_sheet 90 = .ok (.iload_n 3, 1) := by decide +kernel
theorem dX6_sheet_91 : decode cX6_sheet 91 = .ok (.iastore, 1) := by decide +kernel
theorem dX6_sheet_92 : decode cX6_sheet 92 = .ok (.iconst 0, 1) := by decide +kernel
theorem dX6_sheet_93 : decode cX6_sheet 93 = .ok (.istore 5, 2) := by decide +kernel
theorem dX6_sheet_95 : decode cX6_sheet 95 = .ok (.iload 5, 2) := by decide +kernel
theorem dX6_sheet_97 : decode cX6_sheet 97 = .ok (.bipush 40, 2) := by decide +kernel
theorem dX6_sheet_99 : decode cX6_sheet 99 = .ok (.if_icmp .ge 22, 3) := by decide +kernel
theorem dX6_sheet_102 : decode cX6_sheet 102 = .ok (.aload_n 0, 1) := by decide +kernel
theorem dX6_sheet_103 : decode cX6_sheet 103 = .ok (.getfield 37, 3) := by decide +kernel
theorem dX6_sheet_106 : decode cX6_sheet 106 = .ok (.bipush 40, 2) := by decide +kernel
theorem dX6_sheet_108 : decode cX6_sheet 108 = .ok (.iload_n 1, 1) := by decide +kernel
theorem dX6_sheet_109 : decode cX6_sheet 109 = .ok (.imul, 1) := by decide +kernel
theorem dX6_sheet_110 : decode cX6_sheet 110 = .ok (.iload 5, 2) := by decide +kernel
theorem dX6_sheet_112 : decode cX6_sheet 112 = .ok (.iadd, 1) := by decide +kernel
theorem dX6_sheet_113 : decode cX6_sheet 113 = .ok (.iconst 0, 1) := by decide +kernel
theorem dX6_sheet_114 : decode cX6_sheet 114 = .ok (.iastore, 1) := by decide +kernel
theorem dX6_sheet_115 : decode cX6_sheet 115 = .ok (.iinc 5 1, 3) := by decide +kernel
theorem dX6_sheet_118 : decode cX6_sheet 118 = .ok (.goto (-23), 3) := by decide +kernel
theorem dX6_sheet_121 : decode cX6_sheet 121 = .ok (.aload_n 0, 1) := by decide +kernel
theorem dX6_sheet_122 : decode cX6_sheet 122 = .ok (.getfield 34, 3) := by decide +kernel
theorem dX6_sheet_125 : decode cX6_sheet 125 = .ok (.iload_n 1, 1) := by decide +kernel
theorem dX6_sheet_126 : decode cX6_sheet 126 = .ok (.iaload, 1) := by decide +kernel
theorem dX6_sheet_127 : decode cX6_sheet 127 = .ok (.ireturn, 1) := by decide +kernel
theorem dX6_lacks_0 : decode cX6_lacks 0 = .ok (.iload_n 1, 1) := by decide +kernel
theorem dX6_lacks_1 : decode cX6_lacks 1 = .ok (.invokestatic 335, 3) := by decide +kernel
theorem dX6_lacks_4 : decode cX6_lacks 4 = .ok (.ifCond .ne 7, 3) := by decide +kernel
theorem dX6_lacks_7 : decode cX6_lacks 7 = .ok (.iconst 0, 1) := by decide +kernel
theorem dX6_lacks_8 : decode cX6_lacks 8 = .ok (.goto 17, 3) := by decide +kernel
theorem dX6_lacks_11 : decode cX6_lacks 11 = .ok (.aload_n 0, 1) := by decide +kernel
theorem dX6_lacks_12 : decode cX6_lacks 12 = .ok (.getfield 31, 3) := by decide +kernel
theorem dX6_lacks_15 : decode cX6_lacks 15 = .ok (.iload_n 1, 1) := by decide +kernel
theorem dX6_lacks_16 : decode cX6_lacks 16 = .ok (.iaload, 1) := by decide +kernel
theorem dX6_lacks_17 : decode cX6_lacks 17 = .ok (.ifCond .ne 7, 3) := by decide +kernel
theorem dX6_lacks_20 : decode cX6_lacks 20 = .ok (.iconst 5, 1) := by decide +kernel
theorem dX6_lacks_21 : decode cX6_lacks 21 = .ok (.goto 4, 3) := by decide +kernel
theorem dX6_lacks_24 : decode cX6_lacks 24 = .ok (.iconst (-1), 1) := by decide +kernel
theorem dX6_lacks_25 : decode cX6_lacks 25 = .ok (.ireturn, 1) := by decide +kernel
theorem dX6_write_0 : decode cX6_write 0 = .ok (.aload_n 0, 1) := by decide +kernel
theorem dX6_write_1 : decode cX6_write 1 = .ok (.iload_n 1, 1) := by decide +kernel
theorem dX6_write_2 : decode cX6_write 2 = .ok (.invokevirtual 225, 3) := by decide +kernel
theorem dX6_write_5 : decode cX6_write 5 = .ok (.istore 4, 2) := by decide +kernel
theorem dX6_write_7 : decode cX6_write 7 = .ok (.iload 4, 2) := by decide +kernel
theorem dX6_write_9 : decode cX6_write 9 = .ok (.ifCond .lt 10, 3) := by decide +kernel
theorem dX6_write_12 : decode cX6_write 12 = .ok (.aload_n 0, 1) := by decide +kernel
theorem dX6_write_13 : decode cX6_write 13 = .ok (.iload 4, 2) := by decide +kernel
theorem dX6_write_15 : decode cX6_write 15 = .ok (.invokevirtual 93, 3) := by decide +kernel
theorem dX6_write_18 : decode cX6_write 18 = .ok (.ireturn, 1) := by decide +kernel
theorem dX6_write_19 : decode cX6_write 19 = .ok (.iload_n 2, 1) := by decide +kernel
theorem dX6_write_20 : decode cX6_write 20 = .ok (.i2l, 1) := by decide +kernel
theorem dX6_write_21 : decode cX6_write 21 = .ok (.lconst 0, 1) := by decide +kernel
theorem dX6_write_22 : decode cX6_write 22 = .ok (.aload_n 0, 1) := by decide +kernel
theorem dX6_write_23 : decode cX6_write 23 = .ok (.getfield 34, 3) := by decide +kernel
theorem dX6_write_26 : decode cX6_write 26 = .ok (.iload_n 1, 1) := by decide +kernel
theorem dX6_write_27 : decode cX6_write 27 = .ok (.iaload, 1) := by decide +kernel
theorem dX6_write_28 : decode cX6_write 28 = .ok (.iconst 1, 1) := by decide +kernel
theorem dX6_write_29 : decode cX6_write 29 = .ok (.isub, 1) := by decide +kernel
theorem dX6_write_30 : decode cX6_write 30 = .ok (.i2l, 1) := by decide +kernel
theorem dX6_write_31 : decode cX6_write 31 = .ok (.invokestatic 48, 3) := by decide +kernel
theorem dX6_write_34 : decode cX6_write 34 = .ok (.ifCond .ne 9, 3) := by decide +kernel
theorem dX6_write_37 : decode cX6_write 37 = .ok (.aload_n 0, 1) := by decide +kernel
theorem dX6_write_38 : decode cX6_write 38 = .ok (.iconst 0, 1) := by decide +kernel
theorem dX6_write_39 : decode cX6_write 39 = .ok (.invokevirtual 93, 3) := by decide +kernel
theorem dX6_write_42 : decode cX6_write 42 = .ok (.ireturn, 1) := by decide +kernel
theorem dX6_write_43 : decode cX6_write 43 = .ok (.aload_n 0, 1) := by decide +kernel
theorem dX6_write_44 : decode cX6_write 44 = .ok (.getfield 37, 3) := by decide +kernel
theorem dX6_write_47 : decode cX6_write 47 = .ok (.bipush 40, 2) := by decide +kernel
theorem dX6_write_49 : decode cX6_write 49 = .ok (.iload_n 1, 1) := by decide +kernel
theorem dX6_write_50 : decode cX6_write 50 = .ok (.imul, 1) := by decide +kernel
theorem dX6_write_51 : decode cX6_write 51 = .ok (.iload_n 2, 1) := by decide +kernel
theorem dX6_write_52 : decode cX6_write 52 = .ok (.iadd, 1) := by decide +kernel
theorem dX6_write_53 : decode cX6_write 53 = .ok (.aload_n 0, 1) := by decide +kernel
theorem dX6_write_54 : decode cX6_write 54 = .ok (.getfield 31, 3) := by decide +kernel
theorem dX6_write_57 : decode cX6_write 57 = .ok (.iload_n 1, 1) := by decide +kernel
theorem dX6_write_58 : decode cX6_write 58 = .ok (.iaload, 1) := by decide +kernel
theorem dX6_write_59 : decode cX6_write 59 = .ok (.bipush 8, 2) := by decide +kernel
theorem dX6_write_61 : decode cX6_write 61 = .ok (.if_icmp .ne 8, 3) := by decide +kernel
theorem dX6_write_64 : decode cX6_write 64 = .ok (.iload_n 3, 1) := by decide +kernel
theorem dX6_write_65 : decode cX6_write 65 = .ok (.i2b, 1) := by decide +kernel
theorem dX6_write_66 : decode cX6_write 66 = .ok (.goto 20, 3) := by decide +kernel
theorem dX6_write_69 : decode cX6_write 69 = .ok (.aload_n 0, 1) := by decide +kernel
theorem dX6_write_70 : decode cX6_write 70 = .ok (.getfield 31, 3) := by decide +kernel
theorem dX6_write_73 : decode cX6_write 73 = .ok (.iload_n 1, 1) := by decide +kernel
theorem dX6_write_74 : decode cX6_write 74 = .ok (.iaload, 1) := by decide +kernel
theorem dX6_write_75 : decode cX6_write 75 = .ok (.bipush 16, 2) := by decide +kernel
theorem dX6_write_77 : decode cX6_write 77 = .ok (.if_icmp .ne 8, 3) := by decide +kernel
theorem dX6_write_80 : decode cX6_write 80 = .ok (.iload_n 3, 1) := by decide +kernel
theorem dX6_write_81 : decode cX6_write 81 = .ok (.i2s, 1) := by decide +kernel
theorem dX6_write_82 : decode cX6_write 82 = .ok (.goto 4, 3) := by decide +kernel
theorem dX6_write_85 : decode cX6_write 85 = .ok (.iload_n 3, 1) := by decide +kernel
theorem dX6_write_86 : decode cX6_write 86 = .ok (.iastore, 1) := by decide +kernel
theorem dX6_write_87 : decode cX6_write 87 = .ok (.iconst 1, 1) := by decide +kernel
theorem dX6_write_88 : decode cX6_write 88 = .ok (.ireturn, 1) := by decide +kernel
theorem dX6_copy_0 : decode cX6_copy 0 = .ok (.iload_n 1, 1) := by decide +kernel
theorem dX6_copy_1 : decode cX6_copy 1 = .ok (.invokestatic 335, 3) := by decide +kernel
theorem dX6_copy_4 : decode cX6_copy 4 = .ok (.ifCond .eq 10, 3) := by decide +kernel
theorem dX6_copy_7 : decode cX6_copy 7 = .ok (.iload_n 3, 1) := by decide +kernel
theorem dX6_copy_8 : decode cX6_copy 8 = .ok (.invokestatic 335, 3) := by decide +kernel
theorem dX6_copy_11 : decode cX6_copy 11 = .ok (.ifCond .ne 9, 3) := by decide +kernel
theorem dX6_copy_14 : decode cX6_copy 14 = .ok (.aload_n 0, 1) := by decide +kernel
theorem dX6_copy_15 : decode cX6_copy 15 = .ok (.iconst 0, 1) := by decide +kernel
theorem dX6_copy_16 : decode cX6_copy 16 = .ok (.invokevirtual 93, 3) := by decide +kernel
theorem dX6_copy_19 : decode cX6_copy 19 = .ok (.ireturn, 1) := by decide +kernel
theorem dX6_copy_20 : decode cX6_copy 20 = .ok (.aload_n 0, 1) := by decide +kernel
theorem dX6_copy_21 : decode cX6_copy 21 = .ok (.getfield 31, 3) := by decide +kernel
theorem dX6_copy_24 : decode cX6_copy 24 = .ok (.iload_n 1, 1) := by decide +kernel
theorem dX6_copy_25 : decode cX6_copy 25 = .ok (.iaload, 1) := by decide +kernel
theorem dX6_copy_26 : decode cX6_copy 26 = .ok (.ifCond .eq 12, 3) := by decide +kernel
theorem dX6_copy_29 : decode cX6_copy 29 = .ok (.aload_n 0, 1) := by decide +kernel
theorem dX6_copy_30 : decode cX6_copy 30 = .ok (.getfield 31, 3) := by decide +kernel
theorem dX6_copy_33 : decode cX6_copy 33 = .ok (.iload_n 3, 1) := by decide +kernel
theorem dX6_copy_34 : decode cX6_copy 34 = .ok (.iaload, 1) := by decide +kernel
theorem dX6_copy_35 : decode cX6_copy 35 = .ok (.ifCond .ne 9, 3) := by decide +kernel
theorem dX6_copy_38 : decode cX6_copy 38 = .ok (.aload_n 0, 1) := by decide +kernel
theorem dX6_copy_39 : decode cX6_copy 39 = .ok (.iconst 5, 1) := by decide +kernel
theorem dX6_copy_40 : decode cX6_copy 40 = .ok (.invokevirtual 93, 3) := by decide +kernel
theorem dX6_copy_43 : decode cX6_copy 43 = .ok (.ireturn, 1) := by decide +kernel
theorem dX6_copy_44 : decode cX6_copy 44 = .ok (.aload_n 0, 1) := by decide +kernel
theorem dX6_copy_45 : decode cX6_copy 45 = .ok (.getfield 31, 3) := by decide +kernel
theorem dX6_copy_48 : decode cX6_copy 48 = .ok (.iload_n 1, 1) := by decide +kernel
theorem dX6_copy_49 : decode cX6_copy 49 = .ok (.iaload, 1) := by decide +kernel
theorem dX6_copy_50 : decode cX6_copy 50 = .ok (.aload_n 0, 1) := by decide +kernel
theorem dX6_copy_51 : decode cX6_copy 51 = .ok (.getfield 31, 3) := by decide +kernel
theorem dX6_copy_54 : decode cX6_copy 54 = .ok (.iload_n 3, 1) := by decide +kernel
theorem dX6_copy_55 : decode cX6_copy 55 = .ok (.iaload, 1) := by decide +kernel
theorem dX6_copy_56 : decode cX6_copy 56 = .ok (.if_icmp .eq 9, 3) := by decide +kernel
theorem dX6_copy_59 : decode cX6_copy 59 = .ok (.aload_n 0, 1) := by decide +kernel
theorem dX6_copy_60 : decode cX6_copy 60 = .ok (.iconst 2, 1) := by decide +kernel
theorem dX6_copy_61 : decode cX6_copy 61 = .ok (.invokevirtual 93, 3) := by decide +kernel
theorem dX6_copy_64 : decode cX6_copy 64 = .ok (.ireturn, 1) := by decide +kernel
theorem dX6_copy_65 : decode cX6_copy 65 = .ok (.iload 5, 2) := by decide +kernel
theorem dX6_copy_67 : decode cX6_copy 67 = .ok (.ifCond .lt 51, 3) := by decide +kernel
theorem dX6_copy_70 : decode cX6_copy 70 = .ok (.iload_n 2, 1) := by decide +kernel
theorem dX6_copy_71 : decode cX6_copy 71 = .ok (.ifCond .lt 47, 3) := by decide +kernel
theorem dX6_copy_74 : decode cX6_copy 74 = .ok (.iload 4, 2) := by decide +kernel
theorem dX6_copy_76 : decode cX6_copy 76 = .ok (.ifCond .lt 42, 3) := by decide +kernel
theorem dX6_copy_79 : decode cX6_copy 79 = .ok (.iload_n 2, 1) := by decide +kernel
theorem dX6_copy_80 : decode cX6_copy 80 = .ok (.i2l, 1) := by decide +kernel
theorem dX6_copy_81 : decode cX6_copy 81 = .ok (.iload 5, 2) := by decide +kernel
theorem dX6_copy_83 : decode cX6_copy 83 = .ok (.i2l, 1) := by decide +kernel
theorem dX6_copy_84 : decode cX6_copy 84 = .ok (.ladd, 1) := by decide +kernel
theorem dX6_copy_85 : decode cX6_copy 85 = .ok (.aload_n 0, 1) := by decide +kernel
theorem dX6_copy_86 : decode cX6_copy 86 = .ok (.getfield 34, 3) := by decide +kernel
theorem dX6_copy_89 : decode cX6_copy 89 = .ok (.iload_n 1, 1) := by decide +kernel
theorem dX6_copy_90 : decode cX6_copy 90 = .ok (.iaload, 1) := by decide +kernel
theorem dX6_copy_91 : decode cX6_copy 91 = .ok (.i2l, 1) := by decide +kernel
theorem dX6_copy_92 : decode cX6_copy 92 = .ok (.lcmp, 1) := by decide +kernel
theorem dX6_copy_93 : decode cX6_copy 93 = .ok (.ifCond .gt 25, 3) := by decide +kernel
theorem dX6_copy_96 : decode cX6_copy 96 = .ok (.iload 4, 2) := by decide +kernel
theorem dX6_copy_98 : decode cX6_copy 98 = .ok (.i2l, 1) := by decide +kernel
theorem dX6_copy_99 : decode cX6_copy 99 = .ok (.iload 5, 2) := by decide +kernel
theorem dX6_copy_101 : decode cX6_copy 101 = .ok (.i2l, 1) := by decide +kernel
theorem dX6_copy_102 : decode cX6_copy 102 = .ok (.ladd, 1) := by decide +kernel
theorem dX6_copy_103 : decode cX6_copy 103 = .ok (.aload_n 0, 1) := by decide +kernel
theorem dX6_copy_104 : decode cX6_copy 104 = .ok (.getfield 34, 3) := by decide +kernel
theorem dX6_copy_107 : decode cX6_copy 107 = .ok (.iload_n 3, 1) := by decide +kernel
theorem dX6_copy_108 : decode cX6_copy 108 = .ok (.iaload, 1) := by decide +kernel
theorem dX6_copy_109 : decode cX6_copy 109 = .ok (.i2l, 1) := by decide +kernel
theorem dX6_copy_110 : decode cX6_copy 110 = .ok (.lcmp, 1) := by decide +kernel
theorem dX6_copy_111 : decode cX6_copy 111 = .ok (.ifCond .gt 7, 3) := by decide +kernel
theorem dX6_copy_114 : decode cX6_copy 114 = .ok (.iconst 1, 1) := by decide +kernel
theorem dX6_copy_115 : decode cX6_copy 115 = .ok (.goto 4, 3) := by decide +kernel
theorem dX6_copy_118 : decode cX6_copy 118 = .ok (.iconst 0, 1) := by decide +kernel
theorem dX6_copy_119 : decode cX6_copy 119 = .ok (.istore 6, 2) := by decide +kernel
theorem dX6_copy_121 : decode cX6_copy 121 = .ok (.iload 6, 2) := by decide +kernel
theorem dX6_copy_123 : decode cX6_copy 123 = .ok (.ifCond .ne 9, 3) := by decide +kernel
theorem dX6_copy_126 : decode cX6_copy 126 = .ok (.aload_n 0, 1) := by decide +kernel
theorem dX6_copy_127 : decode cX6_copy 127 = .ok (.iconst 0, 1) := by decide +kernel
theorem dX6_copy_128 : decode cX6_copy 128 = .ok (.invokevirtual 93, 3) := by decide +kernel
theorem dX6_copy_131 : decode cX6_copy 131 = .ok (.ireturn, 1) := by decide +kernel
theorem dX6_copy_132 : decode cX6_copy 132 = .ok (.iconst 0, 1) := by decide +kernel
theorem dX6_copy_133 : decode cX6_copy 133 = .ok (.istore 7, 2) := by decide +kernel
theorem dX6_copy_135 : decode cX6_copy 135 = .ok (.iload 7, 2) := by decide +kernel
theorem dX6_copy_137 : decode cX6_copy 137 = .ok (.iload 5, 2) := by decide +kernel
theorem dX6_copy_139 : decode cX6_copy 139 = .ok (.if_icmp .ge 30, 3) := by decide +kernel
theorem dX6_copy_142 : decode cX6_copy 142 = .ok (.aload_n 0, 1) := by decide +kernel
theorem dX6_copy_143 : decode cX6_copy 143 = .ok (.getfield 40, 3) := by decide +kernel
theorem dX6_copy_146 : decode cX6_copy 146 = .ok (.iload 7, 2) := by decide +kernel
theorem dX6_copy_148 : decode cX6_copy 148 = .ok (.aload_n 0, 1) := by decide +kernel
theorem dX6_copy_149 : decode cX6_copy 149 = .ok (.getfield 37, 3) := by decide +kernel
theorem dX6_copy_152 : decode cX6_copy 152 = .ok (.bipush 40, 2) := by decide +kernel
theorem dX6_copy_154 : decode cX6_copy 154 = .ok (.iload_n 1, 1) := by decide +kernel
theorem dX6_copy_155 : decode cX6_copy 155 = .ok (.imul, 1) := by decide +kernel
theorem dX6_copy_156 : decode cX6_copy 156 = .ok (.iload_n 2, 1) := by decide +kernel
theorem dX6_copy_157 : decode cX6_copy 157 = .ok (.iadd, 1) := by decide +kernel
theorem dX6_copy_158 : decode cX6_copy 158 = .ok (.iload 7, 2) := by decide +kernel
theorem dX6_copy_160 : decode cX6_copy 160 = .ok (.iadd, 1) := by decide +kernel
theorem dX6_copy_161 : decode cX6_copy 161 = .ok (.iaload, 1) := by decide +kernel
theorem dX6_copy_162 : decode cX6_copy 162 = .ok (.iastore, 1) := by decide +kernel
theorem dX6_copy_163 : decode cX6_copy 163 = .ok (.iinc 7 1, 3) := by decide +kernel
theorem dX6_copy_166 : decode cX6_copy 166 = .ok (.goto (-31), 3) := by decide +kernel
theorem dX6_copy_169 : decode cX6_copy 169 = .ok (.iconst 0, 1) := by decide +kernel
theorem dX6_copy_170 : decode cX6_copy 170 = .ok (.istore 7, 2) := by decide +kernel
theorem dX6_copy_172 : decode cX6_copy 172 = .ok (.iload 7, 2) := by decide +kernel
theorem dX6_copy_174 : decode cX6_copy 174 = .ok (.iload 5, 2) := by decide +kernel
theorem dX6_copy_176 : decode cX6_copy 176 = .ok (.if_icmp .ge 31, 3) := by decide +kernel
theorem dX6_copy_179 : decode cX6_copy 179 = .ok (.aload_n 0, 1) := by decide +kernel
theorem dX6_copy_180 : decode cX6_copy 180 = .ok (.getfield 37, 3) := by decide +kernel
theorem dX6_copy_183 : decode cX6_copy 183 = .ok (.bipush 40, 2) := by decide +kernel
theorem dX6_copy_185 : decode cX6_copy 185 = .ok (.iload_n 3, 1) := by decide +kernel
theorem dX6_copy_186 : decode cX6_copy 186 = .ok (.imul, 1) := by decide +kernel
theorem dX6_copy_187 : decode cX6_copy 187 = .ok (.iload 4, 2) := by decide +kernel
theorem dX6_copy_189 : decode cX6_copy 189 = .ok (.iadd, 1) := by decide +kernel
theorem dX6_copy_190 : decode cX6_copy 190 = .ok (.iload 7, 2) := by decide +kernel
theorem dX6_copy_192 : decode cX6_copy 192 = .ok (.iadd, 1) := by decide +kernel
theorem dX6_copy_193 : decode cX6_copy 193 = .ok (.aload_n 0, 1) := by decide +kernel
theorem dX6_copy_194 : decode cX6_copy 194 = .ok (.getfield 40, 3) := by decide +kernel
theorem dX6_copy_197 : decode cX6_copy 197 = .ok (.iload 7, 2) := by decide +kernel
theorem dX6_copy_199 : decode cX6_copy 199 = .ok (.iaload, 1) := by decide +kernel
theorem dX6_copy_200 : decode cX6_copy 200 = .ok (.iastore, 1) := by decide +kernel
theorem dX6_copy_201 : decode cX6_copy 201 = .ok (.iinc 7 1, 3) := by decide +kernel
theorem dX6_copy_204 : decode cX6_copy 204 = .ok (.goto (-32), 3) := by decide +kernel
theorem dX6_copy_207 : decode cX6_copy 207 = .ok (.iload 5, 2) := by decide +kernel
theorem dX6_copy_209 : decode cX6_copy 209 = .ok (.ireturn, 1) := by decide +kernel
theorem dX6_load_0 : decode cX6_load 0 = .ok (.aload_n 0, 1) := by decide +kernel
theorem dX6_load_1 : decode cX6_load 1 = .ok (.iload_n 1, 1) := by decide +kernel
theorem dX6_load_2 : decode cX6_load 2 = .ok (.invokevirtual 225, 3) := by decide +kernel
theorem dX6_load_5 : decode cX6_load 5 = .ok (.istore_n 2, 1) := by decide +kernel
theorem dX6_load_6 : decode cX6_load 6 = .ok (.iload_n 2, 1) := by decide +kernel
theorem dX6_load_7 : decode cX6_load 7 = .ok (.ifCond .lt 9, 3) := by decide +kernel
theorem dX6_load_10 : decode cX6_load 10 = .ok (.aload_n 0, 1) := by decide +kernel
theorem dX6_load_11 : decode cX6_load 11 = .ok (.iload_n 2, 1) := by decide +kernel
theorem dX6_load_12 : decode cX6_load 12 = .ok (.invokevirtual 93, 3) := by decide +kernel
theorem dX6_load_15 : decode cX6_load 15 = .ok (.ireturn, 1) := by decide +kernel
theorem dX6_load_16 : decode cX6_load 16 = .ok (.iconst 0, 1) := by decide +kernel
theorem dX6_load_17 : decode cX6_load 17 = .ok (.istore_n 3, 1) := by decide +kernel
theorem dX6_load_18 : decode cX6_load 18 = .ok (.iload_n 3, 1) := by decide +kernel
theorem dX6_load_19 : decode cX6_load 19 = .ok (.aload_n 0, 1) := by decide +kernel
theorem dX6_load_20 : decode cX6_load 20 = .ok (.getfield 34, 3) := by decide +kernel
theorem dX6_load_23 : decode cX6_load 23 = .ok (.iload_n 1, 1) := by decide +kernel
theorem dX6_load_24 : decode cX6_load 24 = .ok (.iaload, 1) := by decide +kernel
theorem dX6_load_25 : decode cX6_load 25 = .ok (.if_icmp .ge 51, 3) := by decide +kernel
theorem dX6_load_28 : decode cX6_load 28 = .ok (.iload_n 3, 1) := by decide +kernel
theorem dX6_load_29 : decode cX6_load 29 = .ok (.bipush 25, 2) := by decide +kernel
theorem dX6_load_31 : decode cX6_load 31 = .ok (.if_icmp .ge 45, 3) := by decide +kernel
theorem dX6_load_34 : decode cX6_load 34 = .ok (.aload_n 0, 1) := by decide +kernel
theorem dX6_load_35 : decode cX6_load 35 = .ok (.getfield 37, 3) := by decide +kernel
theorem dX6_load_38 : decode cX6_load 38 = .ok (.bipush 40, 2) := by decide +kernel
theorem dX6_load_40 : decode cX6_load 40 = .ok (.iload_n 1, 1) := by decide +kernel
theorem dX6_load_41 : decode cX6_load 41 = .ok (.imul, 1) := by decide +kernel
theorem dX6_load_42 : decode cX6_load 42 = .ok (.iload_n 3, 1) := by decide +kernel
theorem dX6_load_43 : decode cX6_load 43 = .ok (.iadd, 1) := by decide +kernel
theorem dX6_load_44 : decode cX6_load 44 = .ok (.iaload, 1) := by decide +kernel
theorem dX6_load_45 : decode cX6_load 45 = .ok (.invokestatic 87, 3) := by decide +kernel
theorem dX6_load_48 : decode cX6_load 48 = .ok (.ifCond .eq 28, 3) := by decide +kernel
theorem dX6_load_51 : decode cX6_load 51 = .ok (.aload_n 0, 1) := by decide +kernel
theorem dX6_load_52 : decode cX6_load 52 = .ok (.getfield 9, 3) := by decide +kernel
theorem dX6_load_55 : decode cX6_load 55 = .ok (.iconst 4, 1) := by decide +kernel
theorem dX6_load_56 : decode cX6_load 56 = .ok (.iload_n 3, 1) := by decide +kernel
theorem dX6_load_57 : decode cX6_load 57 = .ok (.iadd, 1) := by decide +kernel
theorem dX6_load_58 : decode cX6_load 58 = .ok (.aload_n 0, 1) := by decide +kernel
theorem dX6_load_59 : decode cX6_load 59 = .ok (.getfield 37, 3) := by decide +kernel
theorem dX6_load_62 : decode cX6_load 62 = .ok (.bipush 40, 2) := by decide +kernel
theorem dX6_load_64 : decode cX6_load 64 = .ok (.iload_n 1, 1) := by decide +kernel
theorem dX6_load_65 : decode cX6_load 65 = .ok (.imul, 1) := by decide +kernel
theorem dX6_load_66 : decode cX6_load 66 = .ok (.iload_n 3, 1) := by decide +kernel
theorem dX6_load_67 : decode cX6_load 67 = .ok (.iadd, 1) := by decide +kernel
theorem dX6_load_68 : decode cX6_load 68 = .ok (.iaload, 1) := by decide +kernel
theorem dX6_load_69 : decode cX6_load 69 = .ok (.iastore, 1) := by decide +kernel
theorem dX6_load_70 : decode cX6_load 70 = .ok (.iinc 3 1, 3) := by decide +kernel
theorem dX6_load_73 : decode cX6_load 73 = .ok (.goto (-55), 3) := by decide +kernel
theorem dX6_load_76 : decode cX6_load 76 = .ok (.iload_n 3, 1) := by decide +kernel
theorem dX6_load_77 : decode cX6_load 77 = .ok (.ireturn, 1) := by decide +kernel
theorem dX6_goesOn_0 : decode cX6_goesOn 0 = .ok (.aload_n 0, 1) := by decide +kernel
theorem dX6_goesOn_1 : decode cX6_goesOn 1 = .ok (.getfield 37, 3) := by decide +kernel
theorem dX6_goesOn_4 : decode cX6_goesOn 4 = .ok (.bipush 40, 2) := by decide +kernel
theorem dX6_goesOn_6 : decode cX6_goesOn 6 = .ok (.iload_n 1, 1) := by decide +kernel
theorem dX6_goesOn_7 : decode cX6_goesOn 7 = .ok (.imul, 1) := by decide +kernel
theorem dX6_goesOn_8 : decode cX6_goesOn 8 = .ok (.iload_n 2, 1) := by decide +kernel
theorem dX6_goesOn_9 : decode cX6_goesOn 9 = .ok (.iadd, 1) := by decide +kernel
theorem dX6_goesOn_10 : decode cX6_goesOn 10 = .ok (.iaload, 1) := by decide +kernel
theorem dX6_goesOn_11 : decode cX6_goesOn 11 = .ok (.istore 4, 2) := by decide +kernel
theorem dX6_goesOn_13 : decode cX6_goesOn 13 = .ok (.iload 4, 2) := by decide +kernel
theorem dX6_goesOn_15 : decode cX6_goesOn 15 = .ok (.invokestatic 83, 3) := by decide +kernel
theorem dX6_goesOn_18 : decode cX6_goesOn 18 = .ok (.ifCond .eq 34, 3) := by decide +kernel
theorem dX6_goesOn_21 : decode cX6_goesOn 21 = .ok (.iload_n 2, 1) := by decide +kernel
theorem dX6_goesOn_22 : decode cX6_goesOn 22 = .ok (.ifCond .eq 26, 3) := by decide +kernel
theorem dX6_goesOn_25 : decode cX6_goesOn 25 = .ok (.aload_n 0, 1) := by decide +kernel
theorem dX6_goesOn_26 : decode cX6_goesOn 26 = .ok (.aload_n 0, 1) := by decide +kernel
theorem dX6_goesOn_27 : decode cX6_goesOn 27 = .ok (.getfield 37, 3) := by decide +kernel
theorem dX6_goesOn_30 : decode cX6_goesOn 30 = .ok (.bipush 40, 2) := by decide +kernel
theorem dX6_goesOn_32 : decode cX6_goesOn 32 = .ok (.iload_n 1, 1) := by decide +kernel
theorem dX6_goesOn_33 : decode cX6_goesOn 33 = .ok (.imul, 1) := by decide +kernel
theorem dX6_goesOn_34 : decode cX6_goesOn 34 = .ok (.iload_n 2, 1) := by decide +kernel
theorem dX6_goesOn_35 : decode cX6_goesOn 35 = .ok (.iadd, 1) := by decide +kernel
theorem dX6_goesOn_36 : decode cX6_goesOn 36 = .ok (.iconst 1, 1) := by decide +kernel
theorem dX6_goesOn_37 : decode cX6_goesOn 37 = .ok (.isub, 1) := by decide +kernel
theorem dX6_goesOn_38 : decode cX6_goesOn 38 = .ok (.iaload, 1) := by decide +kernel
theorem dX6_goesOn_39 : decode cX6_goesOn 39 = .ok (.iload 4, 2) := by decide +kernel
theorem dX6_goesOn_41 : decode cX6_goesOn 41 = .ok (.iload_n 3, 1) := by decide +kernel
theorem dX6_goesOn_42 : decode cX6_goesOn 42 = .ok (.invokevirtual 179, 3) := by decide +kernel
theorem dX6_goesOn_45 : decode cX6_goesOn 45 = .ok (.ifCond .eq 7, 3) := by decide +kernel
theorem dX6_goesOn_48 : decode cX6_goesOn 48 = .ok (.iconst 1, 1) := by decide +kernel
theorem dX6_goesOn_49 : decode cX6_goesOn 49 = .ok (.goto 4, 3) := by decide +kernel
theorem dX6_goesOn_52 : decode cX6_goesOn 52 = .ok (.iconst 0, 1) := by decide +kernel
theorem dX6_goesOn_53 : decode cX6_goesOn 53 = .ok (.ireturn, 1) := by decide +kernel
theorem dX6_judge_0 : decode cX6_judge 0 = .ok (.aload_n 0, 1) := by decide +kernel
theorem dX6_judge_1 : decode cX6_judge 1 = .ok (.iload_n 1, 1) := by decide +kernel
theorem dX6_judge_2 : decode cX6_judge 2 = .ok (.invokevirtual 225, 3) := by decide +kernel
theorem dX6_judge_5 : decode cX6_judge 5 = .ok (.istore_n 3, 1) := by decide +kernel
theorem dX6_judge_6 : decode cX6_judge 6 = .ok (.iload_n 3, 1) := by decide +kernel
theorem dX6_judge_7 : decode cX6_judge 7 = .ok (.ifCond .lt 9, 3) := by decide +kernel
theorem dX6_judge_10 : decode cX6_judge 10 = .ok (.aload_n 0, 1) := by decide +kernel
theorem dX6_judge_11 : decode cX6_judge 11 = .ok (.iload_n 3, 1) := by decide +kernel
theorem dX6_judge_12 : decode cX6_judge 12 = .ok (.invokevirtual 93, 3) := by decide +kernel
theorem dX6_judge_15 : decode cX6_judge 15 = .ok (.ireturn, 1) := by decide +kernel
theorem dX6_judge_16 : decode cX6_judge 16 = .ok (.iload_n 2, 1) := by decide +kernel
theorem dX6_judge_17 : decode cX6_judge 17 = .ok (.invokestatic 87, 3) := by decide +kernel
theorem dX6_judge_20 : decode cX6_judge 20 = .ok (.ifCond .ne 9, 3) := by decide +kernel
theorem dX6_judge_23 : decode cX6_judge 23 = .ok (.aload_n 0, 1) := by decide +kernel
theorem dX6_judge_24 : decode cX6_judge 24 = .ok (.iconst 0, 1) := by decide +kernel
theorem dX6_judge_25 : decode cX6_judge 25 = .ok (.invokevirtual 93, 3) := by decide +kernel
theorem dX6_judge_28 : decode cX6_judge 28 = .ok (.ireturn, 1) := by decide +kernel
theorem dX6_judge_29 : decode cX6_judge 29 = .ok (.iconst 0, 1) := by decide +kernel
theorem dX6_judge_30 : decode cX6_judge 30 = .ok (.istore 4, 2) := by decide +kernel
theorem dX6_judge_32 : decode cX6_judge 32 = .ok (.iload 4, 2) := by decide +kernel
theorem dX6_judge_34 : decode cX6_judge 34 = .ok (.aload_n 0, 1) := by decide +kernel
theorem dX6_judge_35 : decode cX6_judge 35 = .ok (.getfield 34, 3) := by decide +kernel
theorem dX6_judge_38 : decode cX6_judge 38 = .ok (.iload_n 1, 1) := by decide +kernel
theorem dX6_judge_39 : decode cX6_judge 39 = .ok (.iaload, 1) := by decide +kernel
theorem dX6_judge_40 : decode cX6_judge 40 = .ok (.if_icmp .ge 20, 3) := by decide +kernel
theorem dX6_judge_43 : decode cX6_judge 43 = .ok (.aload_n 0, 1) := by decide +kernel
theorem dX6_judge_44 : decode cX6_judge 44 = .ok (.iload_n 1, 1) := by decide +kernel
theorem dX6_judge_45 : decode cX6_judge 45 = .ok (.iload 4, 2) := by decide +kernel
theorem dX6_judge_47 : decode cX6_judge 47 = .ok (.iload_n 2, 1) := by decide +kernel
theorem dX6_judge_48 : decode cX6_judge 48 = .ok (.invokevirtual 338, 3) := by decide +kernel
theorem dX6_judge_51 : decode cX6_judge 51 = .ok (.ifCond .eq 9, 3) := by decide +kernel
theorem dX6_judge_54 : decode cX6_judge 54 = .ok (.iinc 4 1, 3) := by decide +kernel
theorem dX6_judge_57 : decode cX6_judge 57 = .ok (.goto (-25), 3) := by decide +kernel
theorem dX6_judge_60 : decode cX6_judge 60 = .ok (.iload 4, 2) := by decide +kernel
theorem dX6_judge_62 : decode cX6_judge 62 = .ok (.aload_n 0, 1) := by decide +kernel
theorem dX6_judge_63 : decode cX6_judge 63 = .ok (.getfield 34, 3) := by decide +kernel
theorem dX6_judge_66 : decode cX6_judge 66 = .ok (.iload_n 1, 1) := by decide +kernel
theorem dX6_judge_67 : decode cX6_judge 67 = .ok (.iaload, 1) := by decide +kernel
theorem dX6_judge_68 : decode cX6_judge 68 = .ok (.if_icmp .ne 7, 3) := by decide +kernel
theorem dX6_judge_71 : decode cX6_judge 71 = .ok (.iconst 0, 1) := by decide +kernel
theorem dX6_judge_72 : decode cX6_judge 72 = .ok (.goto 7, 3) := by decide +kernel
theorem dX6_judge_75 : decode cX6_judge 75 = .ok (.iload 4, 2) := by decide +kernel
theorem dX6_judge_77 : decode cX6_judge 77 = .ok (.iconst 1, 1) := by decide +kernel
theorem dX6_judge_78 : decode cX6_judge 78 = .ok (.iadd, 1) := by decide +kernel
theorem dX6_judge_79 : decode cX6_judge 79 = .ok (.ireturn, 1) := by decide +kernel
theorem dX6_image_0 : decode cX6_image 0 = .ok (.aload_n 0, 1) := by decide +kernel
theorem dX6_image_1 : decode cX6_image 1 = .ok (.getfield 9, 3) := by decide +kernel
theorem dX6_image_4 : decode cX6_image 4 = .ok (.aload_n 0, 1) := by decide +kernel
theorem dX6_image_5 : decode cX6_image 5 = .ok (.getfield 13, 3) := by decide +kernel
theorem dX6_image_8 : decode cX6_image 8 = .ok (.invokestatic 44, 3) := by decide +kernel
theorem dX6_image_11 : decode cX6_image 11 = .ok (.aload_n 0, 1) := by decide +kernel
theorem dX6_image_12 : decode cX6_image 12 = .ok (.iconst 1, 1) := by decide +kernel
theorem dX6_image_13 : decode cX6_image 13 = .ok (.putfield 341, 3) := by decide +kernel
theorem dX6_image_16 : decode cX6_image 16 = .ok (.iconst 1, 1) := by decide +kernel
theorem dX6_image_17 : decode cX6_image 17 = .ok (.ireturn, 1) := by decide +kernel
theorem dX6_undo_0 : decode cX6_undo 0 = .ok (.aload_n 0, 1) := by decide +kernel
theorem dX6_undo_1 : decode cX6_undo 1 = .ok (.getfield 341, 3) := by decide +kernel
theorem dX6_undo_4 : decode cX6_undo 4 = .ok (.ifCond .ne 9, 3) := by decide +kernel
theorem dX6_undo_7 : decode cX6_undo 7 = .ok (.aload_n 0, 1) := by decide +kernel
theorem dX6_undo_8 : decode cX6_undo 8 = .ok (.iconst 3, 1) := by decide +kernel
theorem dX6_undo_9 : decode cX6_undo 9 = .ok (.invokevirtual 93, 3) := by decide +kernel
theorem dX6_undo_12 : decode cX6_undo 12 = .ok (.ireturn, 1) := by decide +kernel
theorem dX6_undo_13 : decode cX6_undo 13 = .ok (.aload_n 0, 1) := by decide +kernel
theorem dX6_undo_14 : decode cX6_undo 14 = .ok (.getfield 13, 3) := by decide +kernel
theorem dX6_undo_17 : decode cX6_undo 17 = .ok (.aload_n 0, 1) := by decide +kernel
theorem dX6_undo_18 : decode cX6_undo 18 = .ok (.getfield 9, 3) := by decide +kernel
theorem dX6_undo_21 : decode cX6_undo 21 = .ok (.invokestatic 44, 3) := by decide +kernel
theorem dX6_undo_24 : decode cX6_undo 24 = .ok (.aload_n 0, 1) := by decide +kernel
theorem dX6_undo_25 : decode cX6_undo 25 = .ok (.getfield 9, 3) := by decide +kernel
theorem dX6_undo_28 : decode cX6_undo 28 = .ok (.iconst 0, 1) := by decide +kernel
theorem dX6_undo_29 : decode cX6_undo 29 = .ok (.iaload, 1) := by decide +kernel
theorem dX6_undo_30 : decode cX6_undo 30 = .ok (.ireturn, 1) := by decide +kernel
theorem dX6_tear_0 : decode cX6_tear 0 = .ok (.aload_n 0, 1) := by decide +kernel
theorem dX6_tear_1 : decode cX6_tear 1 = .ok (.getfield 341, 3) := by decide +kernel
theorem dX6_tear_4 : decode cX6_tear 4 = .ok (.ifCond .eq 7, 3) := by decide +kernel
theorem dX6_tear_7 : decode cX6_tear 7 = .ok (.iconst 1, 1) := by decide +kernel
theorem dX6_tear_8 : decode cX6_tear 8 = .ok (.goto 4, 3) := by decide +kernel
theorem dX6_tear_11 : decode cX6_tear 11 = .ok (.iconst 0, 1) := by decide +kernel
theorem dX6_tear_12 : decode cX6_tear 12 = .ok (.istore_n 1, 1) := by decide +kernel
theorem dX6_tear_13 : decode cX6_tear 13 = .ok (.aload_n 0, 1) := by decide +kernel
theorem dX6_tear_14 : decode cX6_tear 14 = .ok (.iconst 0, 1) := by decide +kernel
theorem dX6_tear_15 : decode cX6_tear 15 = .ok (.putfield 341, 3) := by decide +kernel
theorem dX6_tear_18 : decode cX6_tear 18 = .ok (.iload_n 1, 1) := by decide +kernel
theorem dX6_tear_19 : decode cX6_tear 19 = .ok (.ireturn, 1) := by decide +kernel
theorem dX6_held__0 : decode cX6_held_ 0 = .ok (.iconst 0, 1) := by decide +kernel
theorem dX6_held__1 : decode cX6_held_ 1 = .ok (.istore_n 1, 1) := by decide +kernel
theorem dX6_held__2 : decode cX6_held_ 2 = .ok (.iconst 0, 1) := by decide +kernel
theorem dX6_held__3 : decode cX6_held_ 3 = .ok (.istore_n 2, 1) := by decide +kernel
theorem dX6_held__4 : decode cX6_held_ 4 = .ok (.iload_n 2, 1) := by decide +kernel
theorem dX6_held__5 : decode cX6_held_ 5 = .ok (.bipush 10, 2) := by decide +kernel
theorem dX6_held__7 : decode cX6_held_ 7 = .ok (.if_icmp .ge 29, 3) := by decide +kernel
theorem dX6_held__10 : decode cX6_held_ 10 = .ok (.iload_n 1, 1) := by decide +kernel
theorem dX6_held__11 : decode cX6_held_ 11 = .ok (.aload_n 0, 1) := by decide +kernel
theorem dX6_held__12 : decode cX6_held_ 12 = .ok (.getfield 9, 3) := by decide +kernel
theorem dX6_held__15 : decode cX6_held_ 15 = .ok (.bipush 77, 2) := by decide +kernel
theorem dX6_held__17 : decode cX6_held_ 17 = .ok (.iload_n 2, 1) := by decide +kernel
theorem dX6_held__18 : decode cX6_held_ 18 = .ok (.iadd, 1) := by decide +kernel
theorem dX6_held__19 : decode cX6_held_ 19 = .ok (.iaload, 1) := by decide +kernel
theorem dX6_held__20 : decode cX6_held_ 20 = .ok (.ifCond .ge 7, 3) := by decide +kernel
theorem dX6_held__23 : decode cX6_held_ 23 = .ok (.iconst 0, 1) := by decide +kernel
theorem dX6_held__24 : decode cX6_held_ 24 = .ok (.goto 4, 3) := by decide +kernel
theorem dX6_held__27 : decode cX6_held_ 27 = .ok (.iconst 1, 1) := by decide +kernel
theorem dX6_held__28 : decode cX6_held_ 28 = .ok (.iadd, 1) := by decide +kernel
theorem dX6_held__29 : decode cX6_held_ 29 = .ok (.istore_n 1, 1) := by decide +kernel
theorem dX6_held__30 : decode cX6_held_ 30 = .ok (.iinc 2 1, 3) := by decide +kernel
theorem dX6_held__33 : decode cX6_held_ 33 = .ok (.goto (-29), 3) := by decide +kernel
theorem dX6_held__36 : decode cX6_held_ 36 = .ok (.iload_n 1, 1) := by decide +kernel
theorem dX6_held__37 : decode cX6_held_ 37 = .ok (.ireturn, 1) := by decide +kernel
theorem dX6_count_0 : decode cX6_count 0 = .ok (.iload_n 1, 1) := by decide +kernel
theorem dX6_count_1 : decode cX6_count 1 = .ok (.tableswitch 96 0 7 #[47, 54, 61, 69, 74, 79, 84, 91], 47) := by decide +kernel
theorem dX6_count_48 : decode cX6_count 48 = .ok (.aload_n 0, 1) := by decide +kernel
theorem dX6_count_49 : decode cX6_count 49 = .ok (.getfield 9, 3) := by decide +kernel
theorem dX6_count_52 : decode cX6_count 52 = .ok (.iconst 0, 1) := by decide +kernel
theorem dX6_count_53 : decode cX6_count 53 = .ok (.iaload, 1) := by decide +kernel
theorem dX6_count_54 : decode cX6_count 54 = .ok (.ireturn, 1) := by decide +kernel
theorem dX6_count_55 : decode cX6_count 55 = .ok (.aload_n 0, 1) := by decide +kernel
theorem dX6_count_56 : decode cX6_count 56 = .ok (.getfield 9, 3) := by decide +kernel
theorem dX6_count_59 : decode cX6_count 59 = .ok (.iconst 2, 1) := by decide +kernel
theorem dX6_count_60 : decode cX6_count 60 = .ok (.iaload, 1) := by decide +kernel
theorem dX6_count_61 : decode cX6_count 61 = .ok (.ireturn, 1) := by decide +kernel
theorem dX6_count_62 : decode cX6_count 62 = .ok (.aload_n 0, 1) := by decide +kernel
theorem dX6_count_63 : decode cX6_count 63 = .ok (.invokevirtual 170, 3) := by decide +kernel
theorem dX6_count_66 : decode cX6_count 66 = .ok (.invokestatic 344, 3) := by decide +kernel
theorem dX6_count_69 : decode cX6_count 69 = .ok (.ireturn, 1) := by decide +kernel
theorem dX6_count_70 : decode cX6_count 70 = .ok (.aload_n 0, 1) := by decide +kernel
theorem dX6_count_71 : decode cX6_count 71 = .ok (.invokevirtual 173, 3) := by decide +kernel
theorem dX6_count_74 : decode cX6_count 74 = .ok (.ireturn, 1) := by decide +kernel
theorem dX6_count_75 : decode cX6_count 75 = .ok (.aload_n 0, 1) := by decide +kernel
theorem dX6_count_76 : decode cX6_count 76 = .ok (.invokevirtual 166, 3) := by decide +kernel
theorem dX6_count_79 : decode cX6_count 79 = .ok (.ireturn, 1) := by decide +kernel
theorem dX6_count_80 : decode cX6_count 80 = .ok (.aload_n 0, 1) := by decide +kernel
theorem dX6_count_81 : decode cX6_count 81 = .ok (.getfield 245, 3) := by decide +kernel
theorem dX6_count_84 : decode cX6_count 84 = .ok (.ireturn, 1) := by decide +kernel
theorem dX6_count_85 : decode cX6_count 85 = .ok (.aload_n 0, 1) := by decide +kernel
theorem dX6_count_86 : decode cX6_count 86 = .ok (.getfield 9, 3) := by decide +kernel
theorem dX6_count_89 : decode cX6_count 89 = .ok (.iconst 1, 1) := by decide +kernel
theorem dX6_count_90 : decode cX6_count 90 = .ok (.iaload, 1) := by decide +kernel
theorem dX6_count_91 : decode cX6_count 91 = .ok (.ireturn, 1) := by decide +kernel
theorem dX6_count_92 : decode cX6_count 92 = .ok (.aload_n 0, 1) := by decide +kernel
theorem dX6_count_93 : decode cX6_count 93 = .ok (.invokevirtual 347, 3) := by decide +kernel
theorem dX6_count_96 : decode cX6_count 96 = .ok (.ireturn, 1) := by decide +kernel
theorem dX6_count_97 : decode cX6_count 97 = .ok (.aload_n 0, 1) := by decide +kernel
theorem dX6_count_98 : decode cX6_count 98 = .ok (.iconst 0, 1) := by decide +kernel
theorem dX6_count_99 : decode cX6_count 99 = .ok (.invokevirtual 93, 3) := by decide +kernel
theorem dX6_count_102 : decode cX6_count 102 = .ok (.ireturn, 1) := by decide +kernel
theorem dX6_status_0 : decode cX6_status 0 = .ok (.iload_n 1, 1) := by decide +kernel
theorem dX6_status_1 : decode cX6_status 1 = .ok (.i2l, 1) := by decide +kernel
theorem dX6_status_2 : decode cX6_status 2 = .ok (.ldc2_w 135, 3) := by decide +kernel
theorem dX6_status_5 : decode cX6_status 5 = .ok (.ldc2_w 74, 3) := by decide +kernel
theorem dX6_status_8 : decode cX6_status 8 = .ok (.invokestatic 48, 3) := by decide +kernel
theorem dX6_status_11 : decode cX6_status 11 = .ok (.ifCond .ne 9, 3) := by decide +kernel
theorem dX6_status_14 : decode cX6_status 14 = .ok (.aload_n 0, 1) := by decide +kernel
theorem dX6_status_15 : decode cX6_status 15 = .ok (.iconst 0, 1) := by decide +kernel
theorem dX6_status_16 : decode cX6_status 16 = .ok (.invokevirtual 93, 3) := by decide +kernel
theorem dX6_status_19 : decode cX6_status 19 = .ok (.ireturn, 1) := by decide +kernel
theorem dX6_status_20 : decode cX6_status 20 = .ok (.iconst 0, 1) := by decide +kernel
theorem dX6_status_21 : decode cX6_status 21 = .ok (.istore_n 2, 1) := by decide +kernel
theorem dX6_status_22 : decode cX6_status 22 = .ok (.iconst 0, 1) := by decide +kernel
theorem dX6_status_23 : decode cX6_status 23 = .ok (.istore_n 3, 1) := by decide +kernel
theorem dX6_status_24 : decode cX6_status 24 = .ok (.iload_n 3, 1) := by decide +kernel
theorem dX6_status_25 : decode cX6_status 25 = .ok (.bipush 7, 2) := by decide +kernel
theorem dX6_status_27 : decode cX6_status 27 = .ok (.if_icmp .ge 31, 3) := by decide +kernel
theorem dX6_status_30 : decode cX6_status 30 = .ok (.iload_n 2, 1) := by decide +kernel
theorem dX6_status_31 : decode cX6_status 31 = .ok (.iload_n 1, 1) := by decide +kernel
theorem dX6_status_32 : decode cX6_status 32 = .ok (.ifCond .lt 8, 3) := by decide +kernel
theorem dX6_status_35 : decode cX6_status 35 = .ok (.iload_n 1, 1) := by decide +kernel
theorem dX6_status_36 : decode cX6_status 36 = .ok (.iload_n 3, 1) := by decide +kernel
theorem dX6_status_37 : decode cX6_status 37 = .ok (.if_icmp .ne 12, 3) := by decide +kernel
theorem dX6_status_40 : decode cX6_status 40 = .ok (.aload_n 0, 1) := by decide +kernel
theorem dX6_status_41 : decode cX6_status 41 = .ok (.getfield 19, 3) := by decide +kernel
theorem dX6_status_44 : decode cX6_status 44 = .ok (.iload_n 3, 1) := by decide +kernel
theorem dX6_status_45 : decode cX6_status 45 = .ok (.iaload, 1) := by decide +kernel
theorem dX6_status_46 : decode cX6_status 46 = .ok (.goto 4, 3) := by decide +kernel
theorem dX6_status_49 : decode cX6_status 49 = .ok (.iconst 0, 1) := by decide +kernel
theorem dX6_status_50 : decode cX6_status 50 = .ok (.iadd, 1) := by decide +kernel
theorem dX6_status_51 : decode cX6_status 51 = .ok (.istore_n 2, 1) := by decide +kernel
theorem dX6_status_52 : decode cX6_status 52 = .ok (.iinc 3 1, 3) := by decide +kernel
theorem dX6_status_55 : decode cX6_status 55 = .ok (.goto (-31), 3) := by decide +kernel
theorem dX6_status_58 : decode cX6_status 58 = .ok (.iload_n 2, 1) := by decide +kernel
theorem dX6_status_59 : decode cX6_status 59 = .ok (.ireturn, 1) := by decide +kernel
theorem dL_law_0 : decode cL_law 0 = .ok (.new 7, 3) := by decide +kernel
theorem dL_law_3 : decode cL_law 3 = .ok (.dup, 1) := by decide +kernel
theorem dL_law_4 : decode cL_law 4 = .ok (.invokespecial 9, 3) := by decide +kernel
theorem dL_law_7 : decode cL_law 7 = .ok (.astore_n 1, 1) := by decide +kernel
theorem dL_law_8 : decode cL_law 8 = .ok (.new 10, 3) := by decide +kernel
theorem dL_law_11 : decode cL_law 11 = .ok (.dup, 1) := by decide +kernel
theorem dL_law_12 : decode cL_law 12 = .ok (.invokespecial 12, 3) := by decide +kernel
theorem dL_law_15 : decode cL_law 15 = .ok (.astore_n 2, 1) := by decide +kernel
theorem dL_law_16 : decode cL_law 16 = .ok (.iconst 0, 1) := by decide +kernel
theorem dL_law_17 : decode cL_law 17 = .ok (.istore_n 3, 1) := by decide +kernel
theorem dL_law_18 : decode cL_law 18 = .ok (.iload_n 3, 1) := by decide +kernel
theorem dL_law_19 : decode cL_law 19 = .ok (.aload_n 0, 1) := by decide +kernel
theorem dL_law_20 : decode cL_law 20 = .ok (.arraylength, 1) := by decide +kernel
theorem dL_law_21 : decode cL_law 21 = .ok (.bipush 6, 2) := by decide +kernel
theorem dL_law_23 : decode cL_law 23 = .ok (.isub, 1) := by decide +kernel
theorem dL_law_24 : decode cL_law 24 = .ok (.if_icmp .gt 1579, 3) := by decide +kernel
theorem dL_law_27 : decode cL_law 27 = .ok (.aload_n 0, 1) := by decide +kernel
theorem dL_law_28 : decode cL_law 28 = .ok (.iload_n 3, 1) := by decide +kernel
theorem dL_law_29 : decode cL_law 29 = .ok (.iaload, 1) := by decide +kernel
theorem dL_law_30 : decode cL_law 30 = .ok (.bipush 63, 2) := by decide +kernel
theorem dL_law_32 : decode cL_law 32 = .ok (.iand, 1) := by decide +kernel
theorem dL_law_33 : decode cL_law 33 = .ok (.tableswitch 1564 0 43 #[191, 224, 257, 290, 313, 346, 389, 412, 435, 458, 501, 534, 567, 600, 633, 676, 719, 732, 765, 798, 821, 874, 907, 950, 1003, 1036, 1069, 1092, 1126, 1149, 1182, 1195, 1208, 1241, 1274, 1317, 1360, 1423, 1446, 1479, 1492, 1505, 1518, 1541], 191) := by decide +kernel
theorem dL_law_224 : decode cL_law 224 = .ok (.aload_n 1, 1) := by decide +kernel
theorem dL_law_225 : decode cL_law 225 = .ok (.aload_n 0, 1) := by decide +kernel
theorem dL_law_226 : decode cL_law 226 = .ok (.iload_n 3, 1) := by decide +kernel
theorem dL_law_227 : decode cL_law 227 = .ok (.iconst 1, 1) := by decide +kernel
theorem dL_law_228 : decode cL_law 228 = .ok (.iadd, 1) := by decide +kernel
theorem dL_law_229 : decode cL_law 229 = .ok (.iaload, 1) := by decide +kernel
theorem dL_law_230 : decode cL_law 230 = .ok (.aload_n 0, 1) := by decide +kernel
theorem dL_law_231 : decode cL_law 231 = .ok (.iload_n 3, 1) := by decide +kernel
theorem dL_law_232 : decode cL_law 232 = .ok (.iconst 2, 1) := by decide +kernel
theorem dL_law_233 : decode cL_law 233 = .ok (.iadd, 1) := by decide +kernel
theorem dL_law_234 : decode cL_law 234 = .ok (.iaload, 1) := by decide +kernel
theorem dL_law_235 : decode cL_law 235 = .ok (.invokevirtual 13, 3) := by decide +kernel
theorem dL_law_238 : decode cL_law 238 = .ok (.aload_n 2, 1) := by decide +kernel
theorem dL_law_239 : decode cL_law 239 = .ok (.aload_n 0, 1) := by decide +kernel
theorem dL_law_240 : decode cL_law 240 = .ok (.iload_n 3, 1) := by decide +kernel
theorem dL_law_241 : decode cL_law 241 = .ok (.iconst 1, 1) := by decide +kernel
theorem dL_law_242 : decode cL_law 242 = .ok (.iadd, 1) := by decide +kernel
theorem dL_law_243 : decode cL_law 243 = .ok (.iaload, 1) := by decide +kernel
theorem dL_law_244 : decode cL_law 244 = .ok (.aload_n 0, 1) := by decide +kernel
theorem dL_law_245 : decode cL_law 245 = .ok (.iload_n 3, 1) := by decide +kernel
theorem dL_law_246 : decode cL_law 246 = .ok (.iconst 2, 1) := by decide +kernel
theorem dL_law_247 : decode cL_law 247 = .ok (.iadd, 1) := by decide +kernel
theorem dL_law_248 : decode cL_law 248 = .ok (.iaload, 1) := by decide +kernel
theorem dL_law_249 : decode cL_law 249 = .ok (.invokevirtual 17, 3) := by decide +kernel
theorem dL_law_252 : decode cL_law 252 = .ok (.if_icmp .eq 1345, 3) := by decide +kernel
theorem dL_law_255 : decode cL_law 255 = .ok (.iconst 0, 1) := by decide +kernel
theorem dL_law_256 : decode cL_law 256 = .ok (.ireturn, 1) := by decide +kernel
theorem dL_law_257 : decode cL_law 257 = .ok (.aload_n 1, 1) := by decide +kernel
theorem dL_law_258 : decode cL_law 258 = .ok (.aload_n 0, 1) := by decide +kernel
theorem dL_law_259 : decode cL_law 259 = .ok (.iload_n 3, 1) := by decide +kernel
theorem dL_law_260 : decode cL_law 260 = .ok (.iconst 1, 1) := by decide +kernel
theorem dL_law_261 : decode cL_law 261 = .ok (.iadd, 1) := by decide +kernel
theorem dL_law_262 : decode cL_law 262 = .ok (.iaload, 1) := by decide +kernel
theorem dL_law_263 : decode cL_law 263 = .ok (.aload_n 0, 1) := by decide +kernel
theorem dL_law_264 : decode cL_law 264 = .ok (.iload_n 3, 1) := by decide +kernel
theorem dL_law_265 : decode cL_law 265 = .ok (.iconst 2, 1) := by decide +kernel
theorem dL_law_266 : decode cL_law 266 = .ok (.iadd, 1) := by decide +kernel
theorem dL_law_267 : decode cL_law 267 = .ok (.iaload, 1) := by decide +kernel
theorem dL_law_268 : decode cL_law 268 = .ok (.invokevirtual 18, 3) := by decide +kernel
theorem dL_law_271 : decode cL_law 271 = .ok (.aload_n 2, 1) := by decide +kernel
theorem dL_law_272 : decode cL_law 272 = .ok (.aload_n 0, 1) := by decide +kernel
theorem dL_law_273 : decode cL_law 273 = .ok (.iload_n 3, 1) := by decide +kernel
theorem dL_law_274 : decode cL_law 274 = .ok (.iconst 1, 1) := by decide +kernel
theorem dL_law_275 : decode cL_law 275 = .ok (.iadd, 1) := by decide +kernel
theorem dL_law_276 : decode cL_law 276 = .ok (.iaload, 1) := by decide +kernel
theorem dL_law_277 : decode cL_law 277 = .ok (.aload_n 0, 1) := by decide +kernel
theorem dL_law_278 : decode cL_law 278 = .ok (.iload_n 3, 1) := by decide +kernel
theorem dL_law_279 : decode cL_law 279 = .ok (.iconst 2, 1) := by decide +kernel
theorem dL_law_280 : decode cL_law 280 = .ok (.iadd, 1) := by decide +kernel
theorem dL_law_281 : decode cL_law 281 = .ok (.iaload, 1) := by decide +kernel
theorem dL_law_282 : decode cL_law 282 = .ok (.invokevirtual 21, 3) := by decide +kernel
theorem dL_law_285 : decode cL_law 285 = .ok (.if_icmp .eq 1312, 3) := by decide +kernel
theorem dL_law_288 : decode cL_law 288 = .ok (.iconst 0, 1) := by decide +kernel
theorem dL_law_289 : decode cL_law 289 = .ok (.ireturn, 1) := by decide +kernel
theorem dL_law_290 : decode cL_law 290 = .ok (.aload_n 1, 1) := by decide +kernel
theorem dL_law_291 : decode cL_law 291 = .ok (.aload_n 0, 1) := by decide +kernel
theorem dL_law_292 : decode cL_law 292 = .ok (.iload_n 3, 1) := by decide +kernel
theorem dL_law_293 : decode cL_law 293 = .ok (.iconst 1, 1) := by decide +kernel
theorem dL_law_294 : decode cL_law 294 = .ok (.iadd, 1) := by decide +kernel
theorem dL_law_295 : decode cL_law 295 = .ok (.iaload, 1) := by decide +kernel
theorem dL_law_296 : decode cL_law 296 = .ok (.aload_n 0, 1) := by decide +kernel
theorem dL_law_297 : decode cL_law 297 = .ok (.iload_n 3, 1) := by decide +kernel
theorem dL_law_298 : decode cL_law 298 = .ok (.iconst 2, 1) := by decide +kernel
end
section
theorem dL_law_299 : decode cL_law 299 = .ok (.iadd, 1) := by decide +kernel
theorem dL_law_300 : decode cL_law 300 = .ok (.iaload, 1) := by decide +kernel
theorem dL_law_301 : decode cL_law 301 = .ok (.invokevirtual 22, 3) := by decide +kernel
theorem dL_law_304 : decode cL_law 304 = .ok (.aload_n 2, 1) := by decide +kernel
theorem dL_law_305 : decode cL_law 305 = .ok (.aload_n 0, 1) := by decide +kernel
theorem dL_law_306 : decode cL_law 306 = .ok (.iload_n 3, 1) := by decide +kernel
theorem dL_law_307 : decode cL_law 307 = .ok (.iconst 1, 1) := by decide +kernel
theorem dL_law_308 : decode cL_law 308 = .ok (.iadd, 1) := by decide +kernel
theorem dL_law_309 : decode cL_law 309 = .ok (.iaload, 1) := by decide +kernel
theorem dL_law_310 : decode cL_law 310 = .ok (.aload_n 0, 1) := by decide +kernel
theorem dL_law_311 : decode cL_law 311 = .ok (.iload_n 3, 1) := by decide +kernel
theorem dL_law_312 : decode cL_law 312 = .ok (.iconst 2, 1) := by decide +kernel
theorem dL_law_313 : decode cL_law 313 = .ok (.iadd, 1) := by decide +kernel
theorem dL_law_314 : decode cL_law 314 = .ok (.iaload, 1) := by decide +kernel
theorem dL_law_315 : decode cL_law 315 = .ok (.invokevirtual 25, 3) := by decide +kernel
theorem dL_law_318 : decode cL_law 318 = .ok (.if_icmp .eq 1279, 3) := by decide +kernel
theorem dL_law_321 : decode cL_law 321 = .ok (.iconst 0, 1) := by decide +kernel
theorem dL_law_322 : decode cL_law 322 = .ok (.ireturn, 1) := by decide +kernel
theorem dL_law_323 : decode cL_law 323 = .ok (.aload_n 1, 1) := by decide +kernel
theorem dL_law_324 : decode cL_law 324 = .ok (.aload_n 0, 1) := by decide +kernel
theorem dL_law_325 : decode cL_law 325 = .ok (.iload_n 3, 1) := by decide +kernel
theorem dL_law_326 : decode cL_law 326 = .ok (.iconst 1, 1) := by decide +kernel
theorem dL_law_327 : decode cL_law 327 = .ok (.iadd, 1) := by decide +kernel
theorem dL_law_328 : decode cL_law 328 = .ok (.iaload, 1) := by decide +kernel
theorem dL_law_329 : decode cL_law 329 = .ok (.invokevirtual 26, 3) := by decide +kernel
theorem dL_law_332 : decode cL_law 332 = .ok (.aload_n 2, 1) := by decide +kernel
theorem dL_law_333 : decode cL_law 333 = .ok (.aload_n 0, 1) := by decide +kernel
theorem dL_law_334 : decode cL_law 334 = .ok (.iload_n 3, 1) := by decide +kernel
theorem dL_law_335 : decode cL_law 335 = .ok (.iconst 1, 1) := by decide +kernel
theorem dL_law_336 : decode cL_law 336 = .ok (.iadd, 1) := by decide +kernel
theorem dL_law_337 : decode cL_law 337 = .ok (.iaload, 1) := by decide +kernel
theorem dL_law_338 : decode cL_law 338 = .ok (.invokevirtual 30, 3) := by decide +kernel
theorem dL_law_341 : decode cL_law 341 = .ok (.if_icmp .eq 1256, 3) := by decide +kernel
theorem dL_law_344 : decode cL_law 344 = .ok (.iconst 0, 1) := by decide +kernel
theorem dL_law_345 : decode cL_law 345 = .ok (.ireturn, 1) := by decide +kernel
theorem dL_law_346 : decode cL_law 346 = .ok (.aload_n 1, 1) := by decide +kernel
theorem dL_law_347 : decode cL_law 347 = .ok (.aload_n 0, 1) := by decide +kernel
theorem dL_law_348 : decode cL_law 348 = .ok (.iload_n 3, 1) := by decide +kernel
theorem dL_law_349 : decode cL_law 349 = .ok (.iconst 1, 1) := by decide +kernel
theorem dL_law_350 : decode cL_law 350 = .ok (.iadd, 1) := by decide +kernel
theorem dL_law_351 : decode cL_law 351 = .ok (.iaload, 1) := by decide +kernel
theorem dL_law_352 : decode cL_law 352 = .ok (.aload_n 0, 1) := by decide +kernel
theorem dL_law_353 : decode cL_law 353 = .ok (.iload_n 3, 1) := by decide +kernel
theorem dL_law_354 : decode cL_law 354 = .ok (.iconst 2, 1) := by decide +kernel
theorem dL_law_355 : decode cL_law 355 = .ok (.iadd, 1) := by decide +kernel
theorem dL_law_356 : decode cL_law 356 = .ok (.iaload, 1) := by decide +kernel
theorem dL_law_357 : decode cL_law 357 = .ok (.invokevirtual 31, 3) := by decide +kernel
theorem dL_law_360 : decode cL_law 360 = .ok (.aload_n 2, 1) := by decide +kernel
theorem dL_law_361 : decode cL_law 361 = .ok (.aload_n 0, 1) := by decide +kernel
theorem dL_law_362 : decode cL_law 362 = .ok (.iload_n 3, 1) := by decide +kernel
theorem dL_law_363 : decode cL_law 363 = .ok (.iconst 1, 1) := by decide +kernel
theorem dL_law_364 : decode cL_law 364 = .ok (.iadd, 1) := by decide +kernel
theorem dL_law_365 : decode cL_law 365 = .ok (.iaload, 1) := by decide +kernel
theorem dL_law_366 : decode cL_law 366 = .ok (.aload_n 0, 1) := by decide +kernel
theorem dL_law_367 : decode cL_law 367 = .ok (.iload_n 3, 1) := by decide +kernel
theorem dL_law_368 : decode cL_law 368 = .ok (.iconst 2, 1) := by decide +kernel
theorem dL_law_369 : decode cL_law 369 = .ok (.iadd, 1) := by decide +kernel
theorem dL_law_370 : decode cL_law 370 = .ok (.iaload, 1) := by decide +kernel
theorem dL_law_371 : decode cL_law 371 = .ok (.invokevirtual 34, 3) := by decide +kernel
theorem dL_law_374 : decode cL_law 374 = .ok (.if_icmp .eq 1223, 3) := by decide +kernel
theorem dL_law_377 : decode cL_law 377 = .ok (.iconst 0, 1) := by decide +kernel
theorem dL_law_378 : decode cL_law 378 = .ok (.ireturn, 1) := by decide +kernel
theorem dL_law_379 : decode cL_law 379 = .ok (.aload_n 1, 1) := by decide +kernel
theorem dL_law_380 : decode cL_law 380 = .ok (.aload_n 0, 1) := by decide +kernel
theorem dL_law_381 : decode cL_law 381 = .ok (.iload_n 3, 1) := by decide +kernel
theorem dL_law_382 : decode cL_law 382 = .ok (.iconst 1, 1) := by decide +kernel
theorem dL_law_383 : decode cL_law 383 = .ok (.iadd, 1) := by decide +kernel
theorem dL_law_384 : decode cL_law 384 = .ok (.iaload, 1) := by decide +kernel
theorem dL_law_385 : decode cL_law 385 = .ok (.aload_n 0, 1) := by decide +kernel
theorem dL_law_386 : decode cL_law 386 = .ok (.iload_n 3, 1) := by decide +kernel
theorem dL_law_387 : decode cL_law 387 = .ok (.iconst 2, 1) := by decide +kernel
theorem dL_law_388 : decode cL_law 388 = .ok (.iadd, 1) := by decide +kernel
theorem dL_law_389 : decode cL_law 389 = .ok (.iaload, 1) := by decide +kernel
theorem dL_law_390 : decode cL_law 390 = .ok (.aload_n 0, 1) := by decide +kernel
theorem dL_law_391 : decode cL_law 391 = .ok (.iload_n 3, 1) := by decide +kernel
theorem dL_law_392 : decode cL_law 392 = .ok (.iconst 3, 1) := by decide +kernel
theorem dL_law_393 : decode cL_law 393 = .ok (.iadd, 1) := by decide +kernel
theorem dL_law_394 : decode cL_law 394 = .ok (.iaload, 1) := by decide +kernel
theorem dL_law_395 : decode cL_law 395 = .ok (.invokevirtual 35, 3) := by decide +kernel
theorem dL_law_398 : decode cL_law 398 = .ok (.aload_n 2, 1) := by decide +kernel
theorem dL_law_399 : decode cL_law 399 = .ok (.aload_n 0, 1) := by decide +kernel
theorem dL_law_400 : decode cL_law 400 = .ok (.iload_n 3, 1) := by decide +kernel
theorem dL_law_401 : decode cL_law 401 = .ok (.iconst 1, 1) := by decide +kernel
theorem dL_law_402 : decode cL_law 402 = .ok (.iadd, 1) := by decide +kernel
theorem dL_law_403 : decode cL_law 403 = .ok (.iaload, 1) := by decide +kernel
theorem dL_law_404 : decode cL_law 404 = .ok (.aload_n 0, 1) := by decide +kernel
theorem dL_law_405 : decode cL_law 405 = .ok (.iload_n 3, 1) := by decide +kernel
theorem dL_law_406 : decode cL_law 406 = .ok (.iconst 2, 1) := by decide +kernel
theorem dL_law_407 : decode cL_law 407 = .ok (.iadd, 1) := by decide +kernel
theorem dL_law_408 : decode cL_law 408 = .ok (.iaload, 1) := by decide +kernel
theorem dL_law_409 : decode cL_law 409 = .ok (.aload_n 0, 1) := by decide +kernel
theorem dL_law_410 : decode cL_law 410 = .ok (.iload_n 3, 1) := by decide +kernel
theorem dL_law_411 : decode cL_law 411 = .ok (.iconst 3, 1) := by decide +kernel
theorem dL_law_412 : decode cL_law 412 = .ok (.iadd, 1) := by decide +kernel
theorem dL_law_413 : decode cL_law 413 = .ok (.iaload, 1) := by decide +kernel
theorem dL_law_414 : decode cL_law 414 = .ok (.invokevirtual 39, 3) := by decide +kernel
theorem dL_law_417 : decode cL_law 417 = .ok (.if_icmp .eq 1180, 3) := by decide +kernel
theorem dL_law_420 : decode cL_law 420 = .ok (.iconst 0, 1) := by decide +kernel
theorem dL_law_421 : decode cL_law 421 = .ok (.ireturn, 1) := by decide +kernel
theorem dL_law_422 : decode cL_law 422 = .ok (.aload_n 1, 1) := by decide +kernel
theorem dL_law_423 : decode cL_law 423 = .ok (.aload_n 0, 1) := by decide +kernel
theorem dL_law_424 : decode cL_law 424 = .ok (.iload_n 3, 1) := by decide +kernel
theorem dL_law_425 : decode cL_law 425 = .ok (.iconst 1, 1) := by decide +kernel
theorem dL_law_426 : decode cL_law 426 = .ok (.iadd, 1) := by decide +kernel
theorem dL_law_427 : decode cL_law 427 = .ok (.iaload, 1) := by decide +kernel
theorem dL_law_428 : decode cL_law 428 = .ok (.invokevirtual 40, 3) := by decide +kernel
theorem dL_law_431 : decode cL_law 431 = .ok (.aload_n 2, 1) := by decide +kernel
theorem dL_law_432 : decode cL_law 432 = .ok (.aload_n 0, 1) := by decide +kernel
theorem dL_law_433 : decode cL_law 433 = .ok (.iload_n 3, 1) := by decide +kernel
theorem dL_law_434 : decode cL_law 434 = .ok (.iconst 1, 1) := by decide +kernel
theorem dL_law_435 : decode cL_law 435 = .ok (.iadd, 1) := by decide +kernel
theorem dL_law_436 : decode cL_law 436 = .ok (.iaload, 1) := by decide +kernel
theorem dL_law_437 : decode cL_law 437 = .ok (.invokevirtual 43, 3) := by decide +kernel
theorem dL_law_440 : decode cL_law 440 = .ok (.if_icmp .eq 1157, 3) := by decide +kernel
theorem dL_law_443 : decode cL_law 443 = .ok (.iconst 0, 1) := by decide +kernel
theorem dL_law_444 : decode cL_law 444 = .ok (.ireturn, 1) := by decide +kernel
theorem dL_law_445 : decode cL_law 445 = .ok (.aload_n 1, 1) := by decide +kernel
theorem dL_law_446 : decode cL_law 446 = .ok (.aload_n 0, 1) := by decide +kernel
theorem dL_law_447 : decode cL_law 447 = .ok (.iload_n 3, 1) := by decide +kernel
theorem dL_law_448 : decode cL_law 448 = .ok (.iconst 1, 1) := by decide +kernel
theorem dL_law_449 : decode cL_law 449 = .ok (.iadd, 1) := by decide +kernel
theorem dL_law_450 : decode cL_law 450 = .ok (.iaload, 1) := by decide +kernel
theorem dL_law_451 : decode cL_law 451 = .ok (.invokevirtual 44, 3) := by decide +kernel
theorem dL_law_454 : decode cL_law 454 = .ok (.aload_n 2, 1) := by decide +kernel
theorem dL_law_455 : decode cL_law 455 = .ok (.aload_n 0, 1) := by decide +kernel
theorem dL_law_456 : decode cL_law 456 = .ok (.iload_n 3, 1) := by decide +kernel
theorem dL_law_457 : decode cL_law 457 = .ok (.iconst 1, 1) := by decide +kernel
theorem dL_law_458 : decode cL_law 458 = .ok (.iadd, 1) := by decide +kernel
theorem dL_law_459 : decode cL_law 459 = .ok (.iaload, 1) := by decide +kernel
theorem dL_law_460 : decode cL_law 460 = .ok (.invokevirtual 47, 3) := by decide +kernel
theorem dL_law_463 : decode cL_law 463 = .ok (.if_icmp .eq 1134, 3) := by decide +kernel
theorem dL_law_466 : decode cL_law 466 = .ok (.iconst 0, 1) := by decide +kernel
theorem dL_law_467 : decode cL_law 467 = .ok (.ireturn, 1) := by decide +kernel
theorem dL_law_468 : decode cL_law 468 = .ok (.aload_n 1, 1) := by decide +kernel
theorem dL_law_469 : decode cL_law 469 = .ok (.aload_n 0, 1) := by decide +kernel
theorem dL_law_470 : decode cL_law 470 = .ok (.iload_n 3, 1) := by decide +kernel
theorem dL_law_471 : decode cL_law 471 = .ok (.iconst 1, 1) := by decide +kernel
theorem dL_law_472 : decode cL_law 472 = .ok (.iadd, 1) := by decide +kernel
theorem dL_law_473 : decode cL_law 473 = .ok (.iaload, 1) := by decide +kernel
theorem dL_law_474 : decode cL_law 474 = .ok (.invokevirtual 48, 3) := by decide +kernel
theorem dL_law_477 : decode cL_law 477 = .ok (.aload_n 2, 1) := by decide +kernel
theorem dL_law_478 : decode cL_law 478 = .ok (.aload_n 0, 1) := by decide +kernel
theorem dL_law_479 : decode cL_law 479 = .ok (.iload_n 3, 1) := by decide +kernel
theorem dL_law_480 : decode cL_law 480 = .ok (.iconst 1, 1) := by decide +kernel
theorem dL_law_481 : decode cL_law 481 = .ok (.iadd, 1) := by decide +kernel
theorem dL_law_482 : decode cL_law 482 = .ok (.iaload, 1) := by decide +kernel
theorem dL_law_483 : decode cL_law 483 = .ok (.invokevirtual 51, 3) := by decide +kernel
theorem dL_law_486 : decode cL_law 486 = .ok (.if_icmp .eq 1111, 3) := by decide +kernel
theorem dL_law_489 : decode cL_law 489 = .ok (.iconst 0, 1) := by decide +kernel
theorem dL_law_490 : decode cL_law 490 = .ok (.ireturn, 1) := by decide +kernel
theorem dL_law_491 : decode cL_law 491 = .ok (.aload_n 1, 1) := by decide +kernel
theorem dL_law_492 : decode cL_law 492 = .ok (.aload_n 0, 1) := by decide +kernel
theorem dL_law_493 : decode cL_law 493 = .ok (.iload_n 3, 1) := by decide +kernel
theorem dL_law_494 : decode cL_law 494 = .ok (.iconst 1, 1) := by decide +kernel
theorem dL_law_495 : decode cL_law 495 = .ok (.iadd, 1) := by decide +kernel
theorem dL_law_496 : decode cL_law 496 = .ok (.iaload, 1) := by decide +kernel
theorem dL_law_497 : decode cL_law 497 = .ok (.aload_n 0, 1) := by decide +kernel
theorem dL_law_498 : decode cL_law 498 = .ok (.iload_n 3, 1) := by decide +kernel
theorem dL_law_499 : decode cL_law 499 = .ok (.iconst 2, 1) := by decide +kernel
theorem dL_law_500 : decode cL_law 500 = .ok (.iadd, 1) := by decide +kernel
theorem dL_law_501 : decode cL_law 501 = .ok (.iaload, 1) := by decide +kernel
theorem dL_law_502 : decode cL_law 502 = .ok (.aload_n 0, 1) := by decide +kernel
theorem dL_law_503 : decode cL_law 503 = .ok (.iload_n 3, 1) := by decide +kernel
theorem dL_law_504 : decode cL_law 504 = .ok (.iconst 3, 1) := by decide +kernel
theorem dL_law_505 : decode cL_law 505 = .ok (.iadd, 1) := by decide +kernel
theorem dL_law_506 : decode cL_law 506 = .ok (.iaload, 1) := by decide +kernel
theorem dL_law_507 : decode cL_law 507 = .ok (.invokevirtual 52, 3) := by decide +kernel
theorem dL_law_510 : decode cL_law 510 = .ok (.aload_n 2, 1) := by decide +kernel
theorem dL_law_511 : decode cL_law 511 = .ok (.aload_n 0, 1) := by decide +kernel
theorem dL_law_512 : decode cL_law 512 = .ok (.iload_n 3, 1) := by decide +kernel
theorem dL_law_513 : decode cL_law 513 = .ok (.iconst 1, 1) := by decide +kernel
theorem dL_law_514 : decode cL_law 514 = .ok (.iadd, 1) := by decide +kernel
theorem dL_law_515 : decode cL_law 515 = .ok (.iaload, 1) := by decide +kernel
theorem dL_law_516 : decode cL_law 516 = .ok (.aload_n 0, 1) := by decide +kernel
theorem dL_law_517 : decode cL_law 517 = .ok (.iload_n 3, 1) := by decide +kernel
theorem dL_law_518 : decode cL_law 518 = .ok (.iconst 2, 1) := by decide +kernel
theorem dL_law_519 : decode cL_law 519 = .ok (.iadd, 1) := by decide +kernel
theorem dL_law_520 : decode cL_law 520 = .ok (.iaload, 1) := by decide +kernel
theorem dL_law_521 : decode cL_law 521 = .ok (.aload_n 0, 1) := by decide +kernel
theorem dL_law_522 : decode cL_law 522 = .ok (.iload_n 3, 1) := by decide +kernel
theorem dL_law_523 : decode cL_law 523 = .ok (.iconst 3, 1) := by decide +kernel
theorem dL_law_524 : decode cL_law 524 = .ok (.iadd, 1) := by decide +kernel
theorem dL_law_525 : decode cL_law 525 = .ok (.iaload, 1) := by decide +kernel
theorem dL_law_526 : decode cL_law 526 = .ok (.invokevirtual 55, 3) := by decide +kernel
theorem dL_law_529 : decode cL_law 529 = .ok (.if_icmp .eq 1068, 3) := by decide +kernel
theorem dL_law_532 : decode cL_law 532 = .ok (.iconst 0, 1) := by decide +kernel
theorem dL_law_533 : decode cL_law 533 = .ok (.ireturn, 1) := by decide +kernel
theorem dL_law_534 : decode cL_law 534 = .ok (.aload_n 1, 1) := by decide +kernel
theorem dL_law_535 : decode cL_law 535 = .ok (.aload_n 0, 1) := by decide +kernel
theorem dL_law_536 : decode cL_law 536 = .ok (.iload_n 3, 1) := by decide +kernel
theorem dL_law_537 : decode cL_law 537 = .ok (.iconst 1, 1) := by decide +kernel
theorem dL_law_538 : decode cL_law 538 = .ok (.iadd, 1) := by decide +kernel
theorem dL_law_539 : decode cL_law 539 = .ok (.iaload, 1) := by decide +kernel
theorem dL_law_540 : decode cL_law 540 = .ok (.aload_n 0, 1) := by decide +kernel
theorem dL_law_541 : decode cL_law 541 = .ok (.iload_n 3, 1) := by decide +kernel
theorem dL_law_542 : decode cL_law 542 = .ok (.iconst 2, 1) := by decide +kernel
theorem dL_law_543 : decode cL_law 543 = .ok (.iadd, 1) := by decide +kernel
theorem dL_law_544 : decode cL_law 544 = .ok (.iaload, 1) := by decide +kernel
theorem dL_law_545 : decode cL_law 545 = .ok (.invokevirtual 56, 3) := by decide +kernel
theorem dL_law_548 : decode cL_law 548 = .ok (.aload_n 2, 1) := by decide +kernel
theorem dL_law_549 : decode cL_law 549 = .ok (.aload_n 0, 1) := by decide +kernel
theorem dL_law_550 : decode cL_law 550 = .ok (.iload_n 3, 1) := by decide +kernel
theorem dL_law_551 : decode cL_law 551 = .ok (.iconst 1, 1) := by decide +kernel
theorem dL_law_552 : decode cL_law 552 = .ok (.iadd, 1) := by decide +kernel
theorem dL_law_553 : decode cL_law 553 = .ok (.iaload, 1) := by decide +kernel
theorem dL_law_554 : decode cL_law 554 = .ok (.aload_n 0, 1) := by decide +kernel
theorem dL_law_555 : decode cL_law 555 = .ok (.iload_n 3, 1) := by decide +kernel
theorem dL_law_556 : decode cL_law 556 = .ok (.iconst 2, 1) := by decide +kernel
theorem dL_law_557 : decode cL_law 557 = .ok (.iadd, 1) := by decide +kernel
theorem dL_law_558 : decode cL_law 558 = .ok (.iaload, 1) := by decide +kernel
theorem dL_law_559 : decode cL_law 559 = .ok (.invokevirtual 59, 3) := by decide +kernel
theorem dL_law_562 : decode cL_law 562 = .ok (.if_icmp .eq 1035, 3) := by decide +kernel
theorem dL_law_565 : decode cL_law 565 = .ok (.iconst 0, 1) := by decide +kernel
theorem dL_law_566 : decode cL_law 566 = .ok (.ireturn, 1) := by decide +kernel
theorem dL_law_567 : decode cL_law 567 = .ok (.aload_n 1, 1) := by decide +kernel
theorem dL_law_568 : decode cL_law 568 = .ok (.aload_n 0, 1) := by decide +kernel
theorem dL_law_569 : decode cL_law 569 = .ok (.iload_n 3, 1) := by decide +kernel
theorem dL_law_570 : decode cL_law 570 = .ok (.iconst 1, 1) := by decide +kernel
theorem dL_law_571 : decode cL_law 571 = .ok (.iadd, 1) := by decide +kernel
theorem dL_law_572 : decode cL_law 572 = .ok (.iaload, 1) := by decide +kernel
theorem dL_law_573 : decode cL_law 573 = .ok (.aload_n 0, 1) := by decide +kernel
theorem dL_law_574 : decode cL_law 574 = .ok (.iload_n 3, 1) := by decide +kernel
theorem dL_law_575 : decode cL_law 575 = .ok (.iconst 2, 1) := by decide +kernel
theorem dL_law_576 : decode cL_law 576 = .ok (.iadd, 1) := by decide +kernel
theorem dL_law_577 : decode cL_law 577 = .ok (.iaload, 1) := by decide +kernel
theorem dL_law_578 : decode cL_law 578 = .ok (.invokevirtual 60, 3) := by decide +kernel
theorem dL_law_581 : decode cL_law 581 = .ok (.aload_n 2, 1) := by decide +kernel
theorem dL_law_582 : decode cL_law 582 = .ok (.aload_n 0, 1) := by decide +kernel
theorem dL_law_583 : decode cL_law 583 = .ok (.iload_n 3, 1) := by decide +kernel
theorem dL_law_584 : decode cL_law 584 = .ok (.iconst 1, 1) := by decide +kernel
theorem dL_law_585 : decode cL_law 585 = .ok (.iadd, 1) := by decide +kernel
theorem dL_law_586 : decode cL_law 586 = .ok (.iaload, 1) := by decide +kernel
theorem dL_law_587 : decode cL_law 587 = .ok (.aload_n 0, 1) := by decide +kernel
theorem dL_law_588 : decode cL_law 588 = .ok (.iload_n 3, 1) := by decide +kernel
theorem dL_law_589 : decode cL_law 589 = .ok (.iconst 2, 1) := by decide +kernel
theorem dL_law_590 : decode cL_law 590 = .ok (.iadd, 1) := by decide +kernel
theorem dL_law_591 : decode cL_law 591 = .ok (.iaload, 1) := by decide +kernel
theorem dL_law_592 : decode cL_law 592 = .ok (.invokevirtual 63, 3) := by decide +kernel
theorem dL_law_595 : decode cL_law 595 = .ok (.if_icmp .eq 1002, 3) := by decide +kernel
theorem dL_law_598 : decode cL_law 598 = .ok (.iconst 0, 1) := by decide +kernel
theorem dL_law_599 : decode cL_law 599 = .ok (.ireturn, 1) := by decide +kernel
theorem dL_law_600 : decode cL_law 600 = .ok (.aload_n 1, 1) := by decide +kernel
theorem dL_law_601 : decode cL_law 601 = .ok (.aload_n 0, 1) := by decide +kernel
theorem dL_law_602 : decode cL_law 602 = .ok (.iload_n 3, 1) := by decide +kernel
theorem dL_law_603 : decode cL_law 603 = .ok (.iconst 1, 1) := by decide +kernel
theorem dL_law_604 : decode cL_law 604 = .ok (.iadd, 1) := by decide +kernel
theorem dL_law_605 : decode cL_law 605 = .ok (.iaload, 1) := by decide +kernel
theorem dL_law_606 : decode cL_law 606 = .ok (.aload_n 0, 1) := by decide +kernel
theorem dL_law_607 : decode cL_law 607 = .ok (.iload_n 3, 1) := by decide +kernel
theorem dL_law_608 : decode cL_law 608 = .ok (.iconst 2, 1) := by decide +kernel
theorem dL_law_609 : decode cL_law 609 = .ok (.iadd, 1) := by decide +kernel
theorem dL_law_610 : decode cL_law 610 = .ok (.iaload, 1) := by decide +kernel
theorem dL_law_611 : decode cL_law 611 = .ok (.invokevirtual 64, 3) := by decide +kernel
theorem dL_law_614 : decode cL_law 614 = .ok (.aload_n 2, 1) := by decide +kernel
theorem dL_law_615 : decode cL_law 615 = .ok (.aload_n 0, 1) := by decide +kernel
theorem dL_law_616 : decode cL_law 616 = .ok (.iload_n 3, 1) := by decide +kernel
theorem dL_law_617 : decode cL_law 617 = .ok (.iconst 1, 1) := by decide +kernel
theorem dL_law_618 : decode cL_law 618 = .ok (.iadd, 1) := by decide +kernel
theorem dL_law_619 : decode cL_law 619 = .ok (.iaload, 1) := by decide +kernel
theorem dL_law_620 : decode cL_law 620 = .ok (.aload_n 0, 1) := by decide +kernel
theorem dL_law_621 : decode cL_law 621 = .ok (.iload_n 3, 1) := by decide +kernel
theorem dL_law_622 : decode cL_law 622 = .ok (.iconst 2, 1) := by decide +kernel
theorem dL_law_623 : decode cL_law 623 = .ok (.iadd, 1) := by decide +kernel
theorem dL_law_624 : decode cL_law 624 = .ok (.iaload, 1) := by decide +kernel
theorem dL_law_625 : decode cL_law 625 = .ok (.invokevirtual 67, 3) := by decide +kernel
theorem dL_law_628 : decode cL_law 628 = .ok (.if_icmp .eq 969, 3) := by decide +kernel
theorem dL_law_631 : decode cL_law 631 = .ok (.iconst 0, 1) := by decide +kernel
theorem dL_law_632 : decode cL_law 632 = .ok (.ireturn, 1) := by decide +kernel
theorem dL_law_633 : decode cL_law 633 = .ok (.aload_n 1, 1) := by decide +kernel
theorem dL_law_634 : decode cL_law 634 = .ok (.aload_n 0, 1) := by decide +kernel
theorem dL_law_635 : decode cL_law 635 = .ok (.iload_n 3, 1) := by decide +kernel
theorem dL_law_636 : decode cL_law 636 = .ok (.iconst 1, 1) := by decide +kernel
theorem dL_law_637 : decode cL_law 637 = .ok (.iadd, 1) := by decide +kernel
theorem dL_law_638 : decode cL_law 638 = .ok (.iaload, 1) := by decide +kernel
theorem dL_law_639 : decode cL_law 639 = .ok (.aload_n 0, 1) := by decide +kernel
theorem dL_law_640 : decode cL_law 640 = .ok (.iload_n 3, 1) := by decide +kernel
theorem dL_law_641 : decode cL_law 641 = .ok (.iconst 2, 1) := by decide +kernel
theorem dL_law_642 : decode cL_law 642 = .ok (.iadd, 1) := by decide +kernel
theorem dL_law_643 : decode cL_law 643 = .ok (.iaload, 1) := by decide +kernel
theorem dL_law_644 : decode cL_law 644 = .ok (.invokevirtual 68, 3) := by decide +kernel
theorem dL_law_647 : decode cL_law 647 = .ok (.aload_n 2, 1) := by decide +kernel
theorem dL_law_648 : decode cL_law 648 = .ok (.aload_n 0, 1) := by decide +kernel
theorem dL_law_649 : decode cL_law 649 = .ok (.iload_n 3, 1) := by decide +kernel
theorem dL_law_650 : decode cL_law 650 = .ok (.iconst 1, 1) := by decide +kernel
theorem dL_law_651 : decode cL_law 651 = .ok (.iadd, 1) := by decide +kernel
theorem dL_law_652 : decode cL_law 652 = .ok (.iaload, 1) := by decide +kernel
theorem dL_law_653 : decode cL_law 653 = .ok (.aload_n 0, 1) := by decide +kernel
theorem dL_law_654 : decode cL_law 654 = .ok (.iload_n 3, 1) := by decide +kernel
theorem dL_law_655 : decode cL_law 655 = .ok (.iconst 2, 1) := by decide +kernel
theorem dL_law_656 : decode cL_law 656 = .ok (.iadd, 1) := by decide +kernel
theorem dL_law_657 : decode cL_law 657 = .ok (.iaload, 1) := by decide +kernel
theorem dL_law_658 : decode cL_law 658 = .ok (.invokevirtual 71, 3) := by decide +kernel
theorem dL_law_661 : decode cL_law 661 = .ok (.if_icmp .eq 936, 3) := by decide +kernel
theorem dL_law_664 : decode cL_law 664 = .ok (.iconst 0, 1) := by decide +kernel
theorem dL_law_665 : decode cL_law 665 = .ok (.ireturn, 1) := by decide +kernel
theorem dL_law_666 : decode cL_law 666 = .ok (.aload_n 1, 1) := by decide +kernel
theorem dL_law_667 : decode cL_law 667 = .ok (.aload_n 0, 1) := by decide +kernel
theorem dL_law_668 : decode cL_law 668 = .ok (.iload_n 3, 1) := by decide +kernel
theorem dL_law_669 : decode cL_law 669 = .ok (.iconst 1, 1) := by decide +kernel
theorem dL_law_670 : decode cL_law 670 = .ok (.iadd, 1) := by decide +kernel
theorem dL_law_671 : decode cL_law 671 = .ok (.iaload, 1) := by decide +kernel
theorem dL_law_672 : decode cL_law 672 = .ok (.aload_n 0, 1) := by decide +kernel
theorem dL_law_673 : decode cL_law 673 = .ok (.iload_n 3, 1) := by decide +kernel
theorem dL_law_674 : decode cL_law 674 = .ok (.iconst 2, 1) := by decide +kernel
theorem dL_law_675 : decode cL_law 675 = .ok (.iadd, 1) := by decide +kernel
theorem dL_law_676 : decode cL_law 676 = .ok (.iaload, 1) := by decide +kernel
theorem dL_law_677 : decode cL_law 677 = .ok (.aload_n 0, 1) := by decide +kernel
theorem dL_law_678 : decode cL_law 678 = .ok (.iload_n 3, 1) := by decide +kernel
theorem dL_law_679 : decode cL_law 679 = .ok (.iconst 3, 1) := by decide +kernel
theorem dL_law_680 : decode cL_law 680 = .ok (.iadd, 1) := by decide +kernel
theorem dL_law_681 : decode cL_law 681 = .ok (.iaload, 1) := by decide +kernel
theorem dL_law_682 : decode cL_law 682 = .ok (.invokevirtual 72, 3) := by decide +kernel
theorem dL_law_685 : decode cL_law 685 = .ok (.aload_n 2, 1) := by decide +kernel
theorem dL_law_686 : decode cL_law 686 = .ok (.aload_n 0, 1) := by decide +kernel
theorem dL_law_687 : decode cL_law 687 = .ok (.iload_n 3, 1) := by decide +kernel
theorem dL_law_688 : decode cL_law 688 = .ok (.iconst 1, 1) := by decide +kernel
theorem dL_law_689 : decode cL_law 689 = .ok (.iadd, 1) := by decide +kernel
theorem dL_law_690 : decode cL_law 690 = .ok (.iaload, 1) := by decide +kernel
theorem dL_law_691 : decode cL_law 691 = .ok (.aload_n 0, 1) := by decide +kernel
theorem dL_law_692 : decode cL_law 692 = .ok (.iload_n 3, 1) := by decide +kernel
theorem dL_law_693 : decode cL_law 693 = .ok (.iconst 2, 1) := by decide +kernel
theorem dL_law_694 : decode cL_law 694 = .ok (.iadd, 1) := by decide +kernel
theorem dL_law_695 : decode cL_law 695 = .ok (.iaload, 1) := by decide +kernel
theorem dL_law_696 : decode cL_law 696 = .ok (.aload_n 0, 1) := by decide +kernel
theorem dL_law_697 : decode cL_law 697 = .ok (.iload_n 3, 1) := by decide +kernel
theorem dL_law_698 : decode cL_law 698 = .ok (.iconst 3, 1) := by decide +kernel
theorem dL_law_699 : decode cL_law 699 = .ok (.iadd, 1) := by decide +kernel
theorem dL_law_700 : decode cL_law 700 = .ok (.iaload, 1) := by decide +kernel
theorem dL_law_701 : decode cL_law 701 = .ok (.invokevirtual 75, 3) := by decide +kernel
theorem dL_law_704 : decode cL_law 704 = .ok (.if_icmp .eq 893, 3) := by decide +kernel
theorem dL_law_707 : decode cL_law 707 = .ok (.iconst 0, 1) := by decide +kernel
theorem dL_law_708 : decode cL_law 708 = .ok (.ireturn, 1) := by decide +kernel
theorem dL_law_709 : decode cL_law 709 = .ok (.aload_n 1, 1) := by decide +kernel
theorem dL_law_710 : decode cL_law 710 = .ok (.aload_n 0, 1) := by decide +kernel
theorem dL_law_711 : decode cL_law 711 = .ok (.iload_n 3, 1) := by decide +kernel
theorem dL_law_712 : decode cL_law 712 = .ok (.iconst 1, 1) := by decide +kernel
theorem dL_law_713 : decode cL_law 713 = .ok (.iadd, 1) := by decide +kernel
theorem dL_law_714 : decode cL_law 714 = .ok (.iaload, 1) := by decide +kernel
theorem dL_law_715 : decode cL_law 715 = .ok (.aload_n 0, 1) := by decide +kernel
theorem dL_law_716 : decode cL_law 716 = .ok (.iload_n 3, 1) := by decide +kernel
theorem dL_law_717 : decode cL_law 717 = .ok (.iconst 2, 1) := by decide +kernel
theorem dL_law_718 : decode cL_law 718 = .ok (.iadd, 1) := by decide +kernel
theorem dL_law_719 : decode cL_law 719 = .ok (.iaload, 1) := by decide +kernel
theorem dL_law_720 : decode cL_law 720 = .ok (.aload_n 0, 1) := by decide +kernel
theorem dL_law_721 : decode cL_law 721 = .ok (.iload_n 3, 1) := by decide +kernel
theorem dL_law_722 : decode cL_law 722 = .ok (.iconst 3, 1) := by decide +kernel
theorem dL_law_723 : decode cL_law 723 = .ok (.iadd, 1) := by decide +kernel
theorem dL_law_724 : decode cL_law 724 = .ok (.iaload, 1) := by decide +kernel
theorem dL_law_725 : decode cL_law 725 = .ok (.invokevirtual 76, 3) := by decide +kernel
theorem dL_law_728 : decode cL_law 728 = .ok (.aload_n 2, 1) := by decide +kernel
theorem dL_law_729 : decode cL_law 729 = .ok (.aload_n 0, 1) := by decide +kernel
theorem dL_law_730 : decode cL_law 730 = .ok (.iload_n 3, 1) := by decide +kernel
theorem dL_law_731 : decode cL_law 731 = .ok (.iconst 1, 1) := by decide +kernel
theorem dL_law_732 : decode cL_law 732 = .ok (.iadd, 1) := by decide +kernel
theorem dL_law_733 : decode cL_law 733 = .ok (.iaload, 1) := by decide +kernel
theorem dL_law_734 : decode cL_law 734 = .ok (.aload_n 0, 1) := by decide +kernel
theorem dL_law_735 : decode cL_law 735 = .ok (.iload_n 3, 1) := by decide +kernel
theorem dL_law_736 : decode cL_law 736 = .ok (.iconst 2, 1) := by decide +kernel
theorem dL_law_737 : decode cL_law 737 = .ok (.iadd, 1) := by decide +kernel
theorem dL_law_738 : decode cL_law 738 = .ok (.iaload, 1) := by decide +kernel
theorem dL_law_739 : decode cL_law 739 = .ok (.aload_n 0, 1) := by decide +kernel
theorem dL_law_740 : decode cL_law 740 = .ok (.iload_n 3, 1) := by decide +kernel
theorem dL_law_741 : decode cL_law 741 = .ok (.iconst 3, 1) := by decide +kernel
theorem dL_law_742 : decode cL_law 742 = .ok (.iadd, 1) := by decide +kernel
theorem dL_law_743 : decode cL_law 743 = .ok (.iaload, 1) := by decide +kernel
theorem dL_law_744 : decode cL_law 744 = .ok (.invokevirtual 79, 3) := by decide +kernel
theorem dL_law_747 : decode cL_law 747 = .ok (.if_icmp .eq 850, 3) := by decide +kernel
theorem dL_law_750 : decode cL_law 750 = .ok (.iconst 0, 1) := by decide +kernel
theorem dL_law_751 : decode cL_law 751 = .ok (.ireturn, 1) := by decide +kernel
theorem dL_law_752 : decode cL_law 752 = .ok (.aload_n 1, 1) := by decide +kernel
theorem dL_law_753 : decode cL_law 753 = .ok (.invokevirtual 80, 3) := by decide +kernel
theorem dL_law_756 : decode cL_law 756 = .ok (.aload_n 2, 1) := by decide +kernel
theorem dL_law_757 : decode cL_law 757 = .ok (.invokevirtual 84, 3) := by decide +kernel
theorem dL_law_760 : decode cL_law 760 = .ok (.if_icmp .eq 837, 3) := by decide +kernel
theorem dL_law_763 : decode cL_law 763 = .ok (.iconst 0, 1) := by decide +kernel
theorem dL_law_764 : decode cL_law 764 = .ok (.ireturn, 1) := by decide +kernel
theorem dL_law_765 : decode cL_law 765 = .ok (.aload_n 1, 1) := by decide +kernel
theorem dL_law_766 : decode cL_law 766 = .ok (.aload_n 0, 1) := by decide +kernel
theorem dL_law_767 : decode cL_law 767 = .ok (.iload_n 3, 1) := by decide +kernel
theorem dL_law_768 : decode cL_law 768 = .ok (.iconst 1, 1) := by decide +kernel
theorem dL_law_769 : decode cL_law 769 = .ok (.iadd, 1) := by decide +kernel
theorem dL_law_770 : decode cL_law 770 = .ok (.iaload, 1) := by decide +kernel
theorem dL_law_771 : decode cL_law 771 = .ok (.aload_n 0, 1) := by decide +kernel
theorem dL_law_772 : decode cL_law 772 = .ok (.iload_n 3, 1) := by decide +kernel
theorem dL_law_773 : decode cL_law 773 = .ok (.iconst 2, 1) := by decide +kernel
theorem dL_law_774 : decode cL_law 774 = .ok (.iadd, 1) := by decide +kernel
theorem dL_law_775 : decode cL_law 775 = .ok (.iaload, 1) := by decide +kernel
theorem dL_law_776 : decode cL_law 776 = .ok (.invokevirtual 85, 3) := by decide +kernel
theorem dL_law_779 : decode cL_law 779 = .ok (.aload_n 2, 1) := by decide +kernel
theorem dL_law_780 : decode cL_law 780 = .ok (.aload_n 0, 1) := by decide +kernel
theorem dL_law_781 : decode cL_law 781 = .ok (.iload_n 3, 1) := by decide +kernel
theorem dL_law_782 : decode cL_law 782 = .ok (.iconst 1, 1) := by decide +kernel
theorem dL_law_783 : decode cL_law 783 = .ok (.iadd, 1) := by decide +kernel
theorem dL_law_784 : decode cL_law 784 = .ok (.iaload, 1) := by decide +kernel
theorem dL_law_785 : decode cL_law 785 = .ok (.aload_n 0, 1) := by decide +kernel
theorem dL_law_786 : decode cL_law 786 = .ok (.iload_n 3, 1) := by decide +kernel
theorem dL_law_787 : decode cL_law 787 = .ok (.iconst 2, 1) := by decide +kernel
theorem dL_law_788 : decode cL_law 788 = .ok (.iadd, 1) := by decide +kernel
theorem dL_law_789 : decode cL_law 789 = .ok (.iaload, 1) := by decide +kernel
theorem dL_law_790 : decode cL_law 790 = .ok (.invokevirtual 88, 3) := by decide +kernel
theorem dL_law_793 : decode cL_law 793 = .ok (.if_icmp .eq 804, 3) := by decide +kernel
theorem dL_law_796 : decode cL_law 796 = .ok (.iconst 0, 1) := by decide +kernel
theorem dL_law_797 : decode cL_law 797 = .ok (.ireturn, 1) := by decide +kernel
theorem dL_law_798 : decode cL_law 798 = .ok (.aload_n 1, 1) := by decide +kernel
theorem dL_law_799 : decode cL_law 799 = .ok (.aload_n 0, 1) := by decide +kernel
theorem dL_law_800 : decode cL_law 800 = .ok (.iload_n 3, 1) := by decide +kernel
theorem dL_law_801 : decode cL_law 801 = .ok (.iconst 1, 1) := by decide +kernel
theorem dL_law_802 : decode cL_law 802 = .ok (.iadd, 1) := by decide +kernel
theorem dL_law_803 : decode cL_law 803 = .ok (.iaload, 1) := by decide +kernel
theorem dL_law_804 : decode cL_law 804 = .ok (.aload_n 0, 1) := by decide +kernel
theorem dL_law_805 : decode cL_law 805 = .ok (.iload_n 3, 1) := by decide +kernel
theorem dL_law_806 : decode cL_law 806 = .ok (.iconst 2, 1) := by decide +kernel
theorem dL_law_807 : decode cL_law 807 = .ok (.iadd, 1) := by decide +kernel
theorem dL_law_808 : decode cL_law 808 = .ok (.iaload, 1) := by decide +kernel
theorem dL_law_809 : decode cL_law 809 = .ok (.invokevirtual 89, 3) := by decide +kernel
theorem dL_law_812 : decode cL_law 812 = .ok (.aload_n 2, 1) := by decide +kernel
theorem dL_law_813 : decode cL_law 813 = .ok (.aload_n 0, 1) := by decide +kernel
theorem dL_law_814 : decode cL_law 814 = .ok (.iload_n 3, 1) := by decide +kernel
theorem dL_law_815 : decode cL_law 815 = .ok (.iconst 1, 1) := by decide +kernel
theorem dL_law_816 : decode cL_law 816 = .ok (.iadd, 1) := by decide +kernel
theorem dL_law_817 : decode cL_law 817 = .ok (.iaload, 1) := by decide +kernel
theorem dL_law_818 : decode cL_law 818 = .ok (.aload_n 0, 1) := by decide +kernel
theorem dL_law_819 : decode cL_law 819 = .ok (.iload_n 3, 1) := by decide +kernel
theorem dL_law_820 : decode cL_law 820 = .ok (.iconst 2, 1) := by decide +kernel
theorem dL_law_821 : decode cL_law 821 = .ok (.iadd, 1) := by decide +kernel
theorem dL_law_822 : decode cL_law 822 = .ok (.iaload, 1) := by decide +kernel
theorem dL_law_823 : decode cL_law 823 = .ok (.invokevirtual 92, 3) := by decide +kernel
theorem dL_law_826 : decode cL_law 826 = .ok (.if_icmp .eq 771, 3) := by decide +kernel
theorem dL_law_829 : decode cL_law 829 = .ok (.iconst 0, 1) := by decide +kernel
theorem dL_law_830 : decode cL_law 830 = .ok (.ireturn, 1) := by decide +kernel
theorem dL_law_831 : decode cL_law 831 = .ok (.aload_n 1, 1) := by decide +kernel
theorem dL_law_832 : decode cL_law 832 = .ok (.aload_n 0, 1) := by decide +kernel
theorem dL_law_833 : decode cL_law 833 = .ok (.iload_n 3, 1) := by decide +kernel
theorem dL_law_834 : decode cL_law 834 = .ok (.iconst 1, 1) := by decide +kernel
theorem dL_law_835 : decode cL_law 835 = .ok (.iadd, 1) := by decide +kernel
theorem dL_law_836 : decode cL_law 836 = .ok (.iaload, 1) := by decide +kernel
theorem dL_law_837 : decode cL_law 837 = .ok (.invokevirtual 93, 3) := by decide +kernel
theorem dL_law_840 : decode cL_law 840 = .ok (.aload_n 2, 1) := by decide +kernel
theorem dL_law_841 : decode cL_law 841 = .ok (.aload_n 0, 1) := by decide +kernel
theorem dL_law_842 : decode cL_law 842 = .ok (.iload_n 3, 1) := by decide +kernel
theorem dL_law_843 : decode cL_law 843 = .ok (.iconst 1, 1) := by decide +kernel
theorem dL_law_844 : decode cL_law 844 = .ok (.iadd, 1) := by decide +kernel
theorem dL_law_845 : decode cL_law 845 = .ok (.iaload, 1) := by decide +kernel
theorem dL_law_846 : decode cL_law 846 = .ok (.invokevirtual 96, 3) := by decide +kernel
theorem dL_law_849 : decode cL_law 849 = .ok (.if_icmp .eq 748, 3) := by decide +kernel
theorem dL_law_852 : decode cL_law 852 = .ok (.iconst 0, 1) := by decide +kernel
theorem dL_law_853 : decode cL_law 853 = .ok (.ireturn, 1) := by decide +kernel
theorem dL_law_854 : decode cL_law 854 = .ok (.aload_n 1, 1) := by decide +kernel
theorem dL_law_855 : decode cL_law 855 = .ok (.aload_n 0, 1) := by decide +kernel
theorem dL_law_856 : decode cL_law 856 = .ok (.iload_n 3, 1) := by decide +kernel
theorem dL_law_857 : decode cL_law 857 = .ok (.iconst 1, 1) := by decide +kernel
theorem dL_law_858 : decode cL_law 858 = .ok (.iadd, 1) := by decide +kernel
theorem dL_law_859 : decode cL_law 859 = .ok (.iaload, 1) := by decide +kernel
theorem dL_law_860 : decode cL_law 860 = .ok (.aload_n 0, 1) := by decide +kernel
theorem dL_law_861 : decode cL_law 861 = .ok (.iload_n 3, 1) := by decide +kernel
theorem dL_law_862 : decode cL_law 862 = .ok (.iconst 2, 1) := by decide +kernel
theorem dL_law_863 : decode cL_law 863 = .ok (.iadd, 1) := by decide +kernel
theorem dL_law_864 : decode cL_law 864 = .ok (.iaload, 1) := by decide +kernel
theorem dL_law_865 : decode cL_law 865 = .ok (.aload_n 0, 1) := by decide +kernel
theorem dL_law_866 : decode cL_law 866 = .ok (.iload_n 3, 1) := by decide +kernel
theorem dL_law_867 : decode cL_law 867 = .ok (.iconst 3, 1) := by decide +kernel
theorem dL_law_868 : decode cL_law 868 = .ok (.iadd, 1) := by decide +kernel
theorem dL_law_869 : decode cL_law 869 = .ok (.iaload, 1) := by decide +kernel
theorem dL_law_870 : decode cL_law 870 = .ok (.aload_n 0, 1) := by decide +kernel
theorem dL_law_871 : decode cL_law 871 = .ok (.iload_n 3, 1) := by decide +kernel
theorem dL_law_872 : decode cL_law 872 = .ok (.iconst 4, 1) := by decide +kernel
theorem dL_law_873 : decode cL_law 873 = .ok (.iadd, 1) := by decide +kernel
theorem dL_law_874 : decode cL_law 874 = .ok (.iaload, 1) := by decide +kernel
theorem dL_law_875 : decode cL_law 875 = .ok (.invokevirtual 97, 3) := by decide +kernel
theorem dL_law_878 : decode cL_law 878 = .ok (.aload_n 2, 1) := by decide +kernel
theorem dL_law_879 : decode cL_law 879 = .ok (.aload_n 0, 1) := by decide +kernel
theorem dL_law_880 : decode cL_law 880 = .ok (.iload_n 3, 1) := by decide +kernel
theorem dL_law_881 : decode cL_law 881 = .ok (.iconst 1, 1) := by decide +kernel
theorem dL_law_882 : decode cL_law 882 = .ok (.iadd, 1) := by decide +kernel
theorem dL_law_883 : decode cL_law 883 = .ok (.iaload, 1) := by decide +kernel
theorem dL_law_884 : decode cL_law 884 = .ok (.aload_n 0, 1) := by decide +kernel
theorem dL_law_885 : decode cL_law 885 = .ok (.iload_n 3, 1) := by decide +kernel
theorem dL_law_886 : decode cL_law 886 = .ok (.iconst 2, 1) := by decide +kernel
theorem dL_law_887 : decode cL_law 887 = .ok (.iadd, 1) := by decide +kernel
theorem dL_law_888 : decode cL_law 888 = .ok (.iaload, 1) := by decide +kernel
theorem dL_law_889 : decode cL_law 889 = .ok (.aload_n 0, 1) := by decide +kernel
theorem dL_law_890 : decode cL_law 890 = .ok (.iload_n 3, 1) := by decide +kernel
theorem dL_law_891 : decode cL_law 891 = .ok (.iconst 3, 1) := by decide +kernel
theorem dL_law_892 : decode cL_law 892 = .ok (.iadd, 1) := by decide +kernel
theorem dL_law_893 : decode cL_law 893 = .ok (.iaload, 1) := by decide +kernel
theorem dL_law_894 : decode cL_law 894 = .ok (.aload_n 0, 1) := by decide +kernel
theorem dL_law_895 : decode cL_law 895 = .ok (.iload_n 3, 1) := by decide +kernel
theorem dL_law_896 : decode cL_law 896 = .ok (.iconst 4, 1) := by decide +kernel
theorem dL_law_897 : decode cL_law 897 = .ok (.iadd, 1) := by decide +kernel
theorem dL_law_898 : decode cL_law 898 = .ok (.iaload, 1) := by decide +kernel
theorem dL_law_899 : decode cL_law 899 = .ok (.invokevirtual 101, 3) := by decide +kernel
theorem dL_law_902 : decode cL_law 902 = .ok (.if_icmp .eq 695, 3) := by decide +kernel
theorem dL_law_905 : decode cL_law 905 = .ok (.iconst 0, 1) := by decide +kernel
theorem dL_law_906 : decode cL_law 906 = .ok (.ireturn, 1) := by decide +kernel
theorem dL_law_907 : decode cL_law 907 = .ok (.aload_n 1, 1) := by decide +kernel
theorem dL_law_908 : decode cL_law 908 = .ok (.aload_n 0, 1) := by decide +kernel
theorem dL_law_909 : decode cL_law 909 = .ok (.iload_n 3, 1) := by decide +kernel
theorem dL_law_910 : decode cL_law 910 = .ok (.iconst 1, 1) := by decide +kernel
theorem dL_law_911 : decode cL_law 911 = .ok (.iadd, 1) := by decide +kernel
theorem dL_law_912 : decode cL_law 912 = .ok (.iaload, 1) := by decide +kernel
theorem dL_law_913 : decode cL_law 913 = .ok (.aload_n 0, 1) := by decide +kernel
theorem dL_law_914 : decode cL_law 914 = .ok (.iload_n 3, 1) := by decide +kernel
theorem dL_law_915 : decode cL_law 915 = .ok (.iconst 2, 1) := by decide +kernel
theorem dL_law_916 : decode cL_law 916 = .ok (.iadd, 1) := by decide +kernel
theorem dL_law_917 : decode cL_law 917 = .ok (.iaload, 1) := by decide +kernel
theorem dL_law_918 : decode cL_law 918 = .ok (.invokevirtual 102, 3) := by decide +kernel
theorem dL_law_921 : decode cL_law 921 = .ok (.aload_n 2, 1) := by decide +kernel
theorem dL_law_922 : decode cL_law 922 = .ok (.aload_n 0, 1) := by decide +kernel
theorem dL_law_923 : decode cL_law 923 = .ok (.iload_n 3, 1) := by decide +kernel
theorem dL_law_924 : decode cL_law 924 = .ok (.iconst 1, 1) := by decide +kernel
theorem dL_law_925 : decode cL_law 925 = .ok (.iadd, 1) := by decide +kernel
theorem dL_law_926 : decode cL_law 926 = .ok (.iaload, 1) := by decide +kernel
theorem dL_law_927 : decode cL_law 927 = .ok (.aload_n 0, 1) := by decide +kernel
theorem dL_law_928 : decode cL_law 928 = .ok (.iload_n 3, 1) := by decide +kernel
theorem dL_law_929 : decode cL_law 929 = .ok (.iconst 2, 1) := by decide +kernel
theorem dL_law_930 : decode cL_law 930 = .ok (.iadd, 1) := by decide +kernel
theorem dL_law_931 : decode cL_law 931 = .ok (.iaload, 1) := by decide +kernel
theorem dL_law_932 : decode cL_law 932 = .ok (.invokevirtual 105, 3) := by decide +kernel
theorem dL_law_935 : decode cL_law 935 = .ok (.if_icmp .eq 662, 3) := by decide +kernel
theorem dL_law_938 : decode cL_law 938 = .ok (.iconst 0, 1) := by decide +kernel
theorem dL_law_939 : decode cL_law 939 = .ok (.ireturn, 1) := by decide +kernel
theorem dL_law_940 : decode cL_law 940 = .ok (.aload_n 1, 1) := by decide +kernel
theorem dL_law_941 : decode cL_law 941 = .ok (.aload_n 0, 1) := by decide +kernel
theorem dL_law_942 : decode cL_law 942 = .ok (.iload_n 3, 1) := by decide +kernel
theorem dL_law_943 : decode cL_law 943 = .ok (.iconst 1, 1) := by decide +kernel
theorem dL_law_944 : decode cL_law 944 = .ok (.iadd, 1) := by decide +kernel
theorem dL_law_945 : decode cL_law 945 = .ok (.iaload, 1) := by decide +kernel
theorem dL_law_946 : decode cL_law 946 = .ok (.aload_n 0, 1) := by decide +kernel
theorem dL_law_947 : decode cL_law 947 = .ok (.iload_n 3, 1) := by decide +kernel
theorem dL_law_948 : decode cL_law 948 = .ok (.iconst 2, 1) := by decide +kernel
theorem dL_law_949 : decode cL_law 949 = .ok (.iadd, 1) := by decide +kernel
theorem dL_law_950 : decode cL_law 950 = .ok (.iaload, 1) := by decide +kernel
theorem dL_law_951 : decode cL_law 951 = .ok (.aload_n 0, 1) := by decide +kernel
theorem dL_law_952 : decode cL_law 952 = .ok (.iload_n 3, 1) := by decide +kernel
theorem dL_law_953 : decode cL_law 953 = .ok (.iconst 3, 1) := by decide +kernel
theorem dL_law_954 : decode cL_law 954 = .ok (.iadd, 1) := by decide +kernel
theorem dL_law_955 : decode cL_law 955 = .ok (.iaload, 1) := by decide +kernel
theorem dL_law_956 : decode cL_law 956 = .ok (.invokevirtual 106, 3) := by decide +kernel
theorem dL_law_959 : decode cL_law 959 = .ok (.aload_n 2, 1) := by decide +kernel
theorem dL_law_960 : decode cL_law 960 = .ok (.aload_n 0, 1) := by decide +kernel
theorem dL_law_961 : decode cL_law 961 = .ok (.iload_n 3, 1) := by decide +kernel
theorem dL_law_962 : decode cL_law 962 = .ok (.iconst 1, 1) := by decide +kernel
theorem dL_law_963 : decode cL_law 963 = .ok (.iadd, 1) := by decide +kernel
theorem dL_law_964 : decode cL_law 964 = .ok (.iaload, 1) := by decide +kernel
theorem dL_law_965 : decode cL_law 965 = .ok (.aload_n 0, 1) := by decide +kernel
theorem dL_law_966 : decode cL_law 966 = .ok (.iload_n 3, 1) := by decide +kernel
theorem dL_law_967 : decode cL_law 967 = .ok (.iconst 2, 1) := by decide +kernel
theorem dL_law_968 : decode cL_law 968 = .ok (.iadd, 1) := by decide +kernel
theorem dL_law_969 : decode cL_law 969 = .ok (.iaload, 1) := by decide +kernel
theorem dL_law_970 : decode cL_law 970 = .ok (.aload_n 0, 1) := by decide +kernel
theorem dL_law_971 : decode cL_law 971 = .ok (.iload_n 3, 1) := by decide +kernel
theorem dL_law_972 : decode cL_law 972 = .ok (.iconst 3, 1) := by decide +kernel
theorem dL_law_973 : decode cL_law 973 = .ok (.iadd, 1) := by decide +kernel
theorem dL_law_974 : decode cL_law 974 = .ok (.iaload, 1) := by decide +kernel
theorem dL_law_975 : decode cL_law 975 = .ok (.invokevirtual 109, 3) := by decide +kernel
theorem dL_law_978 : decode cL_law 978 = .ok (.if_icmp .eq 619, 3) := by decide +kernel
theorem dL_law_981 : decode cL_law 981 = .ok (.iconst 0, 1) := by decide +kernel
theorem dL_law_982 : decode cL_law 982 = .ok (.ireturn, 1) := by decide +kernel
theorem dL_law_983 : decode cL_law 983 = .ok (.aload_n 1, 1) := by decide +kernel
theorem dL_law_984 : decode cL_law 984 = .ok (.aload_n 0, 1) := by decide +kernel
theorem dL_law_985 : decode cL_law 985 = .ok (.iload_n 3, 1) := by decide +kernel
theorem dL_law_986 : decode cL_law 986 = .ok (.iconst 1, 1) := by decide +kernel
theorem dL_law_987 : decode cL_law 987 = .ok (.iadd, 1) := by decide +kernel
theorem dL_law_988 : decode cL_law 988 = .ok (.iaload, 1) := by decide +kernel
theorem dL_law_989 : decode cL_law 989 = .ok (.aload_n 0, 1) := by decide +kernel
theorem dL_law_990 : decode cL_law 990 = .ok (.iload_n 3, 1) := by decide +kernel
theorem dL_law_991 : decode cL_law 991 = .ok (.iconst 2, 1) := by decide +kernel
theorem dL_law_992 : decode cL_law 992 = .ok (.iadd, 1) := by decide +kernel
theorem dL_law_993 : decode cL_law 993 = .ok (.iaload, 1) := by decide +kernel
theorem dL_law_994 : decode cL_law 994 = .ok (.aload_n 0, 1) := by decide +kernel
theorem dL_law_995 : decode cL_law 995 = .ok (.iload_n 3, 1) := by decide +kernel
theorem dL_law_996 : decode cL_law 996 = .ok (.iconst 3, 1) := by decide +kernel
theorem dL_law_997 : decode cL_law 997 = .ok (.iadd, 1) := by decide +kernel
theorem dL_law_998 : decode cL_law 998 = .ok (.iaload, 1) := by decide +kernel
theorem dL_law_999 : decode cL_law 999 = .ok (.aload_n 0, 1) := by decide +kernel
theorem dL_law_1000 : decode cL_law 1000 = .ok (.iload_n 3, 1) := by decide +kernel
theorem dL_law_1001 : decode cL_law 1001 = .ok (.iconst 4, 1) := by decide +kernel
theorem dL_law_1002 : decode cL_law 1002 = .ok (.iadd, 1) := by decide +kernel
theorem dL_law_1003 : decode cL_law 1003 = .ok (.iaload, 1) := by decide +kernel
theorem dL_law_1004 : decode cL_law 1004 = .ok (.invokevirtual 110, 3) := by decide +kernel
theorem dL_law_1007 : decode cL_law 1007 = .ok (.aload_n 2, 1) := by decide +kernel
theorem dL_law_1008 : decode cL_law 1008 = .ok (.aload_n 0, 1) := by decide +kernel
theorem dL_law_1009 : decode cL_law 1009 = .ok (.iload_n 3, 1) := by decide +kernel
theorem dL_law_1010 : decode cL_law 1010 = .ok (.iconst 1, 1) := by decide +kernel
theorem dL_law_1011 : decode cL_law 1011 = .ok (.iadd, 1) := by decide +kernel
theorem dL_law_1012 : decode cL_law 1012 = .ok (.iaload, 1) := by decide +kernel
theorem dL_law_1013 : decode cL_law 1013 = .ok (.aload_n 0, 1) := by decide +kernel
theorem dL_law_1014 : decode cL_law 1014 = .ok (.iload_n 3, 1) := by decide +kernel
theorem dL_law_1015 : decode cL_law 1015 = .ok (.iconst 2, 1) := by decide +kernel
theorem dL_law_1016 : decode cL_law 1016 = .ok (.iadd, 1) := by decide +kernel
theorem dL_law_1017 : decode cL_law 1017 = .ok (.iaload, 1) := by decide +kernel
theorem dL_law_1018 : decode cL_law 1018 = .ok (.aload_n 0, 1) := by decide +kernel
theorem dL_law_1019 : decode cL_law 1019 = .ok (.iload_n 3, 1) := by decide +kernel
theorem dL_law_1020 : decode cL_law 1020 = .ok (.iconst 3, 1) := by decide +kernel
theorem dL_law_1021 : decode cL_law 1021 = .ok (.iadd, 1) := by decide +kernel
theorem dL_law_1022 : decode cL_law 1022 = .ok (.iaload, 1) := by decide +kernel
theorem dL_law_1023 : decode cL_law 1023 = .ok (.aload_n 0, 1) := by decide +kernel
theorem dL_law_1024 : decode cL_law 1024 = .ok (.iload_n 3, 1) := by decide +kernel
theorem dL_law_1025 : decode cL_law 1025 = .ok (.iconst 4, 1) := by decide +kernel
theorem dL_law_1026 : decode cL_law 1026 = .ok (.iadd, 1) := by decide +kernel
theorem dL_law_1027 : decode cL_law 1027 = .ok (.iaload, 1) := by decide +kernel
theorem dL_law_1028 : decode cL_law 1028 = .ok (.invokevirtual 113, 3) := by decide +kernel
theorem dL_law_1031 : decode cL_law 1031 = .ok (.if_icmp .eq 566, 3) := by decide +kernel
theorem dL_law_1034 : decode cL_law 1034 = .ok (.iconst 0, 1) := by decide +kernel
theorem dL_law_1035 : decode cL_law 1035 = .ok (.ireturn, 1) := by decide +kernel
theorem dL_law_1036 : decode cL_law 1036 = .ok (.aload_n 1, 1) := by decide +kernel
theorem dL_law_1037 : decode cL_law 1037 = .ok (.aload_n 0, 1) := by decide +kernel
theorem dL_law_1038 : decode cL_law 1038 = .ok (.iload_n 3, 1) := by decide +kernel
theorem dL_law_1039 : decode cL_law 1039 = .ok (.iconst 1, 1) := by decide +kernel
theorem dL_law_1040 : decode cL_law 1040 = .ok (.iadd, 1) := by decide +kernel
theorem dL_law_1041 : decode cL_law 1041 = .ok (.iaload, 1) := by decide +kernel
theorem dL_law_1042 : decode cL_law 1042 = .ok (.aload_n 0, 1) := by decide +kernel
theorem dL_law_1043 : decode cL_law 1043 = .ok (.iload_n 3, 1) := by decide +kernel
theorem dL_law_1044 : decode cL_law 1044 = .ok (.iconst 2, 1) := by decide +kernel
theorem dL_law_1045 : decode cL_law 1045 = .ok (.iadd, 1) := by decide +kernel
theorem dL_law_1046 : decode cL_law 1046 = .ok (.iaload, 1) := by decide +kernel
theorem dL_law_1047 : decode cL_law 1047 = .ok (.invokevirtual 114, 3) := by decide +kernel
theorem dL_law_1050 : decode cL_law 1050 = .ok (.aload_n 2, 1) := by decide +kernel
theorem dL_law_1051 : decode cL_law 1051 = .ok (.aload_n 0, 1) := by decide +kernel
theorem dL_law_1052 : decode cL_law 1052 = .ok (.iload_n 3, 1) := by decide +kernel
theorem dL_law_1053 : decode cL_law 1053 = .ok (.iconst 1, 1) := by decide +kernel
theorem dL_law_1054 : decode cL_law 1054 = .ok (.iadd, 1) := by decide +kernel
theorem dL_law_1055 : decode cL_law 1055 = .ok (.iaload, 1) := by decide +kernel
theorem dL_law_1056 : decode cL_law 1056 = .ok (.aload_n 0, 1) := by decide +kernel
theorem dL_law_1057 : decode cL_law 1057 = .ok (.iload_n 3, 1) := by decide +kernel
theorem dL_law_1058 : decode cL_law 1058 = .ok (.iconst 2, 1) := by decide +kernel
theorem dL_law_1059 : decode cL_law 1059 = .ok (.iadd, 1) := by decide +kernel
theorem dL_law_1060 : decode cL_law 1060 = .ok (.iaload, 1) := by decide +kernel
theorem dL_law_1061 : decode cL_law 1061 = .ok (.invokevirtual 117, 3) := by decide +kernel
theorem dL_law_1064 : decode cL_law 1064 = .ok (.if_icmp .eq 533, 3) := by decide +kernel
theorem dL_law_1067 : decode cL_law 1067 = .ok (.iconst 0, 1) := by decide +kernel
theorem dL_law_1068 : decode cL_law 1068 = .ok (.ireturn, 1) := by decide +kernel
theorem dL_law_1069 : decode cL_law 1069 = .ok (.aload_n 1, 1) := by decide +kernel
theorem dL_law_1070 : decode cL_law 1070 = .ok (.aload_n 0, 1) := by decide +kernel
theorem dL_law_1071 : decode cL_law 1071 = .ok (.iload_n 3, 1) := by decide +kernel
theorem dL_law_1072 : decode cL_law 1072 = .ok (.iconst 1, 1) := by decide +kernel
theorem dL_law_1073 : decode cL_law 1073 = .ok (.iadd, 1) := by decide +kernel
theorem dL_law_1074 : decode cL_law 1074 = .ok (.iaload, 1) := by decide +kernel
theorem dL_law_1075 : decode cL_law 1075 = .ok (.aload_n 0, 1) := by decide +kernel
theorem dL_law_1076 : decode cL_law 1076 = .ok (.iload_n 3, 1) := by decide +kernel
theorem dL_law_1077 : decode cL_law 1077 = .ok (.iconst 2, 1) := by decide +kernel
theorem dL_law_1078 : decode cL_law 1078 = .ok (.iadd, 1) := by decide +kernel
theorem dL_law_1079 : decode cL_law 1079 = .ok (.iaload, 1) := by decide +kernel
theorem dL_law_1080 : decode cL_law 1080 = .ok (.invokevirtual 118, 3) := by decide +kernel
theorem dL_law_1083 : decode cL_law 1083 = .ok (.aload_n 2, 1) := by decide +kernel
theorem dL_law_1084 : decode cL_law 1084 = .ok (.aload_n 0, 1) := by decide +kernel
theorem dL_law_1085 : decode cL_law 1085 = .ok (.iload_n 3, 1) := by decide +kernel
theorem dL_law_1086 : decode cL_law 1086 = .ok (.iconst 1, 1) := by decide +kernel
theorem dL_law_1087 : decode cL_law 1087 = .ok (.iadd, 1) := by decide +kernel
theorem dL_law_1088 : decode cL_law 1088 = .ok (.iaload, 1) := by decide +kernel
theorem dL_law_1089 : decode cL_law 1089 = .ok (.aload_n 0, 1) := by decide +kernel
theorem dL_law_1090 : decode cL_law 1090 = .ok (.iload_n 3, 1) := by decide +kernel
theorem dL_law_1091 : decode cL_law 1091 = .ok (.iconst 2, 1) := by decide +kernel
theorem dL_law_1092 : decode cL_law 1092 = .ok (.iadd, 1) := by decide +kernel
theorem dL_law_1093 : decode cL_law 1093 = .ok (.iaload, 1) := by decide +kernel
theorem dL_law_1094 : decode cL_law 1094 = .ok (.invokevirtual 121, 3) := by decide +kernel
theorem dL_law_1097 : decode cL_law 1097 = .ok (.if_icmp .eq 500, 3) := by decide +kernel
theorem dL_law_1100 : decode cL_law 1100 = .ok (.iconst 0, 1) := by decide +kernel
theorem dL_law_1101 : decode cL_law 1101 = .ok (.ireturn, 1) := by decide +kernel
theorem dL_law_1102 : decode cL_law 1102 = .ok (.aload_n 1, 1) := by decide +kernel
theorem dL_law_1103 : decode cL_law 1103 = .ok (.aload_n 0, 1) := by decide +kernel
theorem dL_law_1104 : decode cL_law 1104 = .ok (.iload_n 3, 1) := by decide +kernel
theorem dL_law_1105 : decode cL_law 1105 = .ok (.iconst 1, 1) := by decide +kernel
theorem dL_law_1106 : decode cL_law 1106 = .ok (.iadd, 1) := by decide +kernel
theorem dL_law_1107 : decode cL_law 1107 = .ok (.iaload, 1) := by decide +kernel
theorem dL_law_1108 : decode cL_law 1108 = .ok (.invokevirtual 122, 3) := by decide +kernel
theorem dL_law_1111 : decode cL_law 1111 = .ok (.aload_n 2, 1) := by decide +kernel
theorem dL_law_1112 : decode cL_law 1112 = .ok (.aload_n 0, 1) := by decide +kernel
theorem dL_law_1113 : decode cL_law 1113 = .ok (.iload_n 3, 1) := by decide +kernel
theorem dL_law_1114 : decode cL_law 1114 = .ok (.iconst 1, 1) := by decide +kernel
theorem dL_law_1115 : decode cL_law 1115 = .ok (.iadd, 1) := by decide +kernel
theorem dL_law_1116 : decode cL_law 1116 = .ok (.iaload, 1) := by decide +kernel
theorem dL_law_1117 : decode cL_law 1117 = .ok (.invokevirtual 125, 3) := by decide +kernel
theorem dL_law_1120 : decode cL_law 1120 = .ok (.if_icmp .eq 477, 3) := by decide +kernel
theorem dL_law_1123 : decode cL_law 1123 = .ok (.iconst 0, 1) := by decide +kernel
theorem dL_law_1124 : decode cL_law 1124 = .ok (.ireturn, 1) := by decide +kernel
theorem dL_law_1125 : decode cL_law 1125 = .ok (.aload_n 1, 1) := by decide +kernel
theorem dL_law_1126 : decode cL_law 1126 = .ok (.aload_n 0, 1) := by decide +kernel
theorem dL_law_1127 : decode cL_law 1127 = .ok (.iload_n 3, 1) := by decide +kernel
theorem dL_law_1128 : decode cL_law 1128 = .ok (.iconst 1, 1) := by decide +kernel
theorem dL_law_1129 : decode cL_law 1129 = .ok (.iadd, 1) := by decide +kernel
theorem dL_law_1130 : decode cL_law 1130 = .ok (.iaload, 1) := by decide +kernel
theorem dL_law_1131 : decode cL_law 1131 = .ok (.aload_n 0, 1) := by decide +kernel
theorem dL_law_1132 : decode cL_law 1132 = .ok (.iload_n 3, 1) := by decide +kernel
theorem dL_law_1133 : decode cL_law 1133 = .ok (.iconst 2, 1) := by decide +kernel
theorem dL_law_1134 : decode cL_law 1134 = .ok (.iadd, 1) := by decide +kernel
theorem dL_law_1135 : decode cL_law 1135 = .ok (.iaload, 1) := by decide +kernel
theorem dL_law_1136 : decode cL_law 1136 = .ok (.invokevirtual 126, 3) := by decide +kernel
theorem dL_law_1139 : decode cL_law 1139 = .ok (.aload_n 2, 1) := by decide +kernel
theorem dL_law_1140 : decode cL_law 1140 = .ok (.aload_n 0, 1) := by decide +kernel
theorem dL_law_1141 : decode cL_law 1141 = .ok (.iload_n 3, 1) := by decide +kernel
theorem dL_law_1142 : decode cL_law 1142 = .ok (.iconst 1, 1) := by decide +kernel
theorem dL_law_1143 : decode cL_law 1143 = .ok (.iadd, 1) := by decide +kernel
theorem dL_law_1144 : decode cL_law 1144 = .ok (.iaload, 1) := by decide +kernel
theorem dL_law_1145 : decode cL_law 1145 = .ok (.aload_n 0, 1) := by decide +kernel
theorem dL_law_1146 : decode cL_law 1146 = .ok (.iload_n 3, 1) := by decide +kernel
theorem dL_law_1147 : decode cL_law 1147 = .ok (.iconst 2, 1) := by decide +kernel
theorem dL_law_1148 : decode cL_law 1148 = .ok (.iadd, 1) := by decide +kernel
theorem dL_law_1149 : decode cL_law 1149 = .ok (.iaload, 1) := by decide +kernel
theorem dL_law_1150 : decode cL_law 1150 = .ok (.invokevirtual 130, 3) := by decide +kernel
theorem dL_law_1153 : decode cL_law 1153 = .ok (.lcmp, 1) := by decide +kernel
theorem dL_law_1154 : decode cL_law 1154 = .ok (.ifCond .eq 443, 3) := by decide +kernel
theorem dL_law_1157 : decode cL_law 1157 = .ok (.iconst 0, 1) := by decide +kernel
theorem dL_law_1158 : decode cL_law 1158 = .ok (.ireturn, 1) := by decide +kernel
theorem dL_law_1159 : decode cL_law 1159 = .ok (.aload_n 1, 1) := by decide +kernel
theorem dL_law_1160 : decode cL_law 1160 = .ok (.aload_n 0, 1) := by decide +kernel
theorem dL_law_1161 : decode cL_law 1161 = .ok (.iload_n 3, 1) := by decide +kernel
theorem dL_law_1162 : decode cL_law 1162 = .ok (.iconst 1, 1) := by decide +kernel
theorem dL_law_1163 : decode cL_law 1163 = .ok (.iadd, 1) := by decide +kernel
theorem dL_law_1164 : decode cL_law 1164 = .ok (.iaload, 1) := by decide +kernel
theorem dL_law_1165 : decode cL_law 1165 = .ok (.invokevirtual 131, 3) := by decide +kernel
theorem dL_law_1168 : decode cL_law 1168 = .ok (.aload_n 2, 1) := by decide +kernel
theorem dL_law_1169 : decode cL_law 1169 = .ok (.aload_n 0, 1) := by decide +kernel
theorem dL_law_1170 : decode cL_law 1170 = .ok (.iload_n 3, 1) := by decide +kernel
theorem dL_law_1171 : decode cL_law 1171 = .ok (.iconst 1, 1) := by decide +kernel
theorem dL_law_1172 : decode cL_law 1172 = .ok (.iadd, 1) := by decide +kernel
theorem dL_law_1173 : decode cL_law 1173 = .ok (.iaload, 1) := by decide +kernel
theorem dL_law_1174 : decode cL_law 1174 = .ok (.invokevirtual 134, 3) := by decide +kernel
theorem dL_law_1177 : decode cL_law 1177 = .ok (.if_icmp .eq 420, 3) := by decide +kernel
theorem dL_law_1180 : decode cL_law 1180 = .ok (.iconst 0, 1) := by decide +kernel
theorem dL_law_1181 : decode cL_law 1181 = .ok (.ireturn, 1) := by decide +kernel
theorem dL_law_1182 : decode cL_law 1182 = .ok (.aload_n 1, 1) := by decide +kernel
theorem dL_law_1183 : decode cL_law 1183 = .ok (.aload_n 0, 1) := by decide +kernel
theorem dL_law_1184 : decode cL_law 1184 = .ok (.iload_n 3, 1) := by decide +kernel
theorem dL_law_1185 : decode cL_law 1185 = .ok (.iconst 1, 1) := by decide +kernel
theorem dL_law_1186 : decode cL_law 1186 = .ok (.iadd, 1) := by decide +kernel
theorem dL_law_1187 : decode cL_law 1187 = .ok (.iaload, 1) := by decide +kernel
theorem dL_law_1188 : decode cL_law 1188 = .ok (.aload_n 0, 1) := by decide +kernel
theorem dL_law_1189 : decode cL_law 1189 = .ok (.iload_n 3, 1) := by decide +kernel
theorem dL_law_1190 : decode cL_law 1190 = .ok (.iconst 2, 1) := by decide +kernel
theorem dL_law_1191 : decode cL_law 1191 = .ok (.iadd, 1) := by decide +kernel
theorem dL_law_1192 : decode cL_law 1192 = .ok (.iaload, 1) := by decide +kernel
theorem dL_law_1193 : decode cL_law 1193 = .ok (.invokevirtual 135, 3) := by decide +kernel
theorem dL_law_1196 : decode cL_law 1196 = .ok (.aload_n 2, 1) := by decide +kernel
theorem dL_law_1197 : decode cL_law 1197 = .ok (.aload_n 0, 1) := by decide +kernel
theorem dL_law_1198 : decode cL_law 1198 = .ok (.iload_n 3, 1) := by decide +kernel
theorem dL_law_1199 : decode cL_law 1199 = .ok (.iconst 1, 1) := by decide +kernel
theorem dL_law_1200 : decode cL_law 1200 = .ok (.iadd, 1) := by decide +kernel
theorem dL_law_1201 : decode cL_law 1201 = .ok (.iaload, 1) := by decide +kernel
theorem dL_law_1202 : decode cL_law 1202 = .ok (.aload_n 0, 1) := by decide +kernel
theorem dL_law_1203 : decode cL_law 1203 = .ok (.iload_n 3, 1) := by decide +kernel
theorem dL_law_1204 : decode cL_law 1204 = .ok (.iconst 2, 1) := by decide +kernel
theorem dL_law_1205 : decode cL_law 1205 = .ok (.iadd, 1) := by decide +kernel
theorem dL_law_1206 : decode cL_law 1206 = .ok (.iaload, 1) := by decide +kernel
theorem dL_law_1207 : decode cL_law 1207 = .ok (.invokevirtual 138, 3) := by decide +kernel
theorem dL_law_1210 : decode cL_law 1210 = .ok (.if_icmp .eq 387, 3) := by decide +kernel
theorem dL_law_1213 : decode cL_law 1213 = .ok (.iconst 0, 1) := by decide +kernel
theorem dL_law_1214 : decode cL_law 1214 = .ok (.ireturn, 1) := by decide +kernel
theorem dL_law_1215 : decode cL_law 1215 = .ok (.aload_n 1, 1) := by decide +kernel
theorem dL_law_1216 : decode cL_law 1216 = .ok (.invokevirtual 139, 3) := by decide +kernel
theorem dL_law_1219 : decode cL_law 1219 = .ok (.aload_n 2, 1) := by decide +kernel
theorem dL_law_1220 : decode cL_law 1220 = .ok (.invokevirtual 142, 3) := by decide +kernel
theorem dL_law_1223 : decode cL_law 1223 = .ok (.if_icmp .eq 374, 3) := by decide +kernel
theorem dL_law_1226 : decode cL_law 1226 = .ok (.iconst 0, 1) := by decide +kernel
theorem dL_law_1227 : decode cL_law 1227 = .ok (.ireturn, 1) := by decide +kernel
theorem dL_law_1228 : decode cL_law 1228 = .ok (.aload_n 1, 1) := by decide +kernel
theorem dL_law_1229 : decode cL_law 1229 = .ok (.invokevirtual 143, 3) := by decide +kernel
theorem dL_law_1232 : decode cL_law 1232 = .ok (.aload_n 2, 1) := by decide +kernel
theorem dL_law_1233 : decode cL_law 1233 = .ok (.invokevirtual 146, 3) := by decide +kernel
theorem dL_law_1236 : decode cL_law 1236 = .ok (.if_icmp .eq 361, 3) := by decide +kernel
theorem dL_law_1239 : decode cL_law 1239 = .ok (.iconst 0, 1) := by decide +kernel
theorem dL_law_1240 : decode cL_law 1240 = .ok (.ireturn, 1) := by decide +kernel
theorem dL_law_1241 : decode cL_law 1241 = .ok (.aload_n 1, 1) := by decide +kernel
theorem dL_law_1242 : decode cL_law 1242 = .ok (.aload_n 0, 1) := by decide +kernel
theorem dL_law_1243 : decode cL_law 1243 = .ok (.iload_n 3, 1) := by decide +kernel
theorem dL_law_1244 : decode cL_law 1244 = .ok (.iconst 1, 1) := by decide +kernel
theorem dL_law_1245 : decode cL_law 1245 = .ok (.iadd, 1) := by decide +kernel
theorem dL_law_1246 : decode cL_law 1246 = .ok (.iaload, 1) := by decide +kernel
theorem dL_law_1247 : decode cL_law 1247 = .ok (.aload_n 0, 1) := by decide +kernel
theorem dL_law_1248 : decode cL_law 1248 = .ok (.iload_n 3, 1) := by decide +kernel
theorem dL_law_1249 : decode cL_law 1249 = .ok (.iconst 2, 1) := by decide +kernel
theorem dL_law_1250 : decode cL_law 1250 = .ok (.iadd, 1) := by decide +kernel
theorem dL_law_1251 : decode cL_law 1251 = .ok (.iaload, 1) := by decide +kernel
theorem dL_law_1252 : decode cL_law 1252 = .ok (.invokevirtual 147, 3) := by decide +kernel
theorem dL_law_1255 : decode cL_law 1255 = .ok (.aload_n 2, 1) := by decide +kernel
theorem dL_law_1256 : decode cL_law 1256 = .ok (.aload_n 0, 1) := by decide +kernel
theorem dL_law_1257 : decode cL_law 1257 = .ok (.iload_n 3, 1) := by decide +kernel
theorem dL_law_1258 : decode cL_law 1258 = .ok (.iconst 1, 1) := by decide +kernel
theorem dL_law_1259 : decode cL_law 1259 = .ok (.iadd, 1) := by decide +kernel
theorem dL_law_1260 : decode cL_law 1260 = .ok (.iaload, 1) := by decide +kernel
theorem dL_law_1261 : decode cL_law 1261 = .ok (.aload_n 0, 1) := by decide +kernel
theorem dL_law_1262 : decode cL_law 1262 = .ok (.iload_n 3, 1) := by decide +kernel
theorem dL_law_1263 : decode cL_law 1263 = .ok (.iconst 2, 1) := by decide +kernel
theorem dL_law_1264 : decode cL_law 1264 = .ok (.iadd, 1) := by decide +kernel
theorem dL_law_1265 : decode cL_law 1265 = .ok (.iaload, 1) := by decide +kernel
theorem dL_law_1266 : decode cL_law 1266 = .ok (.invokevirtual 150, 3) := by decide +kernel
theorem dL_law_1269 : decode cL_law 1269 = .ok (.if_icmp .eq 328, 3) := by decide +kernel
theorem dL_law_1272 : decode cL_law 1272 = .ok (.iconst 0, 1) := by decide +kernel
theorem dL_law_1273 : decode cL_law 1273 = .ok (.ireturn, 1) := by decide +kernel
theorem dL_law_1274 : decode cL_law 1274 = .ok (.aload_n 1, 1) := by decide +kernel
theorem dL_law_1275 : decode cL_law 1275 = .ok (.aload_n 0, 1) := by decide +kernel
theorem dL_law_1276 : decode cL_law 1276 = .ok (.iload_n 3, 1) := by decide +kernel
theorem dL_law_1277 : decode cL_law 1277 = .ok (.iconst 1, 1) := by decide +kernel
theorem dL_law_1278 : decode cL_law 1278 = .ok (.iadd, 1) := by decide +kernel
theorem dL_law_1279 : decode cL_law 1279 = .ok (.iaload, 1) := by decide +kernel
theorem dL_law_1280 : decode cL_law 1280 = .ok (.aload_n 0, 1) := by decide +kernel
theorem dL_law_1281 : decode cL_law 1281 = .ok (.iload_n 3, 1) := by decide +kernel
theorem dL_law_1282 : decode cL_law 1282 = .ok (.iconst 2, 1) := by decide +kernel
theorem dL_law_1283 : decode cL_law 1283 = .ok (.iadd, 1) := by decide +kernel
theorem dL_law_1284 : decode cL_law 1284 = .ok (.iaload, 1) := by decide +kernel
theorem dL_law_1285 : decode cL_law 1285 = .ok (.invokevirtual 151, 3) := by decide +kernel
theorem dL_law_1288 : decode cL_law 1288 = .ok (.aload_n 2, 1) := by decide +kernel
theorem dL_law_1289 : decode cL_law 1289 = .ok (.aload_n 0, 1) := by decide +kernel
theorem dL_law_1290 : decode cL_law 1290 = .ok (.iload_n 3, 1) := by decide +kernel
theorem dL_law_1291 : decode cL_law 1291 = .ok (.iconst 1, 1) := by decide +kernel
theorem dL_law_1292 : decode cL_law 1292 = .ok (.iadd, 1) := by decide +kernel
theorem dL_law_1293 : decode cL_law 1293 = .ok (.iaload, 1) := by decide +kernel
theorem dL_law_1294 : decode cL_law 1294 = .ok (.aload_n 0, 1) := by decide +kernel
theorem dL_law_1295 : decode cL_law 1295 = .ok (.iload_n 3, 1) := by decide +kernel
theorem dL_law_1296 : decode cL_law 1296 = .ok (.iconst 2, 1) := by decide +kernel
theorem dL_law_1297 : decode cL_law 1297 = .ok (.iadd, 1) := by decide +kernel
theorem dL_law_1298 : decode cL_law 1298 = .ok (.iaload, 1) := by decide +kernel
theorem dL_law_1299 : decode cL_law 1299 = .ok (.invokevirtual 154, 3) := by decide +kernel
theorem dL_law_1302 : decode cL_law 1302 = .ok (.if_icmp .eq 295, 3) := by decide +kernel
theorem dL_law_1305 : decode cL_law 1305 = .ok (.iconst 0, 1) := by decide +kernel
theorem dL_law_1306 : decode cL_law 1306 = .ok (.ireturn, 1) := by decide +kernel
theorem dL_law_1307 : decode cL_law 1307 = .ok (.aload_n 1, 1) := by decide +kernel
theorem dL_law_1308 : decode cL_law 1308 = .ok (.aload_n 0, 1) := by decide +kernel
theorem dL_law_1309 : decode cL_law 1309 = .ok (.iload_n 3, 1) := by decide +kernel
theorem dL_law_1310 : decode cL_law 1310 = .ok (.iconst 1, 1) := by decide +kernel
theorem dL_law_1311 : decode cL_law 1311 = .ok (.iadd, 1) := by decide +kernel
theorem dL_law_1312 : decode cL_law 1312 = .ok (.iaload, 1) := by decide +kernel
theorem dL_law_1313 : decode cL_law 1313 = .ok (.aload_n 0, 1) := by decide +kernel
theorem dL_law_1314 : decode cL_law 1314 = .ok (.iload_n 3, 1) := by decide +kernel
theorem dL_law_1315 : decode cL_law 1315 = .ok (.iconst 2, 1) := by decide +kernel
theorem dL_law_1316 : decode cL_law 1316 = .ok (.iadd, 1) := by decide +kernel
theorem dL_law_1317 : decode cL_law 1317 = .ok (.iaload, 1) := by decide +kernel
theorem dL_law_1318 : decode cL_law 1318 = .ok (.aload_n 0, 1) := by decide +kernel
theorem dL_law_1319 : decode cL_law 1319 = .ok (.iload_n 3, 1) := by decide +kernel
theorem dL_law_1320 : decode cL_law 1320 = .ok (.iconst 3, 1) := by decide +kernel
theorem dL_law_1321 : decode cL_law 1321 = .ok (.iadd, 1) := by decide +kernel
theorem dL_law_1322 : decode cL_law 1322 = .ok (.iaload, 1) := by decide +kernel
theorem dL_law_1323 : decode cL_law 1323 = .ok (.invokevirtual 155, 3) := by decide +kernel
theorem dL_law_1326 : decode cL_law 1326 = .ok (.aload_n 2, 1) := by decide +kernel
theorem dL_law_1327 : decode cL_law 1327 = .ok (.aload_n 0, 1) := by decide +kernel
theorem dL_law_1328 : decode cL_law 1328 = .ok (.iload_n 3, 1) := by decide +kernel
theorem dL_law_1329 : decode cL_law 1329 = .ok (.iconst 1, 1) := by decide +kernel
theorem dL_law_1330 : decode cL_law 1330 = .ok (.iadd, 1) := by decide +kernel
theorem dL_law_1331 : decode cL_law 1331 = .ok (.iaload, 1) := by decide +kernel
theorem dL_law_1332 : decode cL_law 1332 = .ok (.aload_n 0, 1) := by decide +kernel
theorem dL_law_1333 : decode cL_law 1333 = .ok (.iload_n 3, 1) := by decide +kernel
theorem dL_law_1334 : decode cL_law 1334 = .ok (.iconst 2, 1) := by decide +kernel
theorem dL_law_1335 : decode cL_law 1335 = .ok (.iadd, 1) := by decide +kernel
theorem dL_law_1336 : decode cL_law 1336 = .ok (.iaload, 1) := by decide +kernel
theorem dL_law_1337 : decode cL_law 1337 = .ok (.aload_n 0, 1) := by decide +kernel
theorem dL_law_1338 : decode cL_law 1338 = .ok (.iload_n 3, 1) := by decide +kernel
theorem dL_law_1339 : decode cL_law 1339 = .ok (.iconst 3, 1) := by decide +kernel
theorem dL_law_1340 : decode cL_law 1340 = .ok (.iadd, 1) := by decide +kernel
theorem dL_law_1341 : decode cL_law 1341 = .ok (.iaload, 1) := by decide +kernel
theorem dL_law_1342 : decode cL_law 1342 = .ok (.invokevirtual 158, 3) := by decide +kernel
theorem dL_law_1345 : decode cL_law 1345 = .ok (.if_icmp .eq 252, 3) := by decide +kernel
theorem dL_law_1348 : decode cL_law 1348 = .ok (.iconst 0, 1) := by decide +kernel
theorem dL_law_1349 : decode cL_law 1349 = .ok (.ireturn, 1) := by decide +kernel
theorem dL_law_1350 : decode cL_law 1350 = .ok (.aload_n 1, 1) := by decide +kernel
theorem dL_law_1351 : decode cL_law 1351 = .ok (.aload_n 0, 1) := by decide +kernel
theorem dL_law_1352 : decode cL_law 1352 = .ok (.iload_n 3, 1) := by decide +kernel
theorem dL_law_1353 : decode cL_law 1353 = .ok (.iconst 1, 1) := by decide +kernel
theorem dL_law_1354 : decode cL_law 1354 = .ok (.iadd, 1) := by decide +kernel
theorem dL_law_1355 : decode cL_law 1355 = .ok (.iaload, 1) := by decide +kernel
theorem dL_law_1356 : decode cL_law 1356 = .ok (.aload_n 0, 1) := by decide +kernel
theorem dL_law_1357 : decode cL_law 1357 = .ok (.iload_n 3, 1) := by decide +kernel
theorem dL_law_1358 : decode cL_law 1358 = .ok (.iconst 2, 1) := by decide +kernel
theorem dL_law_1359 : decode cL_law 1359 = .ok (.iadd, 1) := by decide +kernel
theorem dL_law_1360 : decode cL_law 1360 = .ok (.iaload, 1) := by decide +kernel
theorem dL_law_1361 : decode cL_law 1361 = .ok (.aload_n 0, 1) := by decide +kernel
theorem dL_law_1362 : decode cL_law 1362 = .ok (.iload_n 3, 1) := by decide +kernel
theorem dL_law_1363 : decode cL_law 1363 = .ok (.iconst 3, 1) := by decide +kernel
theorem dL_law_1364 : decode cL_law 1364 = .ok (.iadd, 1) := by decide +kernel
theorem dL_law_1365 : decode cL_law 1365 = .ok (.iaload, 1) := by decide +kernel
theorem dL_law_1366 : decode cL_law 1366 = .ok (.invokevirtual 159, 3) := by decide +kernel
theorem dL_law_1369 : decode cL_law 1369 = .ok (.aload_n 2, 1) := by decide +kernel
theorem dL_law_1370 : decode cL_law 1370 = .ok (.aload_n 0, 1) := by decide +kernel
theorem dL_law_1371 : decode cL_law 1371 = .ok (.iload_n 3, 1) := by decide +kernel
theorem dL_law_1372 : decode cL_law 1372 = .ok (.iconst 1, 1) := by decide +kernel
theorem dL_law_1373 : decode cL_law 1373 = .ok (.iadd, 1) := by decide +kernel
theorem dL_law_1374 : decode cL_law 1374 = .ok (.iaload, 1) := by decide +kernel
theorem dL_law_1375 : decode cL_law 1375 = .ok (.aload_n 0, 1) := by decide +kernel
theorem dL_law_1376 : decode cL_law 1376 = .ok (.iload_n 3, 1) := by decide +kernel
theorem dL_law_1377 : decode cL_law 1377 = .ok (.iconst 2, 1) := by decide +kernel
theorem dL_law_1378 : decode cL_law 1378 = .ok (.iadd, 1) := by decide +kernel
theorem dL_law_1379 : decode cL_law 1379 = .ok (.iaload, 1) := by decide +kernel
theorem dL_law_1380 : decode cL_law 1380 = .ok (.aload_n 0, 1) := by decide +kernel
theorem dL_law_1381 : decode cL_law 1381 = .ok (.iload_n 3, 1) := by decide +kernel
theorem dL_law_1382 : decode cL_law 1382 = .ok (.iconst 3, 1) := by decide +kernel
theorem dL_law_1383 : decode cL_law 1383 = .ok (.iadd, 1) := by decide +kernel
theorem dL_law_1384 : decode cL_law 1384 = .ok (.iaload, 1) := by decide +kernel
theorem dL_law_1385 : decode cL_law 1385 = .ok (.invokevirtual 162, 3) := by decide +kernel
theorem dL_law_1388 : decode cL_law 1388 = .ok (.if_icmp .eq 209, 3) := by decide +kernel
theorem dL_law_1391 : decode cL_law 1391 = .ok (.iconst 0, 1) := by decide +kernel
theorem dL_law_1392 : decode cL_law 1392 = .ok (.ireturn, 1) := by decide +kernel
theorem dL_law_1393 : decode cL_law 1393 = .ok (.aload_n 1, 1) := by decide +kernel
theorem dL_law_1394 : decode cL_law 1394 = .ok (.aload_n 0, 1) := by decide +kernel
theorem dL_law_1395 : decode cL_law 1395 = .ok (.iload_n 3, 1) := by decide +kernel
theorem dL_law_1396 : decode cL_law 1396 = .ok (.iconst 1, 1) := by decide +kernel
theorem dL_law_1397 : decode cL_law 1397 = .ok (.iadd, 1) := by decide +kernel
theorem dL_law_1398 : decode cL_law 1398 = .ok (.iaload, 1) := by decide +kernel
theorem dL_law_1399 : decode cL_law 1399 = .ok (.aload_n 0, 1) := by decide +kernel
theorem dL_law_1400 : decode cL_law 1400 = .ok (.iload_n 3, 1) := by decide +kernel
theorem dL_law_1401 : decode cL_law 1401 = .ok (.iconst 2, 1) := by decide +kernel
theorem dL_law_1402 : decode cL_law 1402 = .ok (.iadd, 1) := by decide +kernel
theorem dL_law_1403 : decode cL_law 1403 = .ok (.iaload, 1) := by decide +kernel
theorem dL_law_1404 : decode cL_law 1404 = .ok (.aload_n 0, 1) := by decide +kernel
theorem dL_law_1405 : decode cL_law 1405 = .ok (.iload_n 3, 1) := by decide +kernel
theorem dL_law_1406 : decode cL_law 1406 = .ok (.iconst 3, 1) := by decide +kernel
theorem dL_law_1407 : decode cL_law 1407 = .ok (.iadd, 1) := by decide +kernel
theorem dL_law_1408 : decode cL_law 1408 = .ok (.iaload, 1) := by decide +kernel
theorem dL_law_1409 : decode cL_law 1409 = .ok (.aload_n 0, 1) := by decide +kernel
theorem dL_law_1410 : decode cL_law 1410 = .ok (.iload_n 3, 1) := by decide +kernel
theorem dL_law_1411 : decode cL_law 1411 = .ok (.iconst 4, 1) := by decide +kernel
theorem dL_law_1412 : decode cL_law 1412 = .ok (.iadd, 1) := by decide +kernel
theorem dL_law_1413 : decode cL_law 1413 = .ok (.iaload, 1) := by decide +kernel
theorem dL_law_1414 : decode cL_law 1414 = .ok (.aload_n 0, 1) := by decide +kernel
theorem dL_law_1415 : decode cL_law 1415 = .ok (.iload_n 3, 1) := by decide +kernel
theorem dL_law_1416 : decode cL_law 1416 = .ok (.iconst 5, 1) := by decide +kernel
theorem dL_law_1417 : decode cL_law 1417 = .ok (.iadd, 1) := by decide +kernel
theorem dL_law_1418 : decode cL_law 1418 = .ok (.iaload, 1) := by decide +kernel
theorem dL_law_1419 : decode cL_law 1419 = .ok (.invokevirtual 163, 3) := by decide +kernel
theorem dL_law_1422 : decode cL_law 1422 = .ok (.aload_n 2, 1) := by decide +kernel
theorem dL_law_1423 : decode cL_law 1423 = .ok (.aload_n 0, 1) := by decide +kernel
theorem dL_law_1424 : decode cL_law 1424 = .ok (.iload_n 3, 1) := by decide +kernel
theorem dL_law_1425 : decode cL_law 1425 = .ok (.iconst 1, 1) := by decide +kernel
theorem dL_law_1426 : decode cL_law 1426 = .ok (.iadd, 1) := by decide +kernel
theorem dL_law_1427 : decode cL_law 1427 = .ok (.iaload, 1) := by decide +kernel
theorem dL_law_1428 : decode cL_law 1428 = .ok (.aload_n 0, 1) := by decide +kernel
theorem dL_law_1429 : decode cL_law 1429 = .ok (.iload_n 3, 1) := by decide +kernel
theorem dL_law_1430 : decode cL_law 1430 = .ok (.iconst 2, 1) := by decide +kernel
theorem dL_law_1431 : decode cL_law 1431 = .ok (.iadd, 1) := by decide +kernel
theorem dL_law_1432 : decode cL_law 1432 = .ok (.iaload, 1) := by decide +kernel
theorem dL_law_1433 : decode cL_law 1433 = .ok (.aload_n 0, 1) := by decide +kernel
theorem dL_law_1434 : decode cL_law 1434 = .ok (.iload_n 3, 1) := by decide +kernel
theorem dL_law_1435 : decode cL_law 1435 = .ok (.iconst 3, 1) := by decide +kernel
theorem dL_law_1436 : decode cL_law 1436 = .ok (.iadd, 1) := by decide +kernel
theorem dL_law_1437 : decode cL_law 1437 = .ok (.iaload, 1) := by decide +kernel
theorem dL_law_1438 : decode cL_law 1438 = .ok (.aload_n 0, 1) := by decide +kernel
theorem dL_law_1439 : decode cL_law 1439 = .ok (.iload_n 3, 1) := by decide +kernel
theorem dL_law_1440 : decode cL_law 1440 = .ok (.iconst 4, 1) := by decide +kernel
theorem dL_law_1441 : decode cL_law 1441 = .ok (.iadd, 1) := by decide +kernel
theorem dL_law_1442 : decode cL_law 1442 = .ok (.iaload, 1) := by decide +kernel
theorem dL_law_1443 : decode cL_law 1443 = .ok (.aload_n 0, 1) := by decide +kernel
theorem dL_law_1444 : decode cL_law 1444 = .ok (.iload_n 3, 1) := by decide +kernel
theorem dL_law_1445 : decode cL_law 1445 = .ok (.iconst 5, 1) := by decide +kernel
theorem dL_law_1446 : decode cL_law 1446 = .ok (.iadd, 1) := by decide +kernel
theorem dL_law_1447 : decode cL_law 1447 = .ok (.iaload, 1) := by decide +kernel
theorem dL_law_1448 : decode cL_law 1448 = .ok (.invokevirtual 167, 3) := by decide +kernel
theorem dL_law_1451 : decode cL_law 1451 = .ok (.if_icmp .eq 146, 3) := by decide +kernel
theorem dL_law_1454 : decode cL_law 1454 = .ok (.iconst 0, 1) := by decide +kernel
theorem dL_law_1455 : decode cL_law 1455 = .ok (.ireturn, 1) := by decide +kernel
theorem dL_law_1456 : decode cL_law 1456 = .ok (.aload_n 1, 1) := by decide +kernel
theorem dL_law_1457 : decode cL_law 1457 = .ok (.aload_n 0, 1) := by decide +kernel
theorem dL_law_1458 : decode cL_law 1458 = .ok (.iload_n 3, 1) := by decide +kernel
theorem dL_law_1459 : decode cL_law 1459 = .ok (.iconst 1, 1) := by decide +kernel
theorem dL_law_1460 : decode cL_law 1460 = .ok (.iadd, 1) := by decide +kernel
theorem dL_law_1461 : decode cL_law 1461 = .ok (.iaload, 1) := by decide +kernel
theorem dL_law_1462 : decode cL_law 1462 = .ok (.invokevirtual 168, 3) := by decide +kernel
theorem dL_law_1465 : decode cL_law 1465 = .ok (.aload_n 2, 1) := by decide +kernel
theorem dL_law_1466 : decode cL_law 1466 = .ok (.aload_n 0, 1) := by decide +kernel
theorem dL_law_1467 : decode cL_law 1467 = .ok (.iload_n 3, 1) := by decide +kernel
theorem dL_law_1468 : decode cL_law 1468 = .ok (.iconst 1, 1) := by decide +kernel
theorem dL_law_1469 : decode cL_law 1469 = .ok (.iadd, 1) := by decide +kernel
theorem dL_law_1470 : decode cL_law 1470 = .ok (.iaload, 1) := by decide +kernel
theorem dL_law_1471 : decode cL_law 1471 = .ok (.invokevirtual 171, 3) := by decide +kernel
theorem dL_law_1474 : decode cL_law 1474 = .ok (.if_icmp .eq 123, 3) := by decide +kernel
theorem dL_law_1477 : decode cL_law 1477 = .ok (.iconst 0, 1) := by decide +kernel
theorem dL_law_1478 : decode cL_law 1478 = .ok (.ireturn, 1) := by decide +kernel
theorem dL_law_1479 : decode cL_law 1479 = .ok (.aload_n 1, 1) := by decide +kernel
theorem dL_law_1480 : decode cL_law 1480 = .ok (.aload_n 0, 1) := by decide +kernel
theorem dL_law_1481 : decode cL_law 1481 = .ok (.iload_n 3, 1) := by decide +kernel
theorem dL_law_1482 : decode cL_law 1482 = .ok (.iconst 1, 1) := by decide +kernel
theorem dL_law_1483 : decode cL_law 1483 = .ok (.iadd, 1) := by decide +kernel
theorem dL_law_1484 : decode cL_law 1484 = .ok (.iaload, 1) := by decide +kernel
theorem dL_law_1485 : decode cL_law 1485 = .ok (.aload_n 0, 1) := by decide +kernel
theorem dL_law_1486 : decode cL_law 1486 = .ok (.iload_n 3, 1) := by decide +kernel
theorem dL_law_1487 : decode cL_law 1487 = .ok (.iconst 2, 1) := by decide +kernel
theorem dL_law_1488 : decode cL_law 1488 = .ok (.iadd, 1) := by decide +kernel
theorem dL_law_1489 : decode cL_law 1489 = .ok (.iaload, 1) := by decide +kernel
theorem dL_law_1490 : decode cL_law 1490 = .ok (.invokevirtual 172, 3) := by decide +kernel
theorem dL_law_1493 : decode cL_law 1493 = .ok (.aload_n 2, 1) := by decide +kernel
theorem dL_law_1494 : decode cL_law 1494 = .ok (.aload_n 0, 1) := by decide +kernel
theorem dL_law_1495 : decode cL_law 1495 = .ok (.iload_n 3, 1) := by decide +kernel
theorem dL_law_1496 : decode cL_law 1496 = .ok (.iconst 1, 1) := by decide +kernel
theorem dL_law_1497 : decode cL_law 1497 = .ok (.iadd, 1) := by decide +kernel
theorem dL_law_1498 : decode cL_law 1498 = .ok (.iaload, 1) := by decide +kernel
theorem dL_law_1499 : decode cL_law 1499 = .ok (.aload_n 0, 1) := by decide +kernel
theorem dL_law_1500 : decode cL_law 1500 = .ok (.iload_n 3, 1) := by decide +kernel
theorem dL_law_1501 : decode cL_law 1501 = .ok (.iconst 2, 1) := by decide +kernel
theorem dL_law_1502 : decode cL_law 1502 = .ok (.iadd, 1) := by decide +kernel
theorem dL_law_1503 : decode cL_law 1503 = .ok (.iaload, 1) := by decide +kernel
theorem dL_law_1504 : decode cL_law 1504 = .ok (.invokevirtual 175, 3) := by decide +kernel
theorem dL_law_1507 : decode cL_law 1507 = .ok (.if_icmp .eq 90, 3) := by decide +kernel
theorem dL_law_1510 : decode cL_law 1510 = .ok (.iconst 0, 1) := by decide +kernel
theorem dL_law_1511 : decode cL_law 1511 = .ok (.ireturn, 1) := by decide +kernel
theorem dL_law_1512 : decode cL_law 1512 = .ok (.aload_n 1, 1) := by decide +kernel
theorem dL_law_1513 : decode cL_law 1513 = .ok (.invokevirtual 176, 3) := by decide +kernel
theorem dL_law_1516 : decode cL_law 1516 = .ok (.aload_n 2, 1) := by decide +kernel
theorem dL_law_1517 : decode cL_law 1517 = .ok (.invokevirtual 179, 3) := by decide +kernel
theorem dL_law_1520 : decode cL_law 1520 = .ok (.if_icmp .eq 77, 3) := by decide +kernel
theorem dL_law_1523 : decode cL_law 1523 = .ok (.iconst 0, 1) := by decide +kernel
theorem dL_law_1524 : decode cL_law 1524 = .ok (.ireturn, 1) := by decide +kernel
theorem dL_law_1525 : decode cL_law 1525 = .ok (.aload_n 1, 1) := by decide +kernel
theorem dL_law_1526 : decode cL_law 1526 = .ok (.invokevirtual 180, 3) := by decide +kernel
theorem dL_law_1529 : decode cL_law 1529 = .ok (.aload_n 2, 1) := by decide +kernel
theorem dL_law_1530 : decode cL_law 1530 = .ok (.invokevirtual 183, 3) := by decide +kernel
theorem dL_law_1533 : decode cL_law 1533 = .ok (.if_icmp .eq 64, 3) := by decide +kernel
theorem dL_law_1536 : decode cL_law 1536 = .ok (.iconst 0, 1) := by decide +kernel
theorem dL_law_1537 : decode cL_law 1537 = .ok (.ireturn, 1) := by decide +kernel
theorem dL_law_1538 : decode cL_law 1538 = .ok (.aload_n 1, 1) := by decide +kernel
theorem dL_law_1539 : decode cL_law 1539 = .ok (.invokevirtual 184, 3) := by decide +kernel
theorem dL_law_1542 : decode cL_law 1542 = .ok (.aload_n 2, 1) := by decide +kernel
theorem dL_law_1543 : decode cL_law 1543 = .ok (.invokevirtual 187, 3) := by decide +kernel
theorem dL_law_1546 : decode cL_law 1546 = .ok (.if_icmp .eq 51, 3) := by decide +kernel
theorem dL_law_1549 : decode cL_law 1549 = .ok (.iconst 0, 1) := by decide +kernel
theorem dL_law_1550 : decode cL_law 1550 = .ok (.ireturn, 1) := by decide +kernel
theorem dL_law_1551 : decode cL_law 1551 = .ok (.aload_n 1, 1) := by decide +kernel
theorem dL_law_1552 : decode cL_law 1552 = .ok (.aload_n 0, 1) := by decide +kernel
theorem dL_law_1553 : decode cL_law 1553 = .ok (.iload_n 3, 1) := by decide +kernel
theorem dL_law_1554 : decode cL_law 1554 = .ok (.iconst 1, 1) := by decide +kernel
theorem dL_law_1555 : decode cL_law 1555 = .ok (.iadd, 1) := by decide +kernel
theorem dL_law_1556 : decode cL_law 1556 = .ok (.iaload, 1) := by decide +kernel
theorem dL_law_1557 : decode cL_law 1557 = .ok (.invokevirtual 188, 3) := by decide +kernel
theorem dL_law_1560 : decode cL_law 1560 = .ok (.aload_n 2, 1) := by decide +kernel
theorem dL_law_1561 : decode cL_law 1561 = .ok (.aload_n 0, 1) := by decide +kernel
theorem dL_law_1562 : decode cL_law 1562 = .ok (.iload_n 3, 1) := by decide +kernel
theorem dL_law_1563 : decode cL_law 1563 = .ok (.iconst 1, 1) := by decide +kernel
theorem dL_law_1564 : decode cL_law 1564 = .ok (.iadd, 1) := by decide +kernel
theorem dL_law_1565 : decode cL_law 1565 = .ok (.iaload, 1) := by decide +kernel
theorem dL_law_1566 : decode cL_law 1566 = .ok (.invokevirtual 191, 3) := by decide +kernel
theorem dL_law_1569 : decode cL_law 1569 = .ok (.if_icmp .eq 28, 3) := by decide +kernel
theorem dL_law_1572 : decode cL_law 1572 = .ok (.iconst 0, 1) := by decide +kernel
theorem dL_law_1573 : decode cL_law 1573 = .ok (.ireturn, 1) := by decide +kernel
theorem dL_law_1574 : decode cL_law 1574 = .ok (.aload_n 1, 1) := by decide +kernel
theorem dL_law_1575 : decode cL_law 1575 = .ok (.aload_n 0, 1) := by decide +kernel
theorem dL_law_1576 : decode cL_law 1576 = .ok (.iload_n 3, 1) := by decide +kernel
theorem dL_law_1577 : decode cL_law 1577 = .ok (.iconst 1, 1) := by decide +kernel
theorem dL_law_1578 : decode cL_law 1578 = .ok (.iadd, 1) := by decide +kernel
theorem dL_law_1579 : decode cL_law 1579 = .ok (.iaload, 1) := by decide +kernel
theorem dL_law_1580 : decode cL_law 1580 = .ok (.invokevirtual 192, 3) := by decide +kernel
theorem dL_law_1583 : decode cL_law 1583 = .ok (.aload_n 2, 1) := by decide +kernel
theorem dL_law_1584 : decode cL_law 1584 = .ok (.aload_n 0, 1) := by decide +kernel
theorem dL_law_1585 : decode cL_law 1585 = .ok (.iload_n 3, 1) := by decide +kernel
theorem dL_law_1586 : decode cL_law 1586 = .ok (.iconst 1, 1) := by decide +kernel
theorem dL_law_1587 : decode cL_law 1587 = .ok (.iadd, 1) := by decide +kernel
theorem dL_law_1588 : decode cL_law 1588 = .ok (.iaload, 1) := by decide +kernel
theorem dL_law_1589 : decode cL_law 1589 = .ok (.invokevirtual 195, 3) := by decide +kernel
theorem dL_law_1592 : decode cL_law 1592 = .ok (.if_icmp .eq 5, 3) := by decide +kernel
theorem dL_law_1595 : decode cL_law 1595 = .ok (.iconst 0, 1) := by decide +kernel
theorem dL_law_1596 : decode cL_law 1596 = .ok (.ireturn, 1) := by decide +kernel
theorem dL_law_1597 : decode cL_law 1597 = .ok (.iinc 3 6, 3) := by decide +kernel
theorem dL_law_1600 : decode cL_law 1600 = .ok (.goto (-1582), 3) := by decide +kernel
theorem dL_law_1603 : decode cL_law 1603 = .ok (.iconst 1, 1) := by decide +kernel
theorem dL_law_1604 : decode cL_law 1604 = .ok (.ireturn, 1) := by decide +kernel
end
section
/-! the whole room as one memory: cell k, place j; the shape never changes behind the constructors -/
abbrev zMem : Type := Nat → Nat → Int32
abbrev zG : Type := va_G × (ClassId × ClassId × ClassId) × (Nat → Nat) × (Nat → Nat) × (Nat → Nat)
def zD (g : zG) : va_G := g.1
def zcI (g : zG) : ClassId := g.2.1.1
def zcT (g : zG) : ClassId := g.2.1.2.1
def zcS (g : zG) : ClassId := g.2.1.2.2
def zad (g : zG) (k : Nat) : Nat := g.2.2.1 k
def zak (g : zG) (k : Nat) : Nat := g.2.2.2.1 k
def zav (g : zG) (k : Nat) : Nat := g.2.2.2.2 k
def zcamp : List (Nat × Nat) := [(0,0),(7,25),(7,10),(9,6),(4,0),(7,4),(4,0),(7,4),(4,0),(7,4),(4,0),(7,4),(4,0),(7,4),(4,0),(7,4)]
def zkL : List (Nat × Nat) := [(5,0)] ++ zcamp ++ zcamp ++ zcamp ++ [(1,0),(7,25),(7,25),(7,25),(3,0),(7,120),(8,4),(7,7),(7,25),(2,0),(7,40),(2,0),(7,40),(2,0),(7,40),(2,0),(7,40),(6,0),(7,87),(7,87),(7,87),(7,7),(7,25),(7,25),(7,120),(7,4),(7,4),(7,160),(7,40)]
def zkd (k : Nat) : Nat := (zkL.getD k (10, 0)).1
def zln (k : Nat) : Nat := (zkL.getD k (10, 0)).2
theorem zkL_len : zkL.length = 78 := by decide +kernel
theorem zkd_lt {k c : Nat} (h : zkd k = c) (hc : c < 10) : k < 78 := by
  rcases Nat.lt_or_ge k 78 with q | q
  · exact q
  · exfalso
    have h1 : zkL.getD k (10, 0) = (10, 0) := by
      rw [List.getD_eq_getElem?_getD, List.getElem?_eq_none (by rw [zkL_len]; exact q)]; rfl
    rw [zkd, h1] at h
    simp only at h
    omega
/-- fields: none an int, some d a reference to the cell d behind -/
def zoff : List (List (Option Nat)) := [[some 1, some 2, some 3, none, none, none, none], [some 1, some 2, some 3, none], [none, none, some 1], [some 1, none, none, none, none, none], [none, none, none, some 1], [some 1, some 17, some 33, some 49, some 53, some 55, some 56, some 57, none], [some 1, some 2, some 3, none, some 4, some 5, some 6, some 7, none, none, none, none, some 8, some 9, some 10, some 11]]
def zval (g : zG) (k : Nat) (r : Nat → Int32) (j : Nat) (o : Option Nat) : Value := match o with
  | none => .int (r j)
  | some d => .ref (zad g (k + d))
def zfs (g : zG) (c k : Nat) (r : Nat → Int32) : List Value := (zoff.getD c []).mapIdx (zval g k r)
def zcell (g : zG) (k : Nat) (r : Nat → Int32) : va_E :=
  if zkd k < 7 then .inr (zkd k, zfs g (zkd k) k r)
  else if zkd k = 7 then .inl (zcI g, zln k, .inl r)
  else if zkd k = 8 then .inl (zcS g, zln k, .inr (.inr (.inr (.inr (fun j => some (zad g (k + 3 + 2 * j)))))))
  else .inl (zcT g, zln k, .inr (.inr (.inr (.inr (fun j => some (zad g (k + 1 + 2 * j)))))))
def zwd (g : zG) (μ : zMem) : va_W := (List.range 78).map (fun k => (zad g k, zcell g k (μ k)))
theorem zwd_at {g : zG} {μ : zMem} {k : Nat} (h : k < 78) : (zwd g μ)[k]? = some (zad g k, zcell g k (μ k)) := by
  simp [zwd, h]
theorem zwd_get {g : zG} {μ : zMem} {i : Nat} {q : Nat × va_E} (h : (zwd g μ)[i]? = some q) : i < 78 ∧ q = (zad g i, zcell g i (μ i)) := by
  have hi : i < 78 := by
    have := (List.getElem?_eq_some_iff.mp h).1
    simpa [zwd] using this
  refine ⟨hi, ?_⟩
  rw [zwd_at hi] at h
  exact (Option.some.inj h).symm
theorem zcell_o {g : zG} {k c : Nat} (r : Nat → Int32) (h : zkd k = c) (hc : c < 7) : zcell g k r = .inr (c, zfs g c k r) := by
  unfold zcell; rw [h, if_pos hc]
theorem zcell_i {g : zG} {k : Nat} (r : Nat → Int32) (h : zkd k = 7) : zcell g k r = .inl (zcI g, zln k, .inl r) := by
  unfold zcell; rw [h]; rfl
theorem zcell_s {g : zG} {k : Nat} (r : Nat → Int32) (h : zkd k = 8) : zcell g k r = .inl (zcS g, zln k, .inr (.inr (.inr (.inr (fun j => some (zad g (k + 3 + 2 * j))))))) := by
  unfold zcell; rw [h]; rfl
theorem zcell_t {g : zG} {k : Nat} (r : Nat → Int32) (h : zkd k = 9) : zcell g k r = .inl (zcT g, zln k, .inr (.inr (.inr (.inr (fun j => some (zad g (k + 1 + 2 * j))))))) := by
  unfold zcell; rw [h]; rfl
theorem zfs_at {g : zG} {c k j : Nat} {r : Nat → Int32} {o : Option Nat} (h : (zoff.getD c [])[j]? = some o) : (zfs g c k r)[j]? = some (zval g k r j o) := by
  rw [zfs, List.getElem?_mapIdx, h]; rfl
theorem zfs_set {g : zG} {c k j : Nat} {r : Nat → Int32} {v : Int32} (h : (zoff.getD c [])[j]? = some none) : (zfs g c k r).set j (.int v) = zfs g c k (upd r j v) := by
  apply List.ext_getElem?
  intro i
  rw [List.getElem?_set]
  by_cases hij : j = i
  · subst hij
    rw [zfs_at (r := upd r j v) h]
    have hl : j < (zfs g c k r).length := by
      have := (List.getElem?_eq_some_iff.mp h).1
      simpa [zfs] using this
    simp [hl, zval, upd]
  · rw [if_neg hij]
    simp only [zfs, List.getElem?_mapIdx]
    cases (zoff.getD c [])[i]? with
    | none => rfl
    | some o =>
      cases o with
      | none => simp [zval, upd, Ne.symm hij]
      | some d => rfl
/-- one place of one cell gets a number -/
def zst (μ : zMem) (k j : Nat) (v : Int32) : zMem := fun a => if a = k then upd (μ k) j v else μ a
/-- one cell gets a row -/
def zrow (μ : zMem) (k : Nat) (r : Nat → Int32) : zMem := fun a => if a = k then r else μ a
theorem zwd_row {g : zG} {μ : zMem} {k : Nat} {r : Nat → Int32} {e : va_E} (h : k < 78) (he : zcell g k r = e) : (zwd g μ).set k (zad g k, e) = zwd g (zrow μ k r) := by
  apply List.ext_getElem?
  intro i
  rw [List.getElem?_set]
  by_cases hik : k = i
  · subst hik
    rw [zwd_at h, if_pos rfl]
    have : k < (zwd g μ).length := by simpa [zwd] using h
    rw [if_pos this, ← he]
    have h9 : zrow μ k r k = r := by unfold zrow; exact if_pos rfl
    rw [zwd_at h, h9]
  · rw [if_neg hik]
    by_cases hi : i < 78
    · rw [zwd_at hi, zwd_at hi]
      simp [zrow, Ne.symm hik]
    · have h1 : ∀ μ' : zMem, (zwd g μ')[i]? = none := fun μ' => List.getElem?_eq_none (by simp [zwd]; omega)
      rw [h1, h1]
theorem zst_row (μ : zMem) (k j : Nat) (v : Int32) : zst μ k j v = zrow μ k (upd (μ k) j v) := rfl
def ztys (g : zG) : List (ClassId × FieldType) := [(zcI g, .int), (zcT g, .object RX4), (zcS g, .object RX2)]
def zInj (g : zG) : Prop := ∀ i j, i < 78 → j < 78 → zad g i = zad g j → i = j
def zisN : Cond → Bool
  | .fieldLinkNest _ _ _ _ _ _ => true
  | .methodLinkNest _ _ _ _ => true
  | _ => false
def zNs (U : State) : Prop := ∀ w ∈ lw_tbl, zisN w = true → va_Nw w U
def zKw (g : zG) (U : State) : Prop := va_K (zD g) vwCl (ztys g) U ∧ zInj g ∧ zNs U
theorem zNs.warm {s U : State} (hW : s.WarmedH U.vm) (h : zNs s) : zNs U := by
  intro w hw hn
  have h1 := h w hw hn
  cases w <;> first | exact va_Nw.warmF hW h1 | exact va_Nw.warmM hW h1 | (exact absurd hn (by simp [zisN]))
theorem zNs.same {s U : State} (hv : s.vm = U.vm) (h : zNs s) : zNs U := by
  intro w hw hn
  have h1 := h w hw hn
  cases w <;> first | exact absurd hn Bool.false_ne_true | exact va_Nw.same rfl hv h1
theorem zKw.warm {g : zG} {s U : State} (hW : s.WarmedH U.vm) (h : zKw g s) : zKw g U := ⟨va_K.moved hW.alike h.1, h.2.1, h.2.2.warm hW⟩
theorem zKw.call {g : zG} {U : State} (f : JFrame) (mk : MethodId) (a : Array Value) (h : zKw g U) : zKw g (U.calling f mk a) := ⟨va_K.moved (u := U) (U := U.calling f mk a) (Vm.Alike.refl U.vm) h.1, h.2.1, zNs.same (s := U) rfl h.2.2⟩
/-- the literals, by their places: whose, which entry, the text, its bytes -/
def zsL : List (String × Nat × String × List Int32) := [("GroundTents$Tape", 62, "stiff", [115, 116, 105, 102, 102]), ("GroundTents$Tape", 64, "soft", [115, 111, 102, 116]), ("GroundTents$Tape", 66, "patched", [112, 97, 116, 99, 104, 101, 100]), ("GroundTents$Tape", 68, "chiefs", [99, 104, 105, 101, 102, 115]), ("GroundTents$Tape", 70, "old", [111, 108, 100]), ("GroundTents$Tape", 72, "laced", [108, 97, 99, 101, 100]), ("GroundTents$Tape", 74, "tent", [116, 101, 110, 116]), ("GroundTents$Tape", 99, "on", [111, 110]), ("GroundTents$Tape", 110, "worn", [119, 111, 114, 110]), ("GroundTents$Tape", 114, "felt", [102, 101, 108, 116]), ("GroundTents$Tape", 50, "height", [104, 101, 105, 103, 104, 116]), ("GroundTents$Tape", 55, "spring", [115, 112, 114, 105, 110, 103]), ("GroundTents$Tape", 60, "dry", [100, 114, 121]), ("GroundTentsModel", 282, "tent", [116, 101, 110, 116]), ("GroundTentsModel", 284, "stiff", [115, 116, 105, 102, 102]), ("GroundTentsModel", 286, "soft", [115, 111, 102, 116]), ("GroundTentsModel", 288, "patched", [112, 97, 116, 99, 104, 101, 100]), ("GroundTentsModel", 290, "chiefs", [99, 104, 105, 101, 102, 115]), ("GroundTentsModel", 292, "old", [111, 108, 100]), ("GroundTentsModel", 294, "laced", [108, 97, 99, 101, 100]), ("GroundTentsModel", 296, "on", [111, 110]), ("GroundTentsModel", 303, "worn", [119, 111, 114, 110]), ("GroundTentsModel", 305, "felt", [102, 101, 108, 116]), ("GroundTentsModel", 313, "height", [104, 101, 105, 103, 104, 116]), ("GroundTentsModel", 315, "spring", [115, 112, 114, 105, 110, 103]), ("GroundTentsModel", 320, "dry", [100, 114, 121]), ("GroundTentsModel", 325, ";", [59])]
def zso (i : Nat) : String := (zsL.getD i ("", 0, "", [])).1
def zsx (i : Nat) : Nat := (zsL.getD i ("", 0, "", [])).2.1
def zst_t (i : Nat) : String := (zsL.getD i ("", 0, "", [])).2.2.1
def zsb (i : Nat) : List Int32 := (zsL.getD i ("", 0, "", [])).2.2.2
def zSt (g : zG) (A : Nat → Prop) (U : State) (H : Heap) : Prop :=
  va_Z "java/lang/String" "COMPACT_STRINGS" "Z" (.int 1) A U H ∧ ∀ i : Nat, i < 27 → vk_R (zso i) (zsx i) (zst_t i) (zak g i) U ∧ va_O "java/lang/String" (zak g i) A U H ∧ va_OF "java/lang/String" "coder" "B" (.int 0) (zak g i) A U H ∧ va_OF "java/lang/String" "value" "[B" (.ref (zav g i)) (zak g i) A U H ∧ va_T .byte (zav g i) (zsb i).length (fun j => .int ((zsb i).getD j 0)) A U H
theorem zSt.kept {g : zG} {A : Nat → Prop} {U : State} {H H1 : Heap} (h : zSt g A U H) (hq : ∀ a : Nat, a < H.size → ¬ A a → H1[a]? = H[a]?) : zSt g A U H1 :=
  ⟨h.1.kept hq, fun i hi => ⟨(h.2 i hi).1, (h.2 i hi).2.1.kept hq, (h.2 i hi).2.2.1.kept hq, (h.2 i hi).2.2.2.1.kept hq, (h.2 i hi).2.2.2.2.kept hq⟩⟩
theorem zSt.warm {g : zG} {A : Nat → Prop} {s U : State} {H : Heap} (hW : s.WarmedH U.vm) (h : zSt g A s H) : zSt g A U H :=
  ⟨h.1.moved hW.alike, fun i hi => ⟨(h.2 i hi).1.warm hW, va_O.moved hW.alike (h.2 i hi).2.1, va_OF.moved hW.alike (h.2 i hi).2.2.1, va_OF.moved hW.alike (h.2 i hi).2.2.2.1, va_T.moved hW.alike (h.2 i hi).2.2.2.2⟩⟩
theorem zSt.narrow {g : zG} {A B : Nat → Prop} {U : State} {H : Heap} (h : zSt g A U H) (hAB : ∀ q, B q → A q) : zSt g B U H :=
  ⟨h.1.narrow hAB, fun i hi => ⟨(h.2 i hi).1, (h.2 i hi).2.1.narrow hAB, (h.2 i hi).2.2.1.narrow hAB, (h.2 i hi).2.2.2.1.narrow hAB, (h.2 i hi).2.2.2.2.narrow hAB⟩⟩
theorem zSt.call {g : zG} {A : Nat → Prop} {U : State} (f : JFrame) (mk : MethodId) (a : Array Value) (h : zSt g A U U.heap) : zSt g A (U.calling f mk a) (U.calling f mk a).heap :=
  have hv : U.vm.Alike (U.calling f mk a).vm := Vm.Alike.refl U.vm
  ⟨h.1.moved hv, fun i hi => ⟨vk_R.same (u := U) rfl (h.2 i hi).1, va_O.moved hv (h.2 i hi).2.1, va_OF.moved hv (h.2 i hi).2.2.1, va_OF.moved hv (h.2 i hi).2.2.2.1, va_T.moved hv (h.2 i hi).2.2.2.2⟩⟩
def zA (g : zG) : Nat → Prop := fun q => ∃ k, k < 78 ∧ q = zad g k
def zWd (g : zG) (μ : zMem) (U : State) : Prop := va_P (zD g) vwCl (zwd g μ) U.heap ∧ zKw g U ∧ zSt g (zA g) U U.heap
theorem zWd_blind (g : zG) (μ : zMem) (As : List Value) : FrameBlind (va_Pc As (zWd g μ)) := fun a _ f mk q => ⟨q.1, q.2.1, q.2.2.1.call f mk a, q.2.2.2.call f mk a⟩
/-- the words that every method has -/
def zgw : List Cond := lw_tbl.filter goodWord
theorem zgw_good {w : Cond} (h : w ∈ zgw) : (w.onTables && w.keeps) = true ∨ ∃ ty, w = .arrayClass ty := good_of_word (List.mem_filter.mp h).2
theorem zgw_of {i : Nat} {w : Cond} (h : tables_1[i]? = some w) (hg : goodWord w = true) : w ∈ zgw := List.mem_filter.mpr ⟨List.mem_append_right _ (List.mem_of_getElem? h), hg⟩
theorem zgw_sel {i : Nat} {w : Cond} (h : (k2_sels lw_privs)[i]? = some w) (hg : goodWord w = true) : w ∈ zgw := List.mem_filter.mpr ⟨List.mem_append_left _ (List.mem_of_getElem? h), hg⟩
theorem zgw_in {y : MethodName} {cc : ByteArray} {n : Nat} {r : Option FieldType} (h : Cond.code y cc n r ∈ zgw) : GoodIn zgw (.code y cc n r :: zgw) := by
  intro w hw
  rcases List.mem_cons.mp hw with rfl | hw
  · exact ⟨h, zgw_good h⟩
  · exact ⟨hw, zgw_good hw⟩
abbrev zK : Type := (Program × Launch × Env × Room × State × MethodId) × (Array Value × List Frame × Method × Code) × (Nat × Nat × (State → Prop)) × (Nat → Prop)
def zV (g : zG) (κ : zK) (pc : Nat) (lv : List (Nat × Value)) (st : List Value) (μ : zMem) : Prop := match κ with
  | ((p, l, e, R, s, m), (args, below, meth, c), (cells, slots, Q), A) => ∀ (H : Heap) (locs : List Loc) (ls : Array Slot), va_P (zD g) vwCl (zwd g μ) H → va_S A s.heap H locs → lv_has ls c.maxLocals lv → W p l e R s m args below meth c H locs cells slots Q (F0 m pc ls st)
/-- what stands all through a method -/
def zC (g : zG) (κ : zK) (own : String) (cc : ByteArray) (nL d : Nat) : Prop := match κ with
  | ((p, _, _, R, s, m), (args, _, _, c), (cells, slots, _), A) => p.tables.exec = Jvm.exec ∧ c.code = cc ∧ c.maxLocals = nL ∧ s.vm.findClass own = some m.cls ∧ (∀ w ∈ zgw, w.before args s = true) ∧ zKw g s ∧ zSt g A s s.heap ∧ (∀ k, k < 78 → A (zad g k)) ∧ (d ≤ R.frames ∧ 40 * d ≤ R.locals) ∧ (cells ≤ R.cells ∧ slots ≤ R.slots)
theorem zD_of {g : zG} {A : Nat → Prop} {μ : zMem} (hI : zInj g) (hA : ∀ k, k < 78 → A (zad g k)) : va_D A (zwd g μ) := by
  refine ⟨fun i j p q hi hj hpq => ?_, fun k q hk => ?_⟩
  · obtain ⟨h1, rfl⟩ := zwd_get hi
    obtain ⟨h2, rfl⟩ := zwd_get hj
    exact hI i j h1 h2 hpq
  · obtain ⟨h1, rfl⟩ := zwd_get hk
    exact hA k h1
/-! contracts -/
abbrev zrm (d : Nat) : Room := { frames := d, cells := 0, slots := 0, locals := 40 * d }
def zTi (g : zG) (y : MethodName) (cc : ByteArray) (nL : Nat) (ty : FieldType) (d : Nat) (As : List Value) (μ : zMem) (Q : Int32 → zMem → Prop) : Prop :=
  ∀ l : Launch, Met l y (.code y cc nL (some ty) :: zgw) (zrm d) (va_Pc As (zWd g μ)) (va_Qi Q (zWd g) (zA g)) 0 0 (zA g)
def zTl (g : zG) (y : MethodName) (cc : ByteArray) (nL : Nat) (d : Nat) (As : List Value) (μ : zMem) (Q : Int64 → zMem → Prop) : Prop :=
  ∀ l : Launch, Met l y (.code y cc nL (some .long) :: zgw) (zrm d) (va_Pc As (zWd g μ)) (va_Ql Q (zWd g) (zA g)) 0 0 (zA g)
def zTv (g : zG) (y : MethodName) (cc : ByteArray) (nL : Nat) (d : Nat) (As : List Value) (μ : zMem) (Q : Unit → zMem → Prop) : Prop :=
  ∀ l : Launch, Met l y (.code y cc nL none :: zgw) (zrm d) (va_Pc As (zWd g μ)) (va_Qv (Q ()) (zWd g) (zA g)) 0 0 (zA g)
def zTs (g : zG) (y : MethodName) (cc : ByteArray) (nL : Nat) (ty : FieldType) (d : Nat) (As : List Value) (μ : zMem) (Q : Nat → zMem → Prop) : Prop :=
  ∀ l : Launch, Met l y (.code y cc nL (some ty) :: zgw) (zrm d) (va_Pc As (zWd g μ)) (va_Qr (S := Nat × zMem) (fun u => Q u.1 u.2) (fun u a t => a = zak g u.1 ∧ zWd g u.2 t) (zA g)) 0 0 (zA g)
theorem zWd_ret {g : zG} {μ : zMem} {s t : State} {H : Heap} {locs : List Loc} (hK : zKw g s) (hT : zSt g (zA g) s s.heap) (hP : va_P (zD g) vwCl (zwd g μ) H) (hS : va_S (zA g) s.heap H locs) (ht : t.heap = H) (hW : s.WarmedH t.vm) : zWd g μ t :=
  ⟨by rw [ht]; exact hP, hK.warm hW, by rw [ht]; exact (hT.warm hW).kept hS.2.1⟩
end
section
theorem zi_iconst {g : zG} {κ : zK} {own : String} {cc : ByteArray} {nL d : Nat} (X : zC g κ own cc nL d) {pc pc' : Nat} {lv : List (Nat × Value)} {st : List Value} {μ : zMem} {n : Int} {v : Int32} (hd : decode cc pc = .ok (.iconst n, 1)) (hp : pc + 1 = pc') (hv : Int32.ofInt n = v) (k : zV g κ pc' lv (.int v :: st) μ) : zV g κ pc lv st μ := by
  obtain ⟨⟨p, l, e, R, s, m⟩, ⟨args, below, meth, cx⟩, ⟨cells, slots, Q⟩, A⟩ := κ
  obtain ⟨hx, hb, hml, hown, hts, hKw, hSt, hA, hR, hC⟩ := X
  subst hp
  intro H locs ls hP hS hl
  exact lv_iconst hx hb hd hv (k H locs ls hP hS hl)
theorem zi_bipush {g : zG} {κ : zK} {own : String} {cc : ByteArray} {nL d : Nat} (X : zC g κ own cc nL d) {pc pc' : Nat} {lv : List (Nat × Value)} {st : List Value} {μ : zMem} {n : Int} {v : Int32} (hd : decode cc pc = .ok (.bipush n, 2)) (hp : pc + 2 = pc') (hv : (Int8.ofInt n).toInt32 = v) (k : zV g κ pc' lv (.int v :: st) μ) : zV g κ pc lv st μ := by
  obtain ⟨⟨p, l, e, R, s, m⟩, ⟨args, below, meth, cx⟩, ⟨cells, slots, Q⟩, A⟩ := κ
  obtain ⟨hx, hb, hml, hown, hts, hKw, hSt, hA, hR, hC⟩ := X
  subst hp
  intro H locs ls hP hS hl
  exact lv_bipush hx hb hd hv (k H locs ls hP hS hl)
theorem zi_sipush {g : zG} {κ : zK} {own : String} {cc : ByteArray} {nL d : Nat} (X : zC g κ own cc nL d) {pc pc' : Nat} {lv : List (Nat × Value)} {st : List Value} {μ : zMem} {n : Int} {v : Int32} (hd : decode cc pc = .ok (.sipush n, 3)) (hp : pc + 3 = pc') (hv : (Int16.ofInt n).toInt32 = v) (k : zV g κ pc' lv (.int v :: st) μ) : zV g κ pc lv st μ := by
  obtain ⟨⟨p, l, e, R, s, m⟩, ⟨args, below, meth, cx⟩, ⟨cells, slots, Q⟩, A⟩ := κ
  obtain ⟨hx, hb, hml, hown, hts, hKw, hSt, hA, hR, hC⟩ := X
  subst hp
  intro H locs ls hP hS hl
  exact lv_sipush hx hb hd hv (k H locs ls hP hS hl)
theorem zi_lconst {g : zG} {κ : zK} {own : String} {cc : ByteArray} {nL d : Nat} (X : zC g κ own cc nL d) {pc pc' : Nat} {lv : List (Nat × Value)} {st : List Value} {μ : zMem} {n : Fin 2} {v : Int64} (hd : decode cc pc = .ok (.lconst n, 1)) (hp : pc + 1 = pc') (hv : Int64.ofNat (n : Nat) = v) (k : zV g κ pc' lv (.long v :: st) μ) : zV g κ pc lv st μ := by
  obtain ⟨⟨p, l, e, R, s, m⟩, ⟨args, below, meth, cx⟩, ⟨cells, slots, Q⟩, A⟩ := κ
  obtain ⟨hx, hb, hml, hown, hts, hKw, hSt, hA, hR, hC⟩ := X
  subst hp
  intro H locs ls hP hS hl
  exact lv_lconst hx hb hd hv (k H locs ls hP hS hl)
theorem zi_ldc {g : zG} {κ : zK} {own : String} {cc : ByteArray} {nL d : Nat} (X : zC g κ own cc nL d) {pc pc' : Nat} {lv : List (Nat × Value)} {st : List Value} {μ : zMem} {idx : Nat} {v : Int32} (hd : decode cc pc = .ok (.ldc idx, 2)) (hp : pc + 2 = pc') (hc : Cond.constant own idx v ∈ zgw) (k : zV g κ pc' lv (.int v :: st) μ) : zV g κ pc lv st μ := by
  obtain ⟨⟨p, l, e, R, s, m⟩, ⟨args, below, meth, cx⟩, ⟨cells, slots, Q⟩, A⟩ := κ
  obtain ⟨hx, hb, hml, hown, hts, hKw, hSt, hA, hR, hC⟩ := X
  subst hp
  intro H locs ls hP hS hl
  exact lv_ldc hx hb hown (hts _ hc) hd (k H locs ls hP hS hl)
theorem zi_ldcw {g : zG} {κ : zK} {own : String} {cc : ByteArray} {nL d : Nat} (X : zC g κ own cc nL d) {pc pc' : Nat} {lv : List (Nat × Value)} {st : List Value} {μ : zMem} {idx : Nat} {v : Int32} (hd : decode cc pc = .ok (.ldc_w idx, 3)) (hp : pc + 3 = pc') (hc : Cond.constant own idx v ∈ zgw) (k : zV g κ pc' lv (.int v :: st) μ) : zV g κ pc lv st μ := by
  obtain ⟨⟨p, l, e, R, s, m⟩, ⟨args, below, meth, cx⟩, ⟨cells, slots, Q⟩, A⟩ := κ
  obtain ⟨hx, hb, hml, hown, hts, hKw, hSt, hA, hR, hC⟩ := X
  subst hp
  intro H locs ls hP hS hl
  exact lv_ldcw hx hb hown (hts _ hc) hd (k H locs ls hP hS hl)
theorem zi_ldc2 {g : zG} {κ : zK} {own : String} {cc : ByteArray} {nL d : Nat} (X : zC g κ own cc nL d) {pc pc' : Nat} {lv : List (Nat × Value)} {st : List Value} {μ : zMem} {idx : Nat} {v : Int64} (hd : decode cc pc = .ok (.ldc2_w idx, 3)) (hp : pc + 3 = pc') (hc : Cond.constantLong own idx v ∈ zgw) (k : zV g κ pc' lv (.long v :: st) μ) : zV g κ pc lv st μ := by
  obtain ⟨⟨p, l, e, R, s, m⟩, ⟨args, below, meth, cx⟩, ⟨cells, slots, Q⟩, A⟩ := κ
  obtain ⟨hx, hb, hml, hown, hts, hKw, hSt, hA, hR, hC⟩ := X
  subst hp
  intro H locs ls hP hS hl
  exact lv_ldc2 hx hb hown (hts _ hc) hd (k H locs ls hP hS hl)
theorem zi_iload_n {g : zG} {κ : zK} {own : String} {cc : ByteArray} {nL d : Nat} (X : zC g κ own cc nL d) {pc pc' : Nat} {lv : List (Nat × Value)} {st : List Value} {μ : zMem} {n : Fin 4} {i : Nat} {x : Int32} (hd : decode cc pc = .ok (.iload_n n, 1)) (hp : pc + 1 = pc') (hi : (n : Nat) = i) (j : Nat) (hj : lv[j]? = some (i, .int x)) (k : zV g κ pc' lv (.int x :: st) μ) : zV g κ pc lv st μ := by
  obtain ⟨⟨p, l, e, R, s, m⟩, ⟨args, below, meth, cx⟩, ⟨cells, slots, Q⟩, A⟩ := κ
  obtain ⟨hx, hb, hml, hown, hts, hKw, hSt, hA, hR, hC⟩ := X
  subst hp
  intro H locs ls hP hS hl
  exact lv_iload_n hx hb hd hi (lv_at hl j hj) (k H locs ls hP hS hl)
theorem zi_iload {g : zG} {κ : zK} {own : String} {cc : ByteArray} {nL d : Nat} (X : zC g κ own cc nL d) {pc pc' : Nat} {lv : List (Nat × Value)} {st : List Value} {μ : zMem} {i : Nat} {x : Int32} (hd : decode cc pc = .ok (.iload i, 2)) (hp : pc + 2 = pc') (j : Nat) (hj : lv[j]? = some (i, .int x)) (k : zV g κ pc' lv (.int x :: st) μ) : zV g κ pc lv st μ := by
  obtain ⟨⟨p, l, e, R, s, m⟩, ⟨args, below, meth, cx⟩, ⟨cells, slots, Q⟩, A⟩ := κ
  obtain ⟨hx, hb, hml, hown, hts, hKw, hSt, hA, hR, hC⟩ := X
  subst hp
  intro H locs ls hP hS hl
  exact lv_iload hx hb hd (lv_at hl j hj) (k H locs ls hP hS hl)
theorem zi_lload_n {g : zG} {κ : zK} {own : String} {cc : ByteArray} {nL d : Nat} (X : zC g κ own cc nL d) {pc pc' : Nat} {lv : List (Nat × Value)} {st : List Value} {μ : zMem} {n : Fin 4} {i : Nat} {x : Int64} (hd : decode cc pc = .ok (.lload_n n, 1)) (hp : pc + 1 = pc') (hi : (n : Nat) = i) (j : Nat) (hj : lv[j]? = some (i, .long x)) (k : zV g κ pc' lv (.long x :: st) μ) : zV g κ pc lv st μ := by
  obtain ⟨⟨p, l, e, R, s, m⟩, ⟨args, below, meth, cx⟩, ⟨cells, slots, Q⟩, A⟩ := κ
  obtain ⟨hx, hb, hml, hown, hts, hKw, hSt, hA, hR, hC⟩ := X
  subst hp
  intro H locs ls hP hS hl
  exact lv_lload_n hx hb hd hi (lv_at hl j hj) (k H locs ls hP hS hl)
theorem zi_lload {g : zG} {κ : zK} {own : String} {cc : ByteArray} {nL d : Nat} (X : zC g κ own cc nL d) {pc pc' : Nat} {lv : List (Nat × Value)} {st : List Value} {μ : zMem} {i : Nat} {x : Int64} (hd : decode cc pc = .ok (.lload i, 2)) (hp : pc + 2 = pc') (j : Nat) (hj : lv[j]? = some (i, .long x)) (k : zV g κ pc' lv (.long x :: st) μ) : zV g κ pc lv st μ := by
  obtain ⟨⟨p, l, e, R, s, m⟩, ⟨args, below, meth, cx⟩, ⟨cells, slots, Q⟩, A⟩ := κ
  obtain ⟨hx, hb, hml, hown, hts, hKw, hSt, hA, hR, hC⟩ := X
  subst hp
  intro H locs ls hP hS hl
  exact lv_lload hx hb hd (lv_at hl j hj) (k H locs ls hP hS hl)
theorem zi_aload_n {g : zG} {κ : zK} {own : String} {cc : ByteArray} {nL d : Nat} (X : zC g κ own cc nL d) {pc pc' : Nat} {lv : List (Nat × Value)} {st : List Value} {μ : zMem} {n : Fin 4} {i : Nat} {x : Nat} (hd : decode cc pc = .ok (.aload_n n, 1)) (hp : pc + 1 = pc') (hi : (n : Nat) = i) (j : Nat) (hj : lv[j]? = some (i, .ref x)) (k : zV g κ pc' lv (.ref x :: st) μ) : zV g κ pc lv st μ := by
  obtain ⟨⟨p, l, e, R, s, m⟩, ⟨args, below, meth, cx⟩, ⟨cells, slots, Q⟩, A⟩ := κ
  obtain ⟨hx, hb, hml, hown, hts, hKw, hSt, hA, hR, hC⟩ := X
  subst hp
  intro H locs ls hP hS hl
  exact lv_aload_n hx hb hd hi (lv_at hl j hj) (k H locs ls hP hS hl)
theorem zi_aload {g : zG} {κ : zK} {own : String} {cc : ByteArray} {nL d : Nat} (X : zC g κ own cc nL d) {pc pc' : Nat} {lv : List (Nat × Value)} {st : List Value} {μ : zMem} {i : Nat} {x : Nat} (hd : decode cc pc = .ok (.aload i, 2)) (hp : pc + 2 = pc') (j : Nat) (hj : lv[j]? = some (i, .ref x)) (k : zV g κ pc' lv (.ref x :: st) μ) : zV g κ pc lv st μ := by
  obtain ⟨⟨p, l, e, R, s, m⟩, ⟨args, below, meth, cx⟩, ⟨cells, slots, Q⟩, A⟩ := κ
  obtain ⟨hx, hb, hml, hown, hts, hKw, hSt, hA, hR, hC⟩ := X
  subst hp
  intro H locs ls hP hS hl
  exact lv_aload hx hb hd (lv_at hl j hj) (k H locs ls hP hS hl)
theorem zi_istore_n {g : zG} {κ : zK} {own : String} {cc : ByteArray} {nL d : Nat} (X : zC g κ own cc nL d) {pc pc' : Nat} {lv : List (Nat × Value)} {st : List Value} {μ : zMem} {n : Fin 4} {i : Nat} {x : Int32} (hd : decode cc pc = .ok (.istore_n n, 1)) (hp : pc + 1 = pc') (hi : (n : Nat) = i) (hn : i < nL) (lv' : List (Nat × Value)) (hl' : (i, Value.int x) :: lv.filter (fun q => !(q.1 == i) && !(q.1 + 1 == i && q.2.category == 2)) = lv') (k : zV g κ pc' lv' st μ) : zV g κ pc lv (.int x :: st) μ := by
  obtain ⟨⟨p, l, e, R, s, m⟩, ⟨args, below, meth, cx⟩, ⟨cells, slots, Q⟩, A⟩ := κ
  obtain ⟨hx, hb, hml, hown, hts, hKw, hSt, hA, hR, hC⟩ := X
  subst hp
  intro H locs ls hP hS hl
  exact lv_istore_n hx hb hd hi hl (by rw [hml]; exact hn) hl' (fun ls hl => k H locs ls hP hS hl)
theorem zi_istore {g : zG} {κ : zK} {own : String} {cc : ByteArray} {nL d : Nat} (X : zC g κ own cc nL d) {pc pc' : Nat} {lv : List (Nat × Value)} {st : List Value} {μ : zMem} {i : Nat} {x : Int32} (hd : decode cc pc = .ok (.istore i, 2)) (hp : pc + 2 = pc') (hn : i < nL) (lv' : List (Nat × Value)) (hl' : (i, Value.int x) :: lv.filter (fun q => !(q.1 == i) && !(q.1 + 1 == i && q.2.category == 2)) = lv') (k : zV g κ pc' lv' st μ) : zV g κ pc lv (.int x :: st) μ := by
  obtain ⟨⟨p, l, e, R, s, m⟩, ⟨args, below, meth, cx⟩, ⟨cells, slots, Q⟩, A⟩ := κ
  obtain ⟨hx, hb, hml, hown, hts, hKw, hSt, hA, hR, hC⟩ := X
  subst hp
  intro H locs ls hP hS hl
  exact lv_istore hx hb hd hl (by rw [hml]; exact hn) hl' (fun ls hl => k H locs ls hP hS hl)
theorem zi_lstore_n {g : zG} {κ : zK} {own : String} {cc : ByteArray} {nL d : Nat} (X : zC g κ own cc nL d) {pc pc' : Nat} {lv : List (Nat × Value)} {st : List Value} {μ : zMem} {n : Fin 4} {i : Nat} {x : Int64} (hd : decode cc pc = .ok (.lstore_n n, 1)) (hp : pc + 1 = pc') (hi : (n : Nat) = i) (hn : i + 1 < nL) (lv' : List (Nat × Value)) (hl' : (i, Value.long x) :: lv.filter (fun q => !(q.1 == i) && (!(q.1 == i + 1) && !(q.1 + 1 == i && q.2.category == 2))) = lv') (k : zV g κ pc' lv' st μ) : zV g κ pc lv (.long x :: st) μ := by
  obtain ⟨⟨p, l, e, R, s, m⟩, ⟨args, below, meth, cx⟩, ⟨cells, slots, Q⟩, A⟩ := κ
  obtain ⟨hx, hb, hml, hown, hts, hKw, hSt, hA, hR, hC⟩ := X
  subst hp
  intro H locs ls hP hS hl
  exact lv_lstore_n hx hb hd hi hl (by rw [hml]; exact hn) hl' (fun ls hl => k H locs ls hP hS hl)
theorem zi_lstore {g : zG} {κ : zK} {own : String} {cc : ByteArray} {nL d : Nat} (X : zC g κ own cc nL d) {pc pc' : Nat} {lv : List (Nat × Value)} {st : List Value} {μ : zMem} {i : Nat} {x : Int64} (hd : decode cc pc = .ok (.lstore i, 2)) (hp : pc + 2 = pc') (hn : i + 1 < nL) (lv' : List (Nat × Value)) (hl' : (i, Value.long x) :: lv.filter (fun q => !(q.1 == i) && (!(q.1 == i + 1) && !(q.1 + 1 == i && q.2.category == 2))) = lv') (k : zV g κ pc' lv' st μ) : zV g κ pc lv (.long x :: st) μ := by
  obtain ⟨⟨p, l, e, R, s, m⟩, ⟨args, below, meth, cx⟩, ⟨cells, slots, Q⟩, A⟩ := κ
  obtain ⟨hx, hb, hml, hown, hts, hKw, hSt, hA, hR, hC⟩ := X
  subst hp
  intro H locs ls hP hS hl
  exact lv_lstore hx hb hd hl (by rw [hml]; exact hn) hl' (fun ls hl => k H locs ls hP hS hl)
theorem zi_astore_n {g : zG} {κ : zK} {own : String} {cc : ByteArray} {nL d : Nat} (X : zC g κ own cc nL d) {pc pc' : Nat} {lv : List (Nat × Value)} {st : List Value} {μ : zMem} {n : Fin 4} {i : Nat} {x : Nat} (hd : decode cc pc = .ok (.astore_n n, 1)) (hp : pc + 1 = pc') (hi : (n : Nat) = i) (hn : i < nL) (lv' : List (Nat × Value)) (hl' : (i, Value.ref x) :: lv.filter (fun q => !(q.1 == i) && !(q.1 + 1 == i && q.2.category == 2)) = lv') (k : zV g κ pc' lv' st μ) : zV g κ pc lv (.ref x :: st) μ := by
  obtain ⟨⟨p, l, e, R, s, m⟩, ⟨args, below, meth, cx⟩, ⟨cells, slots, Q⟩, A⟩ := κ
  obtain ⟨hx, hb, hml, hown, hts, hKw, hSt, hA, hR, hC⟩ := X
  subst hp
  intro H locs ls hP hS hl
  exact lv_astore_n hx hb hd hi hl (by rw [hml]; exact hn) hl' (fun ls hl => k H locs ls hP hS hl)
theorem zi_astore {g : zG} {κ : zK} {own : String} {cc : ByteArray} {nL d : Nat} (X : zC g κ own cc nL d) {pc pc' : Nat} {lv : List (Nat × Value)} {st : List Value} {μ : zMem} {i : Nat} {x : Nat} (hd : decode cc pc = .ok (.astore i, 2)) (hp : pc + 2 = pc') (hn : i < nL) (lv' : List (Nat × Value)) (hl' : (i, Value.ref x) :: lv.filter (fun q => !(q.1 == i) && !(q.1 + 1 == i && q.2.category == 2)) = lv') (k : zV g κ pc' lv' st μ) : zV g κ pc lv (.ref x :: st) μ := by
  obtain ⟨⟨p, l, e, R, s, m⟩, ⟨args, below, meth, cx⟩, ⟨cells, slots, Q⟩, A⟩ := κ
  obtain ⟨hx, hb, hml, hown, hts, hKw, hSt, hA, hR, hC⟩ := X
  subst hp
  intro H locs ls hP hS hl
  exact lv_astore hx hb hd hl (by rw [hml]; exact hn) hl' (fun ls hl => k H locs ls hP hS hl)
theorem zi_iinc {g : zG} {κ : zK} {own : String} {cc : ByteArray} {nL d : Nat} (X : zC g κ own cc nL d) {pc pc' : Nat} {lv : List (Nat × Value)} {st : List Value} {μ : zMem} {i : Nat} {n : Int} {x v : Int32} (hd : decode cc pc = .ok (.iinc i n, 3)) (hp : pc + 3 = pc') (j : Nat) (hj : lv[j]? = some (i, .int x)) (hv : x + Int32.ofInt n = v) (hn : i < nL) (lv' : List (Nat × Value)) (hl' : (i, Value.int v) :: lv.filter (fun q => !(q.1 == i) && !(q.1 + 1 == i && q.2.category == 2)) = lv') (k : zV g κ pc' lv' st μ) : zV g κ pc lv st μ := by
  obtain ⟨⟨p, l, e, R, s, m⟩, ⟨args, below, meth, cx⟩, ⟨cells, slots, Q⟩, A⟩ := κ
  obtain ⟨hx, hb, hml, hown, hts, hKw, hSt, hA, hR, hC⟩ := X
  subst hp
  intro H locs ls hP hS hl
  exact lv_iinc hx hb hd hl hj hv (by rw [hml]; exact hn) hl' (fun ls hl => k H locs ls hP hS hl)
theorem zi_iadd {g : zG} {κ : zK} {own : String} {cc : ByteArray} {nL d : Nat} (X : zC g κ own cc nL d) {pc pc' : Nat} {lv : List (Nat × Value)} {st : List Value} {μ : zMem} {x y : Int32} (hd : decode cc pc = .ok (.iadd, 1)) (hp : pc + 1 = pc')  (k : zV g κ pc' lv (.int (x + y) :: st) μ) : zV g κ pc lv (.int y :: .int x :: st) μ := by
  obtain ⟨⟨p, l, e, R, s, m⟩, ⟨args, below, meth, cx⟩, ⟨cells, slots, Q⟩, A⟩ := κ
  obtain ⟨hx, hb, hml, hown, hts, hKw, hSt, hA, hR, hC⟩ := X
  subst hp
  intro H locs ls hP hS hl
  exact lv_iadd hx hb hd (k H locs ls hP hS hl)
theorem zi_isub {g : zG} {κ : zK} {own : String} {cc : ByteArray} {nL d : Nat} (X : zC g κ own cc nL d) {pc pc' : Nat} {lv : List (Nat × Value)} {st : List Value} {μ : zMem} {x y : Int32} (hd : decode cc pc = .ok (.isub, 1)) (hp : pc + 1 = pc')  (k : zV g κ pc' lv (.int (x - y) :: st) μ) : zV g κ pc lv (.int y :: .int x :: st) μ := by
  obtain ⟨⟨p, l, e, R, s, m⟩, ⟨args, below, meth, cx⟩, ⟨cells, slots, Q⟩, A⟩ := κ
  obtain ⟨hx, hb, hml, hown, hts, hKw, hSt, hA, hR, hC⟩ := X
  subst hp
  intro H locs ls hP hS hl
  exact lv_isub hx hb hd (k H locs ls hP hS hl)
theorem zi_imul {g : zG} {κ : zK} {own : String} {cc : ByteArray} {nL d : Nat} (X : zC g κ own cc nL d) {pc pc' : Nat} {lv : List (Nat × Value)} {st : List Value} {μ : zMem} {x y : Int32} (hd : decode cc pc = .ok (.imul, 1)) (hp : pc + 1 = pc')  (k : zV g κ pc' lv (.int (x * y) :: st) μ) : zV g κ pc lv (.int y :: .int x :: st) μ := by
  obtain ⟨⟨p, l, e, R, s, m⟩, ⟨args, below, meth, cx⟩, ⟨cells, slots, Q⟩, A⟩ := κ
  obtain ⟨hx, hb, hml, hown, hts, hKw, hSt, hA, hR, hC⟩ := X
  subst hp
  intro H locs ls hP hS hl
  exact lv_imul hx hb hd (k H locs ls hP hS hl)
theorem zi_iand {g : zG} {κ : zK} {own : String} {cc : ByteArray} {nL d : Nat} (X : zC g κ own cc nL d) {pc pc' : Nat} {lv : List (Nat × Value)} {st : List Value} {μ : zMem} {x y : Int32} (hd : decode cc pc = .ok (.iand, 1)) (hp : pc + 1 = pc')  (k : zV g κ pc' lv (.int (x &&& y) :: st) μ) : zV g κ pc lv (.int y :: .int x :: st) μ := by
  obtain ⟨⟨p, l, e, R, s, m⟩, ⟨args, below, meth, cx⟩, ⟨cells, slots, Q⟩, A⟩ := κ
  obtain ⟨hx, hb, hml, hown, hts, hKw, hSt, hA, hR, hC⟩ := X
  subst hp
  intro H locs ls hP hS hl
  exact lv_iand hx hb hd (k H locs ls hP hS hl)
theorem zi_ior {g : zG} {κ : zK} {own : String} {cc : ByteArray} {nL d : Nat} (X : zC g κ own cc nL d) {pc pc' : Nat} {lv : List (Nat × Value)} {st : List Value} {μ : zMem} {x y : Int32} (hd : decode cc pc = .ok (.ior, 1)) (hp : pc + 1 = pc')  (k : zV g κ pc' lv (.int (x ||| y) :: st) μ) : zV g κ pc lv (.int y :: .int x :: st) μ := by
  obtain ⟨⟨p, l, e, R, s, m⟩, ⟨args, below, meth, cx⟩, ⟨cells, slots, Q⟩, A⟩ := κ
  obtain ⟨hx, hb, hml, hown, hts, hKw, hSt, hA, hR, hC⟩ := X
  subst hp
  intro H locs ls hP hS hl
  exact lv_ior hx hb hd (k H locs ls hP hS hl)
theorem zi_ixor {g : zG} {κ : zK} {own : String} {cc : ByteArray} {nL d : Nat} (X : zC g κ own cc nL d) {pc pc' : Nat} {lv : List (Nat × Value)} {st : List Value} {μ : zMem} {x y : Int32} (hd : decode cc pc = .ok (.ixor, 1)) (hp : pc + 1 = pc')  (k : zV g κ pc' lv (.int (x ^^^ y) :: st) μ) : zV g κ pc lv (.int y :: .int x :: st) μ := by
  obtain ⟨⟨p, l, e, R, s, m⟩, ⟨args, below, meth, cx⟩, ⟨cells, slots, Q⟩, A⟩ := κ
  obtain ⟨hx, hb, hml, hown, hts, hKw, hSt, hA, hR, hC⟩ := X
  subst hp
  intro H locs ls hP hS hl
  exact lv_ixor hx hb hd (k H locs ls hP hS hl)
theorem zi_ishl {g : zG} {κ : zK} {own : String} {cc : ByteArray} {nL d : Nat} (X : zC g κ own cc nL d) {pc pc' : Nat} {lv : List (Nat × Value)} {st : List Value} {μ : zMem} {x y : Int32} (hd : decode cc pc = .ok (.ishl, 1)) (hp : pc + 1 = pc')  (k : zV g κ pc' lv (.int (x <<< (y &&& 31)) :: st) μ) : zV g κ pc lv (.int y :: .int x :: st) μ := by
  obtain ⟨⟨p, l, e, R, s, m⟩, ⟨args, below, meth, cx⟩, ⟨cells, slots, Q⟩, A⟩ := κ
  obtain ⟨hx, hb, hml, hown, hts, hKw, hSt, hA, hR, hC⟩ := X
  subst hp
  intro H locs ls hP hS hl
  exact lv_ishl hx hb hd (k H locs ls hP hS hl)
theorem zi_ishr {g : zG} {κ : zK} {own : String} {cc : ByteArray} {nL d : Nat} (X : zC g κ own cc nL d) {pc pc' : Nat} {lv : List (Nat × Value)} {st : List Value} {μ : zMem} {x y : Int32} (hd : decode cc pc = .ok (.ishr, 1)) (hp : pc + 1 = pc')  (k : zV g κ pc' lv (.int (x >>> (y &&& 31)) :: st) μ) : zV g κ pc lv (.int y :: .int x :: st) μ := by
  obtain ⟨⟨p, l, e, R, s, m⟩, ⟨args, below, meth, cx⟩, ⟨cells, slots, Q⟩, A⟩ := κ
  obtain ⟨hx, hb, hml, hown, hts, hKw, hSt, hA, hR, hC⟩ := X
  subst hp
  intro H locs ls hP hS hl
  exact lv_ishr hx hb hd (k H locs ls hP hS hl)
theorem zi_iushr {g : zG} {κ : zK} {own : String} {cc : ByteArray} {nL d : Nat} (X : zC g κ own cc nL d) {pc pc' : Nat} {lv : List (Nat × Value)} {st : List Value} {μ : zMem} {x y : Int32} (hd : decode cc pc = .ok (.iushr, 1)) (hp : pc + 1 = pc')  (k : zV g κ pc' lv (.int ((x.toUInt32 >>> (y.toUInt32 &&& Int32.toUInt32 31)).toInt32) :: st) μ) : zV g κ pc lv (.int y :: .int x :: st) μ := by
  obtain ⟨⟨p, l, e, R, s, m⟩, ⟨args, below, meth, cx⟩, ⟨cells, slots, Q⟩, A⟩ := κ
  obtain ⟨hx, hb, hml, hown, hts, hKw, hSt, hA, hR, hC⟩ := X
  subst hp
  intro H locs ls hP hS hl
  exact lv_iushr hx hb hd rfl (k H locs ls hP hS hl)
theorem zi_idiv {g : zG} {κ : zK} {own : String} {cc : ByteArray} {nL d : Nat} (X : zC g κ own cc nL d) {pc pc' : Nat} {lv : List (Nat × Value)} {st : List Value} {μ : zMem} {x y : Int32} (hd : decode cc pc = .ok (.idiv, 1)) (hp : pc + 1 = pc') (hne : ¬ y = 0) (k : zV g κ pc' lv (.int (x / y) :: st) μ) : zV g κ pc lv (.int y :: .int x :: st) μ := by
  obtain ⟨⟨p, l, e, R, s, m⟩, ⟨args, below, meth, cx⟩, ⟨cells, slots, Q⟩, A⟩ := κ
  obtain ⟨hx, hb, hml, hown, hts, hKw, hSt, hA, hR, hC⟩ := X
  subst hp
  intro H locs ls hP hS hl
  exact lv_idiv hx hb hd hne (k H locs ls hP hS hl)
theorem zi_irem {g : zG} {κ : zK} {own : String} {cc : ByteArray} {nL d : Nat} (X : zC g κ own cc nL d) {pc pc' : Nat} {lv : List (Nat × Value)} {st : List Value} {μ : zMem} {x y : Int32} (hd : decode cc pc = .ok (.irem, 1)) (hp : pc + 1 = pc') (hne : ¬ y = 0) (k : zV g κ pc' lv (.int (x - x / y * y) :: st) μ) : zV g κ pc lv (.int y :: .int x :: st) μ := by
  obtain ⟨⟨p, l, e, R, s, m⟩, ⟨args, below, meth, cx⟩, ⟨cells, slots, Q⟩, A⟩ := κ
  obtain ⟨hx, hb, hml, hown, hts, hKw, hSt, hA, hR, hC⟩ := X
  subst hp
  intro H locs ls hP hS hl
  exact lv_irem hx hb hd hne (k H locs ls hP hS hl)
theorem zi_ladd {g : zG} {κ : zK} {own : String} {cc : ByteArray} {nL d : Nat} (X : zC g κ own cc nL d) {pc pc' : Nat} {lv : List (Nat × Value)} {st : List Value} {μ : zMem} {x y : Int64} (hd : decode cc pc = .ok (.ladd, 1)) (hp : pc + 1 = pc')  (k : zV g κ pc' lv (.long (x + y) :: st) μ) : zV g κ pc lv (.long y :: .long x :: st) μ := by
  obtain ⟨⟨p, l, e, R, s, m⟩, ⟨args, below, meth, cx⟩, ⟨cells, slots, Q⟩, A⟩ := κ
  obtain ⟨hx, hb, hml, hown, hts, hKw, hSt, hA, hR, hC⟩ := X
  subst hp
  intro H locs ls hP hS hl
  exact lv_ladd hx hb hd (k H locs ls hP hS hl)
theorem zi_lmul {g : zG} {κ : zK} {own : String} {cc : ByteArray} {nL d : Nat} (X : zC g κ own cc nL d) {pc pc' : Nat} {lv : List (Nat × Value)} {st : List Value} {μ : zMem} {x y : Int64} (hd : decode cc pc = .ok (.lmul, 1)) (hp : pc + 1 = pc')  (k : zV g κ pc' lv (.long (x * y) :: st) μ) : zV g κ pc lv (.long y :: .long x :: st) μ := by
  obtain ⟨⟨p, l, e, R, s, m⟩, ⟨args, below, meth, cx⟩, ⟨cells, slots, Q⟩, A⟩ := κ
  obtain ⟨hx, hb, hml, hown, hts, hKw, hSt, hA, hR, hC⟩ := X
  subst hp
  intro H locs ls hP hS hl
  exact lv_lmul hx hb hd (k H locs ls hP hS hl)
theorem zi_ldiv {g : zG} {κ : zK} {own : String} {cc : ByteArray} {nL d : Nat} (X : zC g κ own cc nL d) {pc pc' : Nat} {lv : List (Nat × Value)} {st : List Value} {μ : zMem} {x y : Int64} (hd : decode cc pc = .ok (.ldiv, 1)) (hp : pc + 1 = pc') (hne : ¬ y = 0) (k : zV g κ pc' lv (.long (x / y) :: st) μ) : zV g κ pc lv (.long y :: .long x :: st) μ := by
  obtain ⟨⟨p, l, e, R, s, m⟩, ⟨args, below, meth, cx⟩, ⟨cells, slots, Q⟩, A⟩ := κ
  obtain ⟨hx, hb, hml, hown, hts, hKw, hSt, hA, hR, hC⟩ := X
  subst hp
  intro H locs ls hP hS hl
  exact lv_ldiv hx hb hd hne (k H locs ls hP hS hl)
theorem zi_lrem {g : zG} {κ : zK} {own : String} {cc : ByteArray} {nL d : Nat} (X : zC g κ own cc nL d) {pc pc' : Nat} {lv : List (Nat × Value)} {st : List Value} {μ : zMem} {x y : Int64} (hd : decode cc pc = .ok (.lrem, 1)) (hp : pc + 1 = pc') (hne : ¬ y = 0) (k : zV g κ pc' lv (.long (x - x / y * y) :: st) μ) : zV g κ pc lv (.long y :: .long x :: st) μ := by
  obtain ⟨⟨p, l, e, R, s, m⟩, ⟨args, below, meth, cx⟩, ⟨cells, slots, Q⟩, A⟩ := κ
  obtain ⟨hx, hb, hml, hown, hts, hKw, hSt, hA, hR, hC⟩ := X
  subst hp
  intro H locs ls hP hS hl
  exact lv_lrem hx hb hd hne (k H locs ls hP hS hl)
theorem zi_lcmp {g : zG} {κ : zK} {own : String} {cc : ByteArray} {nL d : Nat} (X : zC g κ own cc nL d) {pc pc' : Nat} {lv : List (Nat × Value)} {st : List Value} {μ : zMem} {x y : Int64} (hd : decode cc pc = .ok (.lcmp, 1)) (hp : pc + 1 = pc')  (k : zV g κ pc' lv (.int (lg_cmp x y) :: st) μ) : zV g κ pc lv (.long y :: .long x :: st) μ := by
  obtain ⟨⟨p, l, e, R, s, m⟩, ⟨args, below, meth, cx⟩, ⟨cells, slots, Q⟩, A⟩ := κ
  obtain ⟨hx, hb, hml, hown, hts, hKw, hSt, hA, hR, hC⟩ := X
  subst hp
  intro H locs ls hP hS hl
  exact W.lcmp hx hb hd (k H locs ls hP hS hl)
theorem zi_i2l {g : zG} {κ : zK} {own : String} {cc : ByteArray} {nL d : Nat} (X : zC g κ own cc nL d) {pc pc' : Nat} {lv : List (Nat × Value)} {st : List Value} {μ : zMem} {x : Int32} (hd : decode cc pc = .ok (.i2l, 1)) (hp : pc + 1 = pc')  (k : zV g κ pc' lv (.long x.toInt64 :: st) μ) : zV g κ pc lv (.int x :: st) μ := by
  obtain ⟨⟨p, l, e, R, s, m⟩, ⟨args, below, meth, cx⟩, ⟨cells, slots, Q⟩, A⟩ := κ
  obtain ⟨hx, hb, hml, hown, hts, hKw, hSt, hA, hR, hC⟩ := X
  subst hp
  intro H locs ls hP hS hl
  exact lv_i2l hx hb hd rfl (k H locs ls hP hS hl)
theorem zi_l2i {g : zG} {κ : zK} {own : String} {cc : ByteArray} {nL d : Nat} (X : zC g κ own cc nL d) {pc pc' : Nat} {lv : List (Nat × Value)} {st : List Value} {μ : zMem} {x : Int64} (hd : decode cc pc = .ok (.l2i, 1)) (hp : pc + 1 = pc')  (k : zV g κ pc' lv (.int x.toInt32 :: st) μ) : zV g κ pc lv (.long x :: st) μ := by
  obtain ⟨⟨p, l, e, R, s, m⟩, ⟨args, below, meth, cx⟩, ⟨cells, slots, Q⟩, A⟩ := κ
  obtain ⟨hx, hb, hml, hown, hts, hKw, hSt, hA, hR, hC⟩ := X
  subst hp
  intro H locs ls hP hS hl
  exact lv_l2i hx hb hd rfl (k H locs ls hP hS hl)
theorem zi_i2b {g : zG} {κ : zK} {own : String} {cc : ByteArray} {nL d : Nat} (X : zC g κ own cc nL d) {pc pc' : Nat} {lv : List (Nat × Value)} {st : List Value} {μ : zMem} {x : Int32} (hd : decode cc pc = .ok (.i2b, 1)) (hp : pc + 1 = pc')  (k : zV g κ pc' lv (.int x.toInt8.toInt32 :: st) μ) : zV g κ pc lv (.int x :: st) μ := by
  obtain ⟨⟨p, l, e, R, s, m⟩, ⟨args, below, meth, cx⟩, ⟨cells, slots, Q⟩, A⟩ := κ
  obtain ⟨hx, hb, hml, hown, hts, hKw, hSt, hA, hR, hC⟩ := X
  subst hp
  intro H locs ls hP hS hl
  exact lv_i2b hx hb hd rfl (k H locs ls hP hS hl)
theorem zi_i2s {g : zG} {κ : zK} {own : String} {cc : ByteArray} {nL d : Nat} (X : zC g κ own cc nL d) {pc pc' : Nat} {lv : List (Nat × Value)} {st : List Value} {μ : zMem} {x : Int32} (hd : decode cc pc = .ok (.i2s, 1)) (hp : pc + 1 = pc')  (k : zV g κ pc' lv (.int x.toInt16.toInt32 :: st) μ) : zV g κ pc lv (.int x :: st) μ := by
  obtain ⟨⟨p, l, e, R, s, m⟩, ⟨args, below, meth, cx⟩, ⟨cells, slots, Q⟩, A⟩ := κ
  obtain ⟨hx, hb, hml, hown, hts, hKw, hSt, hA, hR, hC⟩ := X
  subst hp
  intro H locs ls hP hS hl
  exact lv_i2s hx hb hd rfl (k H locs ls hP hS hl)
theorem zi_i2c {g : zG} {κ : zK} {own : String} {cc : ByteArray} {nL d : Nat} (X : zC g κ own cc nL d) {pc pc' : Nat} {lv : List (Nat × Value)} {st : List Value} {μ : zMem} {x : Int32} (hd : decode cc pc = .ok (.i2c, 1)) (hp : pc + 1 = pc')  (k : zV g κ pc' lv (.int (x.toUInt32 % 65536).toInt32 :: st) μ) : zV g κ pc lv (.int x :: st) μ := by
  obtain ⟨⟨p, l, e, R, s, m⟩, ⟨args, below, meth, cx⟩, ⟨cells, slots, Q⟩, A⟩ := κ
  obtain ⟨hx, hb, hml, hown, hts, hKw, hSt, hA, hR, hC⟩ := X
  subst hp
  intro H locs ls hP hS hl
  exact lv_i2c hx hb hd rfl (k H locs ls hP hS hl)
theorem zi_dup {g : zG} {κ : zK} {own : String} {cc : ByteArray} {nL d : Nat} (X : zC g κ own cc nL d) {pc pc' : Nat} {lv : List (Nat × Value)} {st : List Value} {μ : zMem} {va : Value} (hd : decode cc pc = .ok (.dup, 1)) (hp : pc + 1 = pc') (hv : va.category = 1) (k : zV g κ pc' lv (va :: va :: st) μ) : zV g κ pc lv (va :: st) μ := by
  obtain ⟨⟨p, l, e, R, s, m⟩, ⟨args, below, meth, cx⟩, ⟨cells, slots, Q⟩, A⟩ := κ
  obtain ⟨hx, hb, hml, hown, hts, hKw, hSt, hA, hR, hC⟩ := X
  subst hp
  intro H locs ls hP hS hl
  exact lv_dup hx hb hd hv (k H locs ls hP hS hl)
theorem zi_pop {g : zG} {κ : zK} {own : String} {cc : ByteArray} {nL d : Nat} (X : zC g κ own cc nL d) {pc pc' : Nat} {lv : List (Nat × Value)} {st : List Value} {μ : zMem} {va : Value} (hd : decode cc pc = .ok (.pop, 1)) (hp : pc + 1 = pc') (hv : va.category = 1) (k : zV g κ pc' lv st μ) : zV g κ pc lv (va :: st) μ := by
  obtain ⟨⟨p, l, e, R, s, m⟩, ⟨args, below, meth, cx⟩, ⟨cells, slots, Q⟩, A⟩ := κ
  obtain ⟨hx, hb, hml, hown, hts, hKw, hSt, hA, hR, hC⟩ := X
  subst hp
  intro H locs ls hP hS hl
  exact lv_pop hx hb hd hv (k H locs ls hP hS hl)
theorem zi_dup2 {g : zG} {κ : zK} {own : String} {cc : ByteArray} {nL d : Nat} (X : zC g κ own cc nL d) {pc pc' : Nat} {lv : List (Nat × Value)} {st : List Value} {μ : zMem} {va vb : Value} (hd : decode cc pc = .ok (.dup2, 1)) (hp : pc + 1 = pc') (hv : va.category = 1) (hw : vb.category = 1) (k : zV g κ pc' lv (va :: vb :: va :: vb :: st) μ) : zV g κ pc lv (va :: vb :: st) μ := by
  obtain ⟨⟨p, l, e, R, s, m⟩, ⟨args, below, meth, cx⟩, ⟨cells, slots, Q⟩, A⟩ := κ
  obtain ⟨hx, hb, hml, hown, hts, hKw, hSt, hA, hR, hC⟩ := X
  subst hp
  intro H locs ls hP hS hl
  exact lv_dup2_11 hx hb hd hv hw (k H locs ls hP hS hl)
theorem zi_if_eq {g : zG} {κ : zK} {own : String} {cc : ByteArray} {nL d : Nat} (X : zC g κ own cc nL d) {pc pc' : Nat} {lv : List (Nat × Value)} {st : List Value} {μ : zMem} {x : Int32} {off : Int} {tgt : Nat} (hd : decode cc pc = .ok (.ifCond .eq off, 3)) (ht : (pc : Int) + off = (tgt : Int)) (hp : pc + 3 = pc') (kt : x = 0 → zV g κ tgt lv st μ) (kf : ¬ x = 0 → zV g κ pc' lv st μ) : zV g κ pc lv (.int x :: st) μ := by
  obtain ⟨⟨p, l, e, R, s, m⟩, ⟨args, below, meth, cx⟩, ⟨cells, slots, Q⟩, A⟩ := κ
  obtain ⟨hx, hb, hml, hown, hts, hKw, hSt, hA, hR, hC⟩ := X
  subst hp
  intro H locs ls hP hS hl
  exact lv_if_eq hx hb hd ht (fun c => kt c H locs ls hP hS hl) (fun c => kf c H locs ls hP hS hl)
theorem zi_if_ne {g : zG} {κ : zK} {own : String} {cc : ByteArray} {nL d : Nat} (X : zC g κ own cc nL d) {pc pc' : Nat} {lv : List (Nat × Value)} {st : List Value} {μ : zMem} {x : Int32} {off : Int} {tgt : Nat} (hd : decode cc pc = .ok (.ifCond .ne off, 3)) (ht : (pc : Int) + off = (tgt : Int)) (hp : pc + 3 = pc') (kt : ¬ x = 0 → zV g κ tgt lv st μ) (kf : x = 0 → zV g κ pc' lv st μ) : zV g κ pc lv (.int x :: st) μ := by
  obtain ⟨⟨p, l, e, R, s, m⟩, ⟨args, below, meth, cx⟩, ⟨cells, slots, Q⟩, A⟩ := κ
  obtain ⟨hx, hb, hml, hown, hts, hKw, hSt, hA, hR, hC⟩ := X
  subst hp
  intro H locs ls hP hS hl
  exact lv_if_ne hx hb hd ht (fun c => kt c H locs ls hP hS hl) (fun c => kf c H locs ls hP hS hl)
theorem zi_if_lt {g : zG} {κ : zK} {own : String} {cc : ByteArray} {nL d : Nat} (X : zC g κ own cc nL d) {pc pc' : Nat} {lv : List (Nat × Value)} {st : List Value} {μ : zMem} {x : Int32} {off : Int} {tgt : Nat} (hd : decode cc pc = .ok (.ifCond .lt off, 3)) (ht : (pc : Int) + off = (tgt : Int)) (hp : pc + 3 = pc') (kt : x < 0 → zV g κ tgt lv st μ) (kf : ¬ x < 0 → zV g κ pc' lv st μ) : zV g κ pc lv (.int x :: st) μ := by
  obtain ⟨⟨p, l, e, R, s, m⟩, ⟨args, below, meth, cx⟩, ⟨cells, slots, Q⟩, A⟩ := κ
  obtain ⟨hx, hb, hml, hown, hts, hKw, hSt, hA, hR, hC⟩ := X
  subst hp
  intro H locs ls hP hS hl
  exact lv_if_lt hx hb hd ht (fun c => kt c H locs ls hP hS hl) (fun c => kf c H locs ls hP hS hl)
theorem zi_if_ge {g : zG} {κ : zK} {own : String} {cc : ByteArray} {nL d : Nat} (X : zC g κ own cc nL d) {pc pc' : Nat} {lv : List (Nat × Value)} {st : List Value} {μ : zMem} {x : Int32} {off : Int} {tgt : Nat} (hd : decode cc pc = .ok (.ifCond .ge off, 3)) (ht : (pc : Int) + off = (tgt : Int)) (hp : pc + 3 = pc') (kt : 0 ≤ x → zV g κ tgt lv st μ) (kf : ¬ 0 ≤ x → zV g κ pc' lv st μ) : zV g κ pc lv (.int x :: st) μ := by
  obtain ⟨⟨p, l, e, R, s, m⟩, ⟨args, below, meth, cx⟩, ⟨cells, slots, Q⟩, A⟩ := κ
  obtain ⟨hx, hb, hml, hown, hts, hKw, hSt, hA, hR, hC⟩ := X
  subst hp
  intro H locs ls hP hS hl
  exact lv_if_ge hx hb hd ht (fun c => kt c H locs ls hP hS hl) (fun c => kf c H locs ls hP hS hl)
theorem zi_if_gt {g : zG} {κ : zK} {own : String} {cc : ByteArray} {nL d : Nat} (X : zC g κ own cc nL d) {pc pc' : Nat} {lv : List (Nat × Value)} {st : List Value} {μ : zMem} {x : Int32} {off : Int} {tgt : Nat} (hd : decode cc pc = .ok (.ifCond .gt off, 3)) (ht : (pc : Int) + off = (tgt : Int)) (hp : pc + 3 = pc') (kt : 0 < x → zV g κ tgt lv st μ) (kf : ¬ 0 < x → zV g κ pc' lv st μ) : zV g κ pc lv (.int x :: st) μ := by
  obtain ⟨⟨p, l, e, R, s, m⟩, ⟨args, below, meth, cx⟩, ⟨cells, slots, Q⟩, A⟩ := κ
  obtain ⟨hx, hb, hml, hown, hts, hKw, hSt, hA, hR, hC⟩ := X
  subst hp
  intro H locs ls hP hS hl
  exact lv_if_gt hx hb hd ht (fun c => kt c H locs ls hP hS hl) (fun c => kf c H locs ls hP hS hl)
theorem zi_if_le {g : zG} {κ : zK} {own : String} {cc : ByteArray} {nL d : Nat} (X : zC g κ own cc nL d) {pc pc' : Nat} {lv : List (Nat × Value)} {st : List Value} {μ : zMem} {x : Int32} {off : Int} {tgt : Nat} (hd : decode cc pc = .ok (.ifCond .le off, 3)) (ht : (pc : Int) + off = (tgt : Int)) (hp : pc + 3 = pc') (kt : x ≤ 0 → zV g κ tgt lv st μ) (kf : ¬ x ≤ 0 → zV g κ pc' lv st μ) : zV g κ pc lv (.int x :: st) μ := by
  obtain ⟨⟨p, l, e, R, s, m⟩, ⟨args, below, meth, cx⟩, ⟨cells, slots, Q⟩, A⟩ := κ
  obtain ⟨hx, hb, hml, hown, hts, hKw, hSt, hA, hR, hC⟩ := X
  subst hp
  intro H locs ls hP hS hl
  exact lv_if_le hx hb hd ht (fun c => kt c H locs ls hP hS hl) (fun c => kf c H locs ls hP hS hl)
theorem zi_icmp_eq {g : zG} {κ : zK} {own : String} {cc : ByteArray} {nL d : Nat} (X : zC g κ own cc nL d) {pc pc' : Nat} {lv : List (Nat × Value)} {st : List Value} {μ : zMem} {x y : Int32} {off : Int} {tgt : Nat} (hd : decode cc pc = .ok (.if_icmp .eq off, 3)) (ht : (pc : Int) + off = (tgt : Int)) (hp : pc + 3 = pc') (kt : x = y → zV g κ tgt lv st μ) (kf : ¬ x = y → zV g κ pc' lv st μ) : zV g κ pc lv (.int y :: .int x :: st) μ := by
  obtain ⟨⟨p, l, e, R, s, m⟩, ⟨args, below, meth, cx⟩, ⟨cells, slots, Q⟩, A⟩ := κ
  obtain ⟨hx, hb, hml, hown, hts, hKw, hSt, hA, hR, hC⟩ := X
  subst hp
  intro H locs ls hP hS hl
  exact lv_icmp_eq hx hb hd ht (fun c => kt c H locs ls hP hS hl) (fun c => kf c H locs ls hP hS hl)
theorem zi_icmp_ne {g : zG} {κ : zK} {own : String} {cc : ByteArray} {nL d : Nat} (X : zC g κ own cc nL d) {pc pc' : Nat} {lv : List (Nat × Value)} {st : List Value} {μ : zMem} {x y : Int32} {off : Int} {tgt : Nat} (hd : decode cc pc = .ok (.if_icmp .ne off, 3)) (ht : (pc : Int) + off = (tgt : Int)) (hp : pc + 3 = pc') (kt : ¬ x = y → zV g κ tgt lv st μ) (kf : x = y → zV g κ pc' lv st μ) : zV g κ pc lv (.int y :: .int x :: st) μ := by
  obtain ⟨⟨p, l, e, R, s, m⟩, ⟨args, below, meth, cx⟩, ⟨cells, slots, Q⟩, A⟩ := κ
  obtain ⟨hx, hb, hml, hown, hts, hKw, hSt, hA, hR, hC⟩ := X
  subst hp
  intro H locs ls hP hS hl
  exact lv_icmp_ne hx hb hd ht (fun c => kt c H locs ls hP hS hl) (fun c => kf c H locs ls hP hS hl)
theorem zi_icmp_lt {g : zG} {κ : zK} {own : String} {cc : ByteArray} {nL d : Nat} (X : zC g κ own cc nL d) {pc pc' : Nat} {lv : List (Nat × Value)} {st : List Value} {μ : zMem} {x y : Int32} {off : Int} {tgt : Nat} (hd : decode cc pc = .ok (.if_icmp .lt off, 3)) (ht : (pc : Int) + off = (tgt : Int)) (hp : pc + 3 = pc') (kt : x < y → zV g κ tgt lv st μ) (kf : ¬ x < y → zV g κ pc' lv st μ) : zV g κ pc lv (.int y :: .int x :: st) μ := by
  obtain ⟨⟨p, l, e, R, s, m⟩, ⟨args, below, meth, cx⟩, ⟨cells, slots, Q⟩, A⟩ := κ
  obtain ⟨hx, hb, hml, hown, hts, hKw, hSt, hA, hR, hC⟩ := X
  subst hp
  intro H locs ls hP hS hl
  exact lv_icmp_lt hx hb hd ht (fun c => kt c H locs ls hP hS hl) (fun c => kf c H locs ls hP hS hl)
theorem zi_icmp_ge {g : zG} {κ : zK} {own : String} {cc : ByteArray} {nL d : Nat} (X : zC g κ own cc nL d) {pc pc' : Nat} {lv : List (Nat × Value)} {st : List Value} {μ : zMem} {x y : Int32} {off : Int} {tgt : Nat} (hd : decode cc pc = .ok (.if_icmp .ge off, 3)) (ht : (pc : Int) + off = (tgt : Int)) (hp : pc + 3 = pc') (kt : y ≤ x → zV g κ tgt lv st μ) (kf : ¬ y ≤ x → zV g κ pc' lv st μ) : zV g κ pc lv (.int y :: .int x :: st) μ := by
  obtain ⟨⟨p, l, e, R, s, m⟩, ⟨args, below, meth, cx⟩, ⟨cells, slots, Q⟩, A⟩ := κ
  obtain ⟨hx, hb, hml, hown, hts, hKw, hSt, hA, hR, hC⟩ := X
  subst hp
  intro H locs ls hP hS hl
  exact lv_icmp_ge hx hb hd ht (fun c => kt c H locs ls hP hS hl) (fun c => kf c H locs ls hP hS hl)
theorem zi_icmp_gt {g : zG} {κ : zK} {own : String} {cc : ByteArray} {nL d : Nat} (X : zC g κ own cc nL d) {pc pc' : Nat} {lv : List (Nat × Value)} {st : List Value} {μ : zMem} {x y : Int32} {off : Int} {tgt : Nat} (hd : decode cc pc = .ok (.if_icmp .gt off, 3)) (ht : (pc : Int) + off = (tgt : Int)) (hp : pc + 3 = pc') (kt : y < x → zV g κ tgt lv st μ) (kf : ¬ y < x → zV g κ pc' lv st μ) : zV g κ pc lv (.int y :: .int x :: st) μ := by
  obtain ⟨⟨p, l, e, R, s, m⟩, ⟨args, below, meth, cx⟩, ⟨cells, slots, Q⟩, A⟩ := κ
  obtain ⟨hx, hb, hml, hown, hts, hKw, hSt, hA, hR, hC⟩ := X
  subst hp
  intro H locs ls hP hS hl
  exact lv_icmp_gt hx hb hd ht (fun c => kt c H locs ls hP hS hl) (fun c => kf c H locs ls hP hS hl)
theorem zi_icmp_le {g : zG} {κ : zK} {own : String} {cc : ByteArray} {nL d : Nat} (X : zC g κ own cc nL d) {pc pc' : Nat} {lv : List (Nat × Value)} {st : List Value} {μ : zMem} {x y : Int32} {off : Int} {tgt : Nat} (hd : decode cc pc = .ok (.if_icmp .le off, 3)) (ht : (pc : Int) + off = (tgt : Int)) (hp : pc + 3 = pc') (kt : x ≤ y → zV g κ tgt lv st μ) (kf : ¬ x ≤ y → zV g κ pc' lv st μ) : zV g κ pc lv (.int y :: .int x :: st) μ := by
  obtain ⟨⟨p, l, e, R, s, m⟩, ⟨args, below, meth, cx⟩, ⟨cells, slots, Q⟩, A⟩ := κ
  obtain ⟨hx, hb, hml, hown, hts, hKw, hSt, hA, hR, hC⟩ := X
  subst hp
  intro H locs ls hP hS hl
  exact lv_icmp_le hx hb hd ht (fun c => kt c H locs ls hP hS hl) (fun c => kf c H locs ls hP hS hl)
theorem zi_goto {g : zG} {κ : zK} {own : String} {cc : ByteArray} {nL d : Nat} (X : zC g κ own cc nL d) {pc pc' : Nat} {lv : List (Nat × Value)} {st : List Value} {μ : zMem} {off : Int} (hd : decode cc pc = .ok (.goto off, 3)) (ht : (pc : Int) + off = (pc' : Int)) (k : zV g κ pc' lv st μ) : zV g κ pc lv st μ := by
  obtain ⟨⟨p, l, e, R, s, m⟩, ⟨args, below, meth, cx⟩, ⟨cells, slots, Q⟩, A⟩ := κ
  obtain ⟨hx, hb, hml, hown, hts, hKw, hSt, hA, hR, hC⟩ := X
  intro H locs ls hP hS hl
  exact lv_goto hx hb hd ht (k H locs ls hP hS hl)
theorem zi_tabIn {g : zG} {κ : zK} {own : String} {cc : ByteArray} {nL d : Nat} (X : zC g κ own cc nL d) {pc pc' : Nat} {lv : List (Nat × Value)} {st : List Value} {μ : zMem} {x v : Int32} {dflt lo hi off : Int} {offs : Array Int} {len : Nat} (hx0 : x = v) (hd : decode cc pc = .ok (.tableswitch dflt lo hi offs, len)) (ht : (¬ v.toInt < lo ∧ ¬ hi < v.toInt) ∧ offs[(v.toInt - lo).toNat]? = some off ∧ (pc : Int) + off = (pc' : Int)) (k : zV g κ pc' lv st μ) : zV g κ pc lv (.int x :: st) μ := by
  obtain ⟨⟨p, l, e, R, s, m⟩, ⟨args, below, meth, cx⟩, ⟨cells, slots, Q⟩, A⟩ := κ
  obtain ⟨hx, hb, hml, hown, hts, hKw, hSt, hA, hR, hC⟩ := X
  subst hx0
  intro H locs ls hP hS hl
  exact lv_tableIn hx hb hd ht.1.1 ht.1.2 ht.2.1 ht.2.2 (k H locs ls hP hS hl)
theorem zi_tabOut {g : zG} {κ : zK} {own : String} {cc : ByteArray} {nL d : Nat} (X : zC g κ own cc nL d) {pc pc' : Nat} {lv : List (Nat × Value)} {st : List Value} {μ : zMem} {x : Int32} {dflt lo hi : Int} {offs : Array Int} {len : Nat} (hx0 : x.toInt < lo ∨ hi < x.toInt) (hd : decode cc pc = .ok (.tableswitch dflt lo hi offs, len)) (ht : (pc : Int) + dflt = (pc' : Int)) (k : zV g κ pc' lv st μ) : zV g κ pc lv (.int x :: st) μ := by
  obtain ⟨⟨p, l, e, R, s, m⟩, ⟨args, below, meth, cx⟩, ⟨cells, slots, Q⟩, A⟩ := κ
  obtain ⟨hx, hb, hml, hown, hts, hKw, hSt, hA, hR, hC⟩ := X
  intro H locs ls hP hS hl
  exact lv_tableOut hx hb hd hx0 ht (k H locs ls hP hS hl)
theorem zi_look {g : zG} {κ : zK} {own : String} {cc : ByteArray} {nL d : Nat} (X : zC g κ own cc nL d) {pc pc' : Nat} {lv : List (Nat × Value)} {st : List Value} {μ : zMem} {x : Int32} {dflt off : Int} {ps : Array (Int × Int)} {len : Nat} (hd : decode cc pc = .ok (.lookupswitch dflt ps, len)) (hq : (ps.toList.zip (ps.toList.drop 1)).all (fun (a, next) => a.1 < next.1) = true) (ho : Op.lookupswitch.offset ps.toList dflt x.toInt = off) (ht : (pc : Int) + off = (pc' : Int)) (k : zV g κ pc' lv st μ) : zV g κ pc lv (.int x :: st) μ := by
  obtain ⟨⟨p, l, e, R, s, m⟩, ⟨args, below, meth, cx⟩, ⟨cells, slots, Q⟩, A⟩ := κ
  obtain ⟨hx, hb, hml, hown, hts, hKw, hSt, hA, hR, hC⟩ := X
  intro H locs ls hP hS hl
  exact lv_lookup hx hb hd hq ho ht (k H locs ls hP hS hl)
theorem zi_sub {g : zG} {κ : zK} {own : String} {cc : ByteArray} {nL d : Nat} (X : zC g κ own cc nL d) {pc pc' : Nat} {lv : List (Nat × Value)} {st : List Value} {μ : zMem} (ks : List Nat) (lv' : List (Nat × Value)) (h : lv_pick lv ks = lv') (k : zV g κ pc lv' st μ) : zV g κ pc lv st μ := by
  obtain ⟨⟨p, l, e, R, s, m⟩, ⟨args, below, meth, cx⟩, ⟨cells, slots, Q⟩, A⟩ := κ
  obtain ⟨hx, hb, hml, hown, hts, hKw, hSt, hA, hR, hC⟩ := X
  intro H locs ls hP hS hl
  exact k H locs ls hP hS (lv_sub hl ks h)
/-- a field's link: whose place, which class and field -/
def zFl (own : String) (idx c j : Nat) : Prop := ∃ (C : String) (T : u_T) (N : Nat), vwCl[c]? = some (C, T, N) ∧ j < N ∧ (∀ w ∈ u_ws C T N, w ∈ zgw) ∧ (Cond.fieldLink own idx (T j).1 (T j).2.1 (T j).2.2.1 ∈ zgw ∨ ∃ host, Cond.fieldLinkNest own idx (T j).1 (T j).2.1 (T j).2.2.1 host ∈ lw_tbl)
/-- that a class's field may be written, of which sort it is -/
def zFw (c j : Nat) (ty : FieldType) : Prop := ∀ (C : String) (T : u_T) (N : Nat), vwCl[c]? = some (C, T, N) → (T j).2.2.2 = false ∧ parseFieldDescriptor (T j).2.2.1 = some ty ∧ ∃ ty0 : Nat → FieldType, (∀ k, k < N → parseFieldDescriptor (T k).2.2.1 = some (ty0 k)) ∧ ∀ a, a < N → ∀ b, b < N → a ≠ b → (T a).2.1 ≠ (T b).2.1
theorem zi_get {g : zG} {κ : zK} {own : String} {cc : ByteArray} {nL d : Nat} (X : zC g κ own cc nL d) {pc pc' : Nat} {lv : List (Nat × Value)} {st : List Value} {μ : zMem} {idx c j k0 : Nat} {o : Option Nat} (hf : zFl own idx c j) (ho : (zoff.getD c [])[j]? = some o) (hc : c < 7) (hk : zkd k0 = c) (hd : decode cc pc = .ok (.getfield idx, 3)) (hp : pc + 3 = pc') (k : zV g κ pc' lv (zval g k0 (μ k0) j o :: st) μ) : zV g κ pc lv (.ref (zad g k0) :: st) μ := by
  obtain ⟨⟨p, l, e, R, s, m⟩, ⟨args, below, meth, cx⟩, ⟨cells, slots, Q⟩, A⟩ := κ
  obtain ⟨hx, hb, hml, hown, hts, hKw, hSt, hA, hR, hC⟩ := X
  subst hp
  intro H locs ls hP hS hl
  have hk78 := zkd_lt hk (by omega)
  obtain ⟨C, T, N, h1, h2, h3, h4⟩ := hf
  have he := zwd_at (g := g) (μ := μ) hk78
  rw [zcell_o _ hk hc] at he
  rcases h4 with h4 | ⟨host, h4⟩
  · exact va_get (C := C) (T := T) (N := N) hx hb hts h3 hown hKw.1 hP k0 he h1 j h2 (hts _ h4) (fun _ h9 => h9) (zfs_at ho) hd (k H locs ls hP hS hl)
  · exact va_getN (C := C) (T := T) (N := N) (host := host) hx hb hts h3 hown hKw.1 hP k0 he h1 j h2 (va_Nw.use rfl (hKw.2.2 _ h4 rfl)) (fun _ h9 => h9) (zfs_at ho) hd (k H locs ls hP hS hl)
theorem zi_geti {g : zG} {κ : zK} {own : String} {cc : ByteArray} {nL d : Nat} (X : zC g κ own cc nL d) {pc pc' : Nat} {lv : List (Nat × Value)} {st : List Value} {μ : zMem} {idx c j k0 : Nat} (hf : zFl own idx c j) (ho : (zoff.getD c [])[j]? = some none) (hc : c < 7) (hk : zkd k0 = c) (hd : decode cc pc = .ok (.getfield idx, 3)) (hp : pc + 3 = pc') (k : zV g κ pc' lv (.int (μ k0 j) :: st) μ) : zV g κ pc lv (.ref (zad g k0) :: st) μ := zi_get X hf ho hc hk hd hp k
theorem zi_getr {g : zG} {κ : zK} {own : String} {cc : ByteArray} {nL d : Nat} (X : zC g κ own cc nL d) {pc pc' : Nat} {lv : List (Nat × Value)} {st : List Value} {μ : zMem} {idx c j k0 o : Nat} (hf : zFl own idx c j) (ho : (zoff.getD c [])[j]? = some (some o)) (hc : c < 7) (hk : zkd k0 = c) (hd : decode cc pc = .ok (.getfield idx, 3)) (hp : pc + 3 = pc') (k : zV g κ pc' lv (.ref (zad g (k0 + o)) :: st) μ) : zV g κ pc lv (.ref (zad g k0) :: st) μ := zi_get X hf ho hc hk hd hp k
theorem zi_put {g : zG} {κ : zK} {own : String} {cc : ByteArray} {nL d : Nat} (X : zC g κ own cc nL d) {pc pc' : Nat} {lv : List (Nat × Value)} {st : List Value} {μ : zMem} {idx c j k0 : Nat} {ty : FieldType} {v : Int32} (hf : zFl own idx c j) (hw : zFw c j ty) (ho : (zoff.getD c [])[j]? = some none) (hc : c < 7) (hk : zkd k0 = c) (hn : narrow ty (.int v) = .int v) (hfit : fits ty (.int v) = true) (hd : decode cc pc = .ok (.putfield idx, 3)) (hp : pc + 3 = pc') (k : zV g κ pc' lv st (zst μ k0 j v)) : zV g κ pc lv (.int v :: .ref (zad g k0) :: st) μ := by
  obtain ⟨⟨p, l, e, R, s, m⟩, ⟨args, below, meth, cx⟩, ⟨cells, slots, Q⟩, A⟩ := κ
  obtain ⟨hx, hb, hml, hown, hts, hKw, hSt, hA, hR, hC⟩ := X
  subst hp
  intro H locs ls hP hS hl
  have hk78 := zkd_lt hk (by omega)
  obtain ⟨C, T, N, h1, h2, h3, h4⟩ := hf
  obtain ⟨w1, w2, ty0, w3, w4⟩ := hw C T N h1
  have he := zwd_at (g := g) (μ := μ) hk78
  rw [zcell_o _ hk hc] at he
  have hDD : va_D A (zwd g μ) := zD_of hKw.2.1 hA
  have hlen : j < (zfs g c k0 (μ k0)).length := (List.getElem?_eq_some_iff.mp (zfs_at (g := g) (k := k0) (r := μ k0) ho)).1
  have hset : (zwd g μ).set k0 (zad g k0, .inr (c, (zfs g c k0 (μ k0)).set j (.int v))) = zwd g (zst μ k0 j v) := by
    rw [zst_row]
    exact zwd_row hk78 (by rw [zcell_o _ hk hc, zfs_set ho])
  rcases h4 with h4 | ⟨host, h4⟩
  · exact va_put (C := C) (T := T) (N := N) hx hb hts h3 ty0 w3 w4 hown hKw.1 hP hDD hS k0 he h1 j h2 (hts _ h4) (fun _ h9 => h9) w1 w2 hn hfit hlen hd (fun H1 locs1 q1 _ q3 => k H1 locs1 ls (by rw [← hset]; exact q1) q3 hl)
  · exact va_putN (C := C) (T := T) (N := N) (host := host) hx hb hts h3 ty0 w3 w4 hown hKw.1 hP hDD hS k0 he h1 j h2 (va_Nw.use rfl (hKw.2.2 _ h4 rfl)) (fun _ h9 => h9) w1 w2 hn hfit hlen hd (fun H1 locs1 q1 _ q3 => k H1 locs1 ls (by rw [← hset]; exact q1) q3 hl)
abbrev zib (i : Int32) (n : Nat) : Prop := ¬ (i < 0 ∨ n ≤ i.toNatClampNeg)
theorem zi_iald {g : zG} {κ : zK} {own : String} {cc : ByteArray} {nL d : Nat} (X : zC g κ own cc nL d) {pc pc' : Nat} {lv : List (Nat × Value)} {st : List Value} {μ : zMem} {k0 : Nat} {i : Int32} (hk : zkd k0 = 7) (hin : zib i (zln k0)) (hd : decode cc pc = .ok (.iaload, 1)) (hp : pc + 1 = pc') (k : zV g κ pc' lv (.int (μ k0 i.toNatClampNeg) :: st) μ) : zV g κ pc lv (.int i :: .ref (zad g k0) :: st) μ := by
  obtain ⟨⟨p, l, e, R, s, m⟩, ⟨args, below, meth, cx⟩, ⟨cells, slots, Q⟩, A⟩ := κ
  obtain ⟨hx, hb, hml, hown, hts, hKw, hSt, hA, hR, hC⟩ := X
  subst hp
  intro H locs ls hP hS hl
  have he := zwd_at (g := g) (μ := μ) (zkd_lt hk (by omega))
  rw [zcell_i _ hk] at he
  exact va_iald hx hb hKw.1 hP k0 0 he rfl hin hd (k H locs ls hP hS hl)
theorem zi_iast {g : zG} {κ : zK} {own : String} {cc : ByteArray} {nL d : Nat} (X : zC g κ own cc nL d) {pc pc' : Nat} {lv : List (Nat × Value)} {st : List Value} {μ : zMem} {k0 : Nat} {i v : Int32} (hk : zkd k0 = 7) (hin : zib i (zln k0)) (hd : decode cc pc = .ok (.iastore, 1)) (hp : pc + 1 = pc') (k : zV g κ pc' lv st (zst μ k0 i.toNatClampNeg v)) : zV g κ pc lv (.int v :: .int i :: .ref (zad g k0) :: st) μ := by
  obtain ⟨⟨p, l, e, R, s, m⟩, ⟨args, below, meth, cx⟩, ⟨cells, slots, Q⟩, A⟩ := κ
  obtain ⟨hx, hb, hml, hown, hts, hKw, hSt, hA, hR, hC⟩ := X
  subst hp
  intro H locs ls hP hS hl
  have hk78 := zkd_lt hk (by omega)
  have he := zwd_at (g := g) (μ := μ) hk78
  rw [zcell_i _ hk] at he
  have hDD : va_D A (zwd g μ) := zD_of hKw.2.1 hA
  refine va_iast hx hb hKw.1 hP hDD hS k0 0 he rfl hin hd (fun H1 locs1 q1 _ q3 => k H1 locs1 ls ?_ q3 hl)
  rw [zwd_row hk78 (zcell_i _ hk)] at q1
  exact q1
theorem zi_aaldT {g : zG} {κ : zK} {own : String} {cc : ByteArray} {nL d : Nat} (X : zC g κ own cc nL d) {pc pc' : Nat} {lv : List (Nat × Value)} {st : List Value} {μ : zMem} {k0 : Nat} {i : Int32} (hk : zkd k0 = 9) (hin : zib i (zln k0)) (hd : decode cc pc = .ok (.aaload, 1)) (hp : pc + 1 = pc') (k : zV g κ pc' lv (.ref (zad g (k0 + 1 + 2 * i.toNatClampNeg)) :: st) μ) : zV g κ pc lv (.int i :: .ref (zad g k0) :: st) μ := by
  obtain ⟨⟨p, l, e, R, s, m⟩, ⟨args, below, meth, cx⟩, ⟨cells, slots, Q⟩, A⟩ := κ
  obtain ⟨hx, hb, hml, hown, hts, hKw, hSt, hA, hR, hC⟩ := X
  subst hp
  intro H locs ls hP hS hl
  have he := zwd_at (g := g) (μ := μ) (zkd_lt hk (by omega))
  rw [zcell_t _ hk] at he
  exact va_aldq hx hb hKw.1 hP k0 1 he rfl hin hd (k H locs ls hP hS hl)
theorem zi_aaldS {g : zG} {κ : zK} {own : String} {cc : ByteArray} {nL d : Nat} (X : zC g κ own cc nL d) {pc pc' : Nat} {lv : List (Nat × Value)} {st : List Value} {μ : zMem} {k0 : Nat} {i : Int32} (hk : zkd k0 = 8) (hin : zib i (zln k0)) (hd : decode cc pc = .ok (.aaload, 1)) (hp : pc + 1 = pc') (k : zV g κ pc' lv (.ref (zad g (k0 + 3 + 2 * i.toNatClampNeg)) :: st) μ) : zV g κ pc lv (.int i :: .ref (zad g k0) :: st) μ := by
  obtain ⟨⟨p, l, e, R, s, m⟩, ⟨args, below, meth, cx⟩, ⟨cells, slots, Q⟩, A⟩ := κ
  obtain ⟨hx, hb, hml, hown, hts, hKw, hSt, hA, hR, hC⟩ := X
  subst hp
  intro H locs ls hP hS hl
  have he := zwd_at (g := g) (μ := μ) (zkd_lt hk (by omega))
  rw [zcell_s _ hk] at he
  exact va_aldq hx hb hKw.1 hP k0 2 he rfl hin hd (k H locs ls hP hS hl)
theorem zi_alen {g : zG} {κ : zK} {own : String} {cc : ByteArray} {nL d : Nat} (X : zC g κ own cc nL d) {pc pc' : Nat} {lv : List (Nat × Value)} {st : List Value} {μ : zMem} {k0 : Nat} (hk : zkd k0 = 7) (hd : decode cc pc = .ok (.arraylength, 1)) (hp : pc + 1 = pc') (k : zV g κ pc' lv (.int (Int32.ofNat (zln k0)) :: st) μ) : zV g κ pc lv (.ref (zad g k0) :: st) μ := by
  obtain ⟨⟨p, l, e, R, s, m⟩, ⟨args, below, meth, cx⟩, ⟨cells, slots, Q⟩, A⟩ := κ
  obtain ⟨hx, hb, hml, hown, hts, hKw, hSt, hA, hR, hC⟩ := X
  subst hp
  intro H locs ls hP hS hl
  have he := zwd_at (g := g) (μ := μ) (zkd_lt hk (by omega))
  rw [zcell_i _ hk] at he
  exact va_alen hx hb hKw.1 hP k0 0 he (ty := .int) rfl rfl hd (k H locs ls hP hS hl)
theorem zi_acopy {g : zG} {κ : zK} {own : String} {cc : ByteArray} {nL d : Nat} (X : zC g κ own cc nL d) {pc pc' : Nat} {lv : List (Nat × Value)} {st : List Value} {μ : zMem} {idx k0 k1 : Nat} {sp dp n : Int32} (hlk : Cond.methodLink own idx arraycopyName ∈ zgw ∧ Cond.native arraycopyName ∈ zgw ∧ Cond.static arraycopyName ∈ zgw ∧ Cond.initialized "java/lang/System" ∈ zgw) (hk0 : zkd k0 = 7) (hk1 : zkd k1 = 7) (h : (¬ sp < 0 ∧ ¬ dp < 0 ∧ ¬ n < 0) ∧ sp.toNatClampNeg + n.toNatClampNeg ≤ zln k0 ∧ dp.toNatClampNeg + n.toNatClampNeg ≤ zln k1) (hst : (st.map fun v => v.category).sum ≤ 8) (hdp : 1 ≤ d) (hd : decode cc pc = .ok (.invokestatic idx, 3)) (hp : pc + 3 = pc') (k : zV g κ pc' lv st (zrow μ k1 (va_cpy (μ k0) (μ k1) sp.toNatClampNeg dp.toNatClampNeg n.toNatClampNeg))) : zV g κ pc lv (.int n :: .int dp :: .ref (zad g k1) :: .int sp :: .ref (zad g k0) :: st) μ := by
  obtain ⟨⟨p, l, e, R, s, m⟩, ⟨args, below, meth, cx⟩, ⟨cells, slots, Q⟩, A⟩ := κ
  obtain ⟨hx, hb, hml, hown, hts, hKw, hSt, hA, hR, hC⟩ := X
  subst hp
  intro H locs ls hP hS hl
  have hk78 := zkd_lt hk1 (by omega)
  have he0 := zwd_at (g := g) (μ := μ) (zkd_lt hk0 (by omega))
  have he1 := zwd_at (g := g) (μ := μ) hk78
  rw [zcell_i _ hk0] at he0
  rw [zcell_i _ hk1] at he1
  have hDD : va_D A (zwd g μ) := zD_of hKw.2.1 hA
  have hnw : nativeFrameWords "java/lang/System" "arraycopy" 5 + 11 ≤ 32 := by decide +kernel
  refine va_copyi hx hb hl.1.symm hown (hts _ hlk.1) (hts _ hlk.2.1) (hts _ hlk.2.2.1) (hts _ hlk.2.2.2) hKw.1 hP hDD hS k0 k1 0 0 (ty := .int) he0 he1 rfl rfl rfl h.1.1 h.1.2.1 h.1.2.2 h.2.1 h.2.2 (fun i _ => rfl) (by omega) (by omega) hd (fun H1 locs1 q1 _ q3 => k H1 locs1 ls ?_ q3 hl)
  rw [zwd_row hk78 (zcell_i _ hk1)] at q1
  exact q1
theorem zi_mmax {g : zG} {κ : zK} {own : String} {cc : ByteArray} {nL d : Nat} (X : zC g κ own cc nL d) {pc pc' : Nat} {lv : List (Nat × Value)} {st : List Value} {μ : zMem} {idx : Nat} {x y : Int32} (hlk : Cond.methodLink own idx Lib.Math.max.name ∈ zgw ∧ Cond.static Lib.Math.max.name ∈ zgw ∧ Cond.initialized "java/lang/Math" ∈ zgw ∧ Cond.code Lib.Math.max.name Lib.Math.max.code 2 (some .int) ∈ zgw) (hst : (st.map fun v => v.category).sum ≤ 8) (hdp : 1 ≤ d) (hd : decode cc pc = .ok (.invokestatic idx, 3)) (hp : pc + 3 = pc') (k : zV g κ pc' lv (.int (if x < y then y else x) :: st) μ) : zV g κ pc lv (.int y :: .int x :: st) μ := by
  obtain ⟨⟨p, l, e, R, s, m⟩, ⟨args, below, meth, cx⟩, ⟨cells, slots, Q⟩, A⟩ := κ
  obtain ⟨hx, hb, hml, hown, hts, hKw, hSt, hA, hR, hC⟩ := X
  subst hp
  intro H locs ls hP hS hl
  exact va_mmax hx hb hl.1.symm hown (hts _ hlk.1) (hts _ hlk.2.1) (hts _ hlk.2.2.1) (hts _ hlk.2.2.2) (by omega) (by omega) hC.1 hC.2 hd (k H locs ls hP hS hl)
theorem zi_mmin {g : zG} {κ : zK} {own : String} {cc : ByteArray} {nL d : Nat} (X : zC g κ own cc nL d) {pc pc' : Nat} {lv : List (Nat × Value)} {st : List Value} {μ : zMem} {idx : Nat} {x y : Int32} (hlk : Cond.methodLink own idx Lib.Math.min.name ∈ zgw ∧ Cond.static Lib.Math.min.name ∈ zgw ∧ Cond.initialized "java/lang/Math" ∈ zgw ∧ Cond.code Lib.Math.min.name Lib.Math.min.code 2 (some .int) ∈ zgw) (hst : (st.map fun v => v.category).sum ≤ 8) (hdp : 1 ≤ d) (hd : decode cc pc = .ok (.invokestatic idx, 3)) (hp : pc + 3 = pc') (k : zV g κ pc' lv (.int (if y < x then y else x) :: st) μ) : zV g κ pc lv (.int y :: .int x :: st) μ := by
  obtain ⟨⟨p, l, e, R, s, m⟩, ⟨args, below, meth, cx⟩, ⟨cells, slots, Q⟩, A⟩ := κ
  obtain ⟨hx, hb, hml, hown, hts, hKw, hSt, hA, hR, hC⟩ := X
  subst hp
  intro H locs ls hP hS hl
  exact va_mmin hx hb hl.1.symm hown (hts _ hlk.1) (hts _ hlk.2.1) (hts _ hlk.2.2.1) (hts _ hlk.2.2.2) (by omega) (by omega) hC.1 hC.2 hd (k H locs ls hP hS hl)
theorem zi_mabs {g : zG} {κ : zK} {own : String} {cc : ByteArray} {nL d : Nat} (X : zC g κ own cc nL d) {pc pc' : Nat} {lv : List (Nat × Value)} {st : List Value} {μ : zMem} {idx : Nat} {x : Int32} (hlk : Cond.methodLink own idx Lib.Math.abs.name ∈ zgw ∧ Cond.static Lib.Math.abs.name ∈ zgw ∧ Cond.initialized "java/lang/Math" ∈ zgw ∧ Cond.code Lib.Math.abs.name Lib.Math.abs.code 1 (some .int) ∈ zgw) (hst : (st.map fun v => v.category).sum ≤ 8) (hdp : 1 ≤ d) (hd : decode cc pc = .ok (.invokestatic idx, 3)) (hp : pc + 3 = pc') (k : zV g κ pc' lv (.int (if 0 ≤ x then x else 0 - x) :: st) μ) : zV g κ pc lv (.int x :: st) μ := by
  obtain ⟨⟨p, l, e, R, s, m⟩, ⟨args, below, meth, cx⟩, ⟨cells, slots, Q⟩, A⟩ := κ
  obtain ⟨hx, hb, hml, hown, hts, hKw, hSt, hA, hR, hC⟩ := X
  subst hp
  intro H locs ls hP hS hl
  exact va_mabs hx hb hl.1.symm hown (hts _ hlk.1) (hts _ hlk.2.1) (hts _ hlk.2.2.1) (hts _ hlk.2.2.2) (by omega) (by omega) hC.1 hC.2 hd (k H locs ls hP hS hl)
/-- a method that can be called at a place -/
def zLk (own : String) (idx : Nat) (y : MethodName) (bytes : ByteArray) (maxL : Nat) (ret : Option FieldType) (n : Nat) : Prop :=
  (Cond.methodLink own idx y ∈ zgw ∨ ∃ host, Cond.methodLinkNest own idx y host ∈ lw_tbl) ∧ Cond.initialized y.cls ∈ zgw ∧ Cond.code y bytes maxL ret ∈ zgw ∧ (y.cls ≠ "java/lang/invoke/MethodHandle" ∧ y.cls ≠ "java/lang/invoke/VarHandle" ∧ (parseMethodDescriptor y.desc).map (fun d => d.parameters.length) = some n) ∧ maxL ≤ 21
def zLkS (own : String) (idx : Nat) (y : MethodName) (bytes : ByteArray) (maxL : Nat) (ret : Option FieldType) (n : Nat) : Prop := zLk own idx y bytes maxL ret n ∧ Cond.static y ∈ zgw
def zLkV (own : String) (idx : Nat) (y : MethodName) (bytes : ByteArray) (maxL : Nat) (ret : Option FieldType) (n c : Nat) : Prop := zLk own idx y bytes maxL ret n ∧ Cond.instanceMethod y ∈ zgw ∧ ∃ (C : String) (T : u_T) (N : Nat), vwCl[c]? = some (C, T, N) ∧ Cond.selects C y y ∈ zgw
theorem zi_callSi {g : zG} {κ : zK} {own : String} {cc : ByteArray} {nL d : Nat} (X : zC g κ own cc nL d) {pc pc' : Nat} {lv : List (Nat × Value)} {st : List Value} {μ : zMem} {st0 : List Value} {idx n maxL d' : Nat} {y : MethodName} {bytes : ByteArray} {ty : FieldType}  (hlk : zLkS own idx y bytes maxL (some ty) n) (As : List Value) (hs : st0 = As.reverse ++ st) (hn : As.length = n) (hdp : d' + 1 ≤ d) (hst : (st.map fun v => v.category).sum ≤ 8) (hd : decode cc pc = .ok (.invokestatic idx, 3)) (hp : pc + 3 = pc') (k : zTi g y bytes maxL ty d' As μ (fun r μ' => zV g κ pc' lv (.int r :: st) μ')) : zV g κ pc lv st0 μ := by
  obtain ⟨⟨p, l, e, R, s, m⟩, ⟨args, below, meth, cx⟩, ⟨cells, slots, Q⟩, A⟩ := κ
  obtain ⟨hx, hb, hml, hown, hts, hKw, hSt, hA, hR, hC⟩ := X
  subst hp
  subst hs
  intro H locs ls hP hS hl
  have hAA : ∀ q, zA g q → A q := fun q ⟨k9, h9, e9⟩ => by rw [e9]; exact hA k9 h9
  have hrm : (zrm d').frames + 1 ≤ R.frames ∧ 8 + (maxL + 11) + (zrm d').locals ≤ R.locals := by
    have := hlk.1.2.2.2.2
    exact ⟨by show d' + 1 ≤ R.frames; omega, by show 8 + (maxL + 11) + 40 * d' ≤ R.locals; omega⟩
  rcases hlk.1.1 with h4 | ⟨host, h4⟩
  · have hcb := callB_of (ws' := zgw) (mc := 0) (ms := 0) (rm := zrm d') n hts (zgw_in hlk.1.2.2.1) rfl rfl rfl (hts _ hlk.1.2.1) (hts _ h4) hlk.1.2.2.2.1 hrm
    exact va_calli (va_runS (bytes := bytes) (maxL := maxL) (ret := (some ty)) (As := As) (rest := st) ⟨hx, hb, hml, hown, hts⟩ (k l) ⟨hcb, hts _ hlk.2⟩ ⟨zWd_blind g μ _, fun U hU hW => ⟨rfl, by rw [hU]; exact hP, hKw.warm hW, by rw [hU]; exact ((hSt.warm hW).kept hS.2.1).narrow hAA⟩⟩ rfl hn (hl.1.trans hml) rfl (lv_room hst) hd hC) hS (fun q _ h => hAA q h) hAA (fun r μ' t H1 locs1 ht _ hq hB _ _ hS1 => hq H1 locs1 ls (by rw [← ht]; exact hB.1) hS1 hl)
  · have hcb := va_cnB (ws' := zgw) (mc := 0) (ms := 0) (rm := zrm d') n hts (zgw_in hlk.1.2.2.1) rfl rfl rfl (hKw.2.2 _ h4 rfl) (hts _ hlk.1.2.1) hlk.1.2.2.2.1 hrm
    exact va_calli (va_runSN (bytes := bytes) (maxL := maxL) (ret := (some ty)) (As := As) (rest := st) ⟨hx, hb, hml, hown, hts⟩ (k l) ⟨hcb, hts _ hlk.2, trivial⟩ ⟨zWd_blind g μ _, fun U hU hW => ⟨rfl, by rw [hU]; exact hP, hKw.warm hW, by rw [hU]; exact ((hSt.warm hW).kept hS.2.1).narrow hAA⟩⟩ rfl hn (hl.1.trans hml) rfl (lv_room hst) hd hC) hS (fun q _ h => hAA q h) hAA (fun r μ' t H1 locs1 ht _ hq hB _ _ hS1 => hq H1 locs1 ls (by rw [← ht]; exact hB.1) hS1 hl)
theorem zi_callVi {g : zG} {κ : zK} {own : String} {cc : ByteArray} {nL d : Nat} (X : zC g κ own cc nL d) {pc pc' : Nat} {lv : List (Nat × Value)} {st : List Value} {μ : zMem} {st0 : List Value} {idx n maxL d' : Nat} {y : MethodName} {bytes : ByteArray} {ty : FieldType} {c k0 : Nat} (hlk : zLkV own idx y bytes maxL (some ty) n c) (hk : zkd k0 = c) (hc : c < 7) (As : List Value) (hs : st0 = As.reverse ++ .ref (zad g k0) :: st) (hn : As.length = n) (hdp : d' + 1 ≤ d) (hst : (st.map fun v => v.category).sum ≤ 8) (hd : decode cc pc = .ok (.invokevirtual idx, 3)) (hp : pc + 3 = pc') (k : zTi g y bytes maxL ty d' (.ref (zad g k0) :: As) μ (fun r μ' => zV g κ pc' lv (.int r :: st) μ')) : zV g κ pc lv st0 μ := by
  obtain ⟨⟨p, l, e, R, s, m⟩, ⟨args, below, meth, cx⟩, ⟨cells, slots, Q⟩, A⟩ := κ
  obtain ⟨hx, hb, hml, hown, hts, hKw, hSt, hA, hR, hC⟩ := X
  subst hp
  subst hs
  intro H locs ls hP hS hl
  have hAA : ∀ q, zA g q → A q := fun q ⟨k9, h9, e9⟩ => by rw [e9]; exact hA k9 h9
  have hrm : (zrm d').frames + 1 ≤ R.frames ∧ 8 + (maxL + 11) + (zrm d').locals ≤ R.locals := by
    have := hlk.1.2.2.2.2
    exact ⟨by show d' + 1 ≤ R.frames; omega, by show 8 + (maxL + 11) + 40 * d' ≤ R.locals; omega⟩
  obtain ⟨C, T, N, hCl, hsel⟩ := hlk.2.2
  have he := zwd_at (g := g) (μ := μ) (zkd_lt hk (by omega))
  rw [zcell_o _ hk hc] at he
  have hrv := va_recv hKw.1 hP hCl he
  rcases hlk.1.1 with h4 | ⟨host, h4⟩
  · have hcb := callB_of (ws' := zgw) (mc := 0) (ms := 0) (rm := zrm d') n hts (zgw_in hlk.1.2.2.1) rfl rfl rfl (hts _ hlk.1.2.1) (hts _ h4) hlk.1.2.2.2.1 hrm
    exact va_calli (va_runV (C := C) (bytes := bytes) (maxL := maxL) (ret := (some ty)) (As := As) (rest := st) ⟨hx, hb, hml, hown, hts⟩ (k l) ⟨hcb, hts _ hlk.2.1, hts _ hsel⟩ ⟨zWd_blind g μ _, hrv, fun U hU hW => ⟨rfl, by rw [hU]; exact hP, hKw.warm hW, by rw [hU]; exact ((hSt.warm hW).kept hS.2.1).narrow hAA⟩⟩ rfl hn (hl.1.trans hml) rfl (lv_room hst) hd hC) hS (fun q _ h => hAA q h) hAA (fun r μ' t H1 locs1 ht _ hq hB _ _ hS1 => hq H1 locs1 ls (by rw [← ht]; exact hB.1) hS1 hl)
  · have hcb := va_cnB (ws' := zgw) (mc := 0) (ms := 0) (rm := zrm d') n hts (zgw_in hlk.1.2.2.1) rfl rfl rfl (hKw.2.2 _ h4 rfl) (hts _ hlk.1.2.1) hlk.1.2.2.2.1 hrm
    exact va_calli (va_runVN (C := C) (bytes := bytes) (maxL := maxL) (ret := (some ty)) (As := As) (rest := st) ⟨hx, hb, hml, hown, hts⟩ (k l) ⟨hcb, hts _ hlk.2.1, hts _ hsel⟩ ⟨zWd_blind g μ _, hrv, fun U hU hW => ⟨rfl, by rw [hU]; exact hP, hKw.warm hW, by rw [hU]; exact ((hSt.warm hW).kept hS.2.1).narrow hAA⟩⟩ rfl hn (hl.1.trans hml) rfl (lv_room hst) hd hC) hS (fun q _ h => hAA q h) hAA (fun r μ' t H1 locs1 ht _ hq hB _ _ hS1 => hq H1 locs1 ls (by rw [← ht]; exact hB.1) hS1 hl)
theorem zi_callSl {g : zG} {κ : zK} {own : String} {cc : ByteArray} {nL d : Nat} (X : zC g κ own cc nL d) {pc pc' : Nat} {lv : List (Nat × Value)} {st : List Value} {μ : zMem} {st0 : List Value} {idx n maxL d' : Nat} {y : MethodName} {bytes : ByteArray}   (hlk : zLkS own idx y bytes maxL (some .long) n) (As : List Value) (hs : st0 = As.reverse ++ st) (hn : As.length = n) (hdp : d' + 1 ≤ d) (hst : (st.map fun v => v.category).sum ≤ 8) (hd : decode cc pc = .ok (.invokestatic idx, 3)) (hp : pc + 3 = pc') (k : zTl g y bytes maxL d' As μ (fun r μ' => zV g κ pc' lv (.long r :: st) μ')) : zV g κ pc lv st0 μ := by
  obtain ⟨⟨p, l, e, R, s, m⟩, ⟨args, below, meth, cx⟩, ⟨cells, slots, Q⟩, A⟩ := κ
  obtain ⟨hx, hb, hml, hown, hts, hKw, hSt, hA, hR, hC⟩ := X
  subst hp
  subst hs
  intro H locs ls hP hS hl
  have hAA : ∀ q, zA g q → A q := fun q ⟨k9, h9, e9⟩ => by rw [e9]; exact hA k9 h9
  have hrm : (zrm d').frames + 1 ≤ R.frames ∧ 8 + (maxL + 11) + (zrm d').locals ≤ R.locals := by
    have := hlk.1.2.2.2.2
    exact ⟨by show d' + 1 ≤ R.frames; omega, by show 8 + (maxL + 11) + 40 * d' ≤ R.locals; omega⟩
  rcases hlk.1.1 with h4 | ⟨host, h4⟩
  · have hcb := callB_of (ws' := zgw) (mc := 0) (ms := 0) (rm := zrm d') n hts (zgw_in hlk.1.2.2.1) rfl rfl rfl (hts _ hlk.1.2.1) (hts _ h4) hlk.1.2.2.2.1 hrm
    exact va_calll (va_runS (bytes := bytes) (maxL := maxL) (ret := (some .long)) (As := As) (rest := st) ⟨hx, hb, hml, hown, hts⟩ (k l) ⟨hcb, hts _ hlk.2⟩ ⟨zWd_blind g μ _, fun U hU hW => ⟨rfl, by rw [hU]; exact hP, hKw.warm hW, by rw [hU]; exact ((hSt.warm hW).kept hS.2.1).narrow hAA⟩⟩ rfl hn (hl.1.trans hml) rfl (lv_room hst) hd hC) hS (fun q _ h => hAA q h) hAA (fun r μ' t H1 locs1 ht _ hq hB _ _ hS1 => hq H1 locs1 ls (by rw [← ht]; exact hB.1) hS1 hl)
  · have hcb := va_cnB (ws' := zgw) (mc := 0) (ms := 0) (rm := zrm d') n hts (zgw_in hlk.1.2.2.1) rfl rfl rfl (hKw.2.2 _ h4 rfl) (hts _ hlk.1.2.1) hlk.1.2.2.2.1 hrm
    exact va_calll (va_runSN (bytes := bytes) (maxL := maxL) (ret := (some .long)) (As := As) (rest := st) ⟨hx, hb, hml, hown, hts⟩ (k l) ⟨hcb, hts _ hlk.2, trivial⟩ ⟨zWd_blind g μ _, fun U hU hW => ⟨rfl, by rw [hU]; exact hP, hKw.warm hW, by rw [hU]; exact ((hSt.warm hW).kept hS.2.1).narrow hAA⟩⟩ rfl hn (hl.1.trans hml) rfl (lv_room hst) hd hC) hS (fun q _ h => hAA q h) hAA (fun r μ' t H1 locs1 ht _ hq hB _ _ hS1 => hq H1 locs1 ls (by rw [← ht]; exact hB.1) hS1 hl)
theorem zi_callVl {g : zG} {κ : zK} {own : String} {cc : ByteArray} {nL d : Nat} (X : zC g κ own cc nL d) {pc pc' : Nat} {lv : List (Nat × Value)} {st : List Value} {μ : zMem} {st0 : List Value} {idx n maxL d' : Nat} {y : MethodName} {bytes : ByteArray}  {c k0 : Nat} (hlk : zLkV own idx y bytes maxL (some .long) n c) (hk : zkd k0 = c) (hc : c < 7) (As : List Value) (hs : st0 = As.reverse ++ .ref (zad g k0) :: st) (hn : As.length = n) (hdp : d' + 1 ≤ d) (hst : (st.map fun v => v.category).sum ≤ 8) (hd : decode cc pc = .ok (.invokevirtual idx, 3)) (hp : pc + 3 = pc') (k : zTl g y bytes maxL d' (.ref (zad g k0) :: As) μ (fun r μ' => zV g κ pc' lv (.long r :: st) μ')) : zV g κ pc lv st0 μ := by
  obtain ⟨⟨p, l, e, R, s, m⟩, ⟨args, below, meth, cx⟩, ⟨cells, slots, Q⟩, A⟩ := κ
  obtain ⟨hx, hb, hml, hown, hts, hKw, hSt, hA, hR, hC⟩ := X
  subst hp
  subst hs
  intro H locs ls hP hS hl
  have hAA : ∀ q, zA g q → A q := fun q ⟨k9, h9, e9⟩ => by rw [e9]; exact hA k9 h9
  have hrm : (zrm d').frames + 1 ≤ R.frames ∧ 8 + (maxL + 11) + (zrm d').locals ≤ R.locals := by
    have := hlk.1.2.2.2.2
    exact ⟨by show d' + 1 ≤ R.frames; omega, by show 8 + (maxL + 11) + 40 * d' ≤ R.locals; omega⟩
  obtain ⟨C, T, N, hCl, hsel⟩ := hlk.2.2
  have he := zwd_at (g := g) (μ := μ) (zkd_lt hk (by omega))
  rw [zcell_o _ hk hc] at he
  have hrv := va_recv hKw.1 hP hCl he
  rcases hlk.1.1 with h4 | ⟨host, h4⟩
  · have hcb := callB_of (ws' := zgw) (mc := 0) (ms := 0) (rm := zrm d') n hts (zgw_in hlk.1.2.2.1) rfl rfl rfl (hts _ hlk.1.2.1) (hts _ h4) hlk.1.2.2.2.1 hrm
    exact va_calll (va_runV (C := C) (bytes := bytes) (maxL := maxL) (ret := (some .long)) (As := As) (rest := st) ⟨hx, hb, hml, hown, hts⟩ (k l) ⟨hcb, hts _ hlk.2.1, hts _ hsel⟩ ⟨zWd_blind g μ _, hrv, fun U hU hW => ⟨rfl, by rw [hU]; exact hP, hKw.warm hW, by rw [hU]; exact ((hSt.warm hW).kept hS.2.1).narrow hAA⟩⟩ rfl hn (hl.1.trans hml) rfl (lv_room hst) hd hC) hS (fun q _ h => hAA q h) hAA (fun r μ' t H1 locs1 ht _ hq hB _ _ hS1 => hq H1 locs1 ls (by rw [← ht]; exact hB.1) hS1 hl)
  · have hcb := va_cnB (ws' := zgw) (mc := 0) (ms := 0) (rm := zrm d') n hts (zgw_in hlk.1.2.2.1) rfl rfl rfl (hKw.2.2 _ h4 rfl) (hts _ hlk.1.2.1) hlk.1.2.2.2.1 hrm
    exact va_calll (va_runVN (C := C) (bytes := bytes) (maxL := maxL) (ret := (some .long)) (As := As) (rest := st) ⟨hx, hb, hml, hown, hts⟩ (k l) ⟨hcb, hts _ hlk.2.1, hts _ hsel⟩ ⟨zWd_blind g μ _, hrv, fun U hU hW => ⟨rfl, by rw [hU]; exact hP, hKw.warm hW, by rw [hU]; exact ((hSt.warm hW).kept hS.2.1).narrow hAA⟩⟩ rfl hn (hl.1.trans hml) rfl (lv_room hst) hd hC) hS (fun q _ h => hAA q h) hAA (fun r μ' t H1 locs1 ht _ hq hB _ _ hS1 => hq H1 locs1 ls (by rw [← ht]; exact hB.1) hS1 hl)
theorem zi_callSv {g : zG} {κ : zK} {own : String} {cc : ByteArray} {nL d : Nat} (X : zC g κ own cc nL d) {pc pc' : Nat} {lv : List (Nat × Value)} {st : List Value} {μ : zMem} {st0 : List Value} {idx n maxL d' : Nat} {y : MethodName} {bytes : ByteArray}   (hlk : zLkS own idx y bytes maxL none n) (As : List Value) (hs : st0 = As.reverse ++ st) (hn : As.length = n) (hdp : d' + 1 ≤ d) (hst : (st.map fun v => v.category).sum ≤ 8) (hd : decode cc pc = .ok (.invokestatic idx, 3)) (hp : pc + 3 = pc') (k : zTv g y bytes maxL d' As μ (fun _ μ' => zV g κ pc' lv st μ')) : zV g κ pc lv st0 μ := by
  obtain ⟨⟨p, l, e, R, s, m⟩, ⟨args, below, meth, cx⟩, ⟨cells, slots, Q⟩, A⟩ := κ
  obtain ⟨hx, hb, hml, hown, hts, hKw, hSt, hA, hR, hC⟩ := X
  subst hp
  subst hs
  intro H locs ls hP hS hl
  have hAA : ∀ q, zA g q → A q := fun q ⟨k9, h9, e9⟩ => by rw [e9]; exact hA k9 h9
  have hrm : (zrm d').frames + 1 ≤ R.frames ∧ 8 + (maxL + 11) + (zrm d').locals ≤ R.locals := by
    have := hlk.1.2.2.2.2
    exact ⟨by show d' + 1 ≤ R.frames; omega, by show 8 + (maxL + 11) + 40 * d' ≤ R.locals; omega⟩
  rcases hlk.1.1 with h4 | ⟨host, h4⟩
  · have hcb := callB_of (ws' := zgw) (mc := 0) (ms := 0) (rm := zrm d') n hts (zgw_in hlk.1.2.2.1) rfl rfl rfl (hts _ hlk.1.2.1) (hts _ h4) hlk.1.2.2.2.1 hrm
    exact va_callv (va_runS (bytes := bytes) (maxL := maxL) (ret := none) (As := As) (rest := st) ⟨hx, hb, hml, hown, hts⟩ (k l) ⟨hcb, hts _ hlk.2⟩ ⟨zWd_blind g μ _, fun U hU hW => ⟨rfl, by rw [hU]; exact hP, hKw.warm hW, by rw [hU]; exact ((hSt.warm hW).kept hS.2.1).narrow hAA⟩⟩ rfl hn (hl.1.trans hml) rfl (lv_room hst) hd hC) hS (fun q _ h => hAA q h) hAA (fun μ' t H1 locs1 ht _ hq hB _ _ hS1 => hq H1 locs1 ls (by rw [← ht]; exact hB.1) hS1 hl)
  · have hcb := va_cnB (ws' := zgw) (mc := 0) (ms := 0) (rm := zrm d') n hts (zgw_in hlk.1.2.2.1) rfl rfl rfl (hKw.2.2 _ h4 rfl) (hts _ hlk.1.2.1) hlk.1.2.2.2.1 hrm
    exact va_callv (va_runSN (bytes := bytes) (maxL := maxL) (ret := none) (As := As) (rest := st) ⟨hx, hb, hml, hown, hts⟩ (k l) ⟨hcb, hts _ hlk.2, trivial⟩ ⟨zWd_blind g μ _, fun U hU hW => ⟨rfl, by rw [hU]; exact hP, hKw.warm hW, by rw [hU]; exact ((hSt.warm hW).kept hS.2.1).narrow hAA⟩⟩ rfl hn (hl.1.trans hml) rfl (lv_room hst) hd hC) hS (fun q _ h => hAA q h) hAA (fun μ' t H1 locs1 ht _ hq hB _ _ hS1 => hq H1 locs1 ls (by rw [← ht]; exact hB.1) hS1 hl)
theorem zi_callVv {g : zG} {κ : zK} {own : String} {cc : ByteArray} {nL d : Nat} (X : zC g κ own cc nL d) {pc pc' : Nat} {lv : List (Nat × Value)} {st : List Value} {μ : zMem} {st0 : List Value} {idx n maxL d' : Nat} {y : MethodName} {bytes : ByteArray}  {c k0 : Nat} (hlk : zLkV own idx y bytes maxL none n c) (hk : zkd k0 = c) (hc : c < 7) (As : List Value) (hs : st0 = As.reverse ++ .ref (zad g k0) :: st) (hn : As.length = n) (hdp : d' + 1 ≤ d) (hst : (st.map fun v => v.category).sum ≤ 8) (hd : decode cc pc = .ok (.invokevirtual idx, 3)) (hp : pc + 3 = pc') (k : zTv g y bytes maxL d' (.ref (zad g k0) :: As) μ (fun _ μ' => zV g κ pc' lv st μ')) : zV g κ pc lv st0 μ := by
  obtain ⟨⟨p, l, e, R, s, m⟩, ⟨args, below, meth, cx⟩, ⟨cells, slots, Q⟩, A⟩ := κ
  obtain ⟨hx, hb, hml, hown, hts, hKw, hSt, hA, hR, hC⟩ := X
  subst hp
  subst hs
  intro H locs ls hP hS hl
  have hAA : ∀ q, zA g q → A q := fun q ⟨k9, h9, e9⟩ => by rw [e9]; exact hA k9 h9
  have hrm : (zrm d').frames + 1 ≤ R.frames ∧ 8 + (maxL + 11) + (zrm d').locals ≤ R.locals := by
    have := hlk.1.2.2.2.2
    exact ⟨by show d' + 1 ≤ R.frames; omega, by show 8 + (maxL + 11) + 40 * d' ≤ R.locals; omega⟩
  obtain ⟨C, T, N, hCl, hsel⟩ := hlk.2.2
  have he := zwd_at (g := g) (μ := μ) (zkd_lt hk (by omega))
  rw [zcell_o _ hk hc] at he
  have hrv := va_recv hKw.1 hP hCl he
  rcases hlk.1.1 with h4 | ⟨host, h4⟩
  · have hcb := callB_of (ws' := zgw) (mc := 0) (ms := 0) (rm := zrm d') n hts (zgw_in hlk.1.2.2.1) rfl rfl rfl (hts _ hlk.1.2.1) (hts _ h4) hlk.1.2.2.2.1 hrm
    exact va_callv (va_runV (C := C) (bytes := bytes) (maxL := maxL) (ret := none) (As := As) (rest := st) ⟨hx, hb, hml, hown, hts⟩ (k l) ⟨hcb, hts _ hlk.2.1, hts _ hsel⟩ ⟨zWd_blind g μ _, hrv, fun U hU hW => ⟨rfl, by rw [hU]; exact hP, hKw.warm hW, by rw [hU]; exact ((hSt.warm hW).kept hS.2.1).narrow hAA⟩⟩ rfl hn (hl.1.trans hml) rfl (lv_room hst) hd hC) hS (fun q _ h => hAA q h) hAA (fun μ' t H1 locs1 ht _ hq hB _ _ hS1 => hq H1 locs1 ls (by rw [← ht]; exact hB.1) hS1 hl)
  · have hcb := va_cnB (ws' := zgw) (mc := 0) (ms := 0) (rm := zrm d') n hts (zgw_in hlk.1.2.2.1) rfl rfl rfl (hKw.2.2 _ h4 rfl) (hts _ hlk.1.2.1) hlk.1.2.2.2.1 hrm
    exact va_callv (va_runVN (C := C) (bytes := bytes) (maxL := maxL) (ret := none) (As := As) (rest := st) ⟨hx, hb, hml, hown, hts⟩ (k l) ⟨hcb, hts _ hlk.2.1, hts _ hsel⟩ ⟨zWd_blind g μ _, hrv, fun U hU hW => ⟨rfl, by rw [hU]; exact hP, hKw.warm hW, by rw [hU]; exact ((hSt.warm hW).kept hS.2.1).narrow hAA⟩⟩ rfl hn (hl.1.trans hml) rfl (lv_room hst) hd hC) hS (fun q _ h => hAA q h) hAA (fun μ' t H1 locs1 ht _ hq hB _ _ hS1 => hq H1 locs1 ls (by rw [← ht]; exact hB.1) hS1 hl)
theorem zi_callSs {g : zG} {κ : zK} {own : String} {cc : ByteArray} {nL d : Nat} (X : zC g κ own cc nL d) {pc pc' : Nat} {lv : List (Nat × Value)} {st : List Value} {μ : zMem} {st0 : List Value} {idx n maxL d' : Nat} {y : MethodName} {bytes : ByteArray} {ty : FieldType}  (hlk : zLkS own idx y bytes maxL (some ty) n) (As : List Value) (hs : st0 = As.reverse ++ st) (hn : As.length = n) (hdp : d' + 1 ≤ d) (hst : (st.map fun v => v.category).sum ≤ 8) (hd : decode cc pc = .ok (.invokestatic idx, 3)) (hp : pc + 3 = pc') (k : zTs g y bytes maxL ty d' As μ (fun r μ' => zV g κ pc' lv (.ref (zak g r) :: st) μ')) : zV g κ pc lv st0 μ := by
  obtain ⟨⟨p, l, e, R, s, m⟩, ⟨args, below, meth, cx⟩, ⟨cells, slots, Q⟩, A⟩ := κ
  obtain ⟨hx, hb, hml, hown, hts, hKw, hSt, hA, hR, hC⟩ := X
  subst hp
  subst hs
  intro H locs ls hP hS hl
  have hAA : ∀ q, zA g q → A q := fun q ⟨k9, h9, e9⟩ => by rw [e9]; exact hA k9 h9
  have hrm : (zrm d').frames + 1 ≤ R.frames ∧ 8 + (maxL + 11) + (zrm d').locals ≤ R.locals := by
    have := hlk.1.2.2.2.2
    exact ⟨by show d' + 1 ≤ R.frames; omega, by show 8 + (maxL + 11) + 40 * d' ≤ R.locals; omega⟩
  rcases hlk.1.1 with h4 | ⟨host, h4⟩
  · have hcb := callB_of (ws' := zgw) (mc := 0) (ms := 0) (rm := zrm d') n hts (zgw_in hlk.1.2.2.1) rfl rfl rfl (hts _ hlk.1.2.1) (hts _ h4) hlk.1.2.2.2.1 hrm
    exact va_callr (va_runS (bytes := bytes) (maxL := maxL) (ret := (some ty)) (As := As) (rest := st) ⟨hx, hb, hml, hown, hts⟩ (k l) ⟨hcb, hts _ hlk.2⟩ ⟨zWd_blind g μ _, fun U hU hW => ⟨rfl, by rw [hU]; exact hP, hKw.warm hW, by rw [hU]; exact ((hSt.warm hW).kept hS.2.1).narrow hAA⟩⟩ rfl hn (hl.1.trans hml) rfl (lv_room hst) hd hC) hS (fun q _ h => hAA q h) hAA (fun u ra t H1 locs1 ht _ hq hB _ _ hS1 => by rw [hB.1]; exact hq H1 locs1 ls (by rw [← ht]; exact hB.2.1) hS1 hl)
  · have hcb := va_cnB (ws' := zgw) (mc := 0) (ms := 0) (rm := zrm d') n hts (zgw_in hlk.1.2.2.1) rfl rfl rfl (hKw.2.2 _ h4 rfl) (hts _ hlk.1.2.1) hlk.1.2.2.2.1 hrm
    exact va_callr (va_runSN (bytes := bytes) (maxL := maxL) (ret := (some ty)) (As := As) (rest := st) ⟨hx, hb, hml, hown, hts⟩ (k l) ⟨hcb, hts _ hlk.2, trivial⟩ ⟨zWd_blind g μ _, fun U hU hW => ⟨rfl, by rw [hU]; exact hP, hKw.warm hW, by rw [hU]; exact ((hSt.warm hW).kept hS.2.1).narrow hAA⟩⟩ rfl hn (hl.1.trans hml) rfl (lv_room hst) hd hC) hS (fun q _ h => hAA q h) hAA (fun u ra t H1 locs1 ht _ hq hB _ _ hS1 => by rw [hB.1]; exact hq H1 locs1 ls (by rw [← ht]; exact hB.2.1) hS1 hl)
theorem zTi_of {g : zG} {y : MethodName} {cc : ByteArray} {nL d : Nat} {ty : FieldType} {As : List Value} {μ : zMem} {P : Int32 → Prop} {Q : Int32 → zMem → Prop} (hty : ∀ v, P v → narrow ty (.int v) = .int v) (own : String) (hy : plainName y.cls = true) (ho : y.cls = own) (hlen : (lg_sl As).length ≤ nL)
    (body : ∀ κ : zK, zC g κ own cc nL d → (∀ pc lv r μ', decode cc pc = .ok (.ireturn, 1) → P r → Q r μ' → zV g κ pc lv [.int r] μ') → zV g κ 0 (lv_args 0 As) [] μ) : zTi g y cc nL ty d As μ Q := by
  intro l
  refine Met.ofW (cc := cc) (maxL := nL) (ret := (some ty)) hy rfl ?_
  intro p e s m args below meth c s₁ B hml hv
  obtain ⟨rfl, hP, hKw, hSt⟩ := hv
  have hx := B.exec
  have hb := B.bytes
  have hr := B.returns
  have hts0 := atoms_spec (ws := .code y cc nL (some ty) :: zgw) B.pre
  have hts : ∀ w ∈ zgw, w.before As.toArray s = true := fun w h => hts0 w (List.mem_cons_of_mem _ h)
  have hown : s.vm.findClass own = some m.cls := ho ▸ findClass_of_methodNamed B.named
  have hlocks := B.notSynchronized
  have hl := lv_entry As (n := nL) hlen
  rw [lg_entry_eq]
  generalize (lg_sl As ++ List.replicate (nL - (lg_sl As).length) Slot.unset).toArray = ls at hl ⊢
  have key := body ((p, l, e, zrm d, s, m), (As.toArray, below, meth, c), (0, 0, MQ below (va_Qi Q (zWd g) (zA g)) As.toArray s 0 0 (zA g)), zA g) ⟨hx, hb, hml, hown, hts, hKw, hSt, fun k h => ⟨k, h, rfl⟩, ⟨Nat.le_refl _, Nat.le_refl _⟩, ⟨Nat.le_refl _, Nat.le_refl _⟩⟩ ?_
  · exact key s.heap [] ls hP va_S.rf (by rw [hml]; exact hl)
  · intro pc lv r μ' hd hP1 hQ H locs ls hPw hS hl
    exact W.zret hx hb hr (hty r hP1) (fun t ht hW => ⟨⟨r, μ', rfl, hQ, zWd_ret hKw hSt hPw hS ht hW⟩, hS.F ht⟩) hS.2.2 hd
theorem zTl_of {g : zG} {y : MethodName} {cc : ByteArray} {nL d : Nat}  {As : List Value} {μ : zMem} {Q : Int64 → zMem → Prop} (own : String) (hy : plainName y.cls = true) (ho : y.cls = own) (hlen : (lg_sl As).length ≤ nL)
    (body : ∀ κ : zK, zC g κ own cc nL d → (∀ pc lv r μ', decode cc pc = .ok (.lreturn, 1) → Q r μ' → zV g κ pc lv [.long r] μ') → zV g κ 0 (lv_args 0 As) [] μ) : zTl g y cc nL d As μ Q := by
  intro l
  refine Met.ofW (cc := cc) (maxL := nL) (ret := (some .long)) hy rfl ?_
  intro p e s m args below meth c s₁ B hml hv
  obtain ⟨rfl, hP, hKw, hSt⟩ := hv
  have hx := B.exec
  have hb := B.bytes
  have hr := B.returns
  have hts0 := atoms_spec (ws := .code y cc nL (some .long) :: zgw) B.pre
  have hts : ∀ w ∈ zgw, w.before As.toArray s = true := fun w h => hts0 w (List.mem_cons_of_mem _ h)
  have hown : s.vm.findClass own = some m.cls := ho ▸ findClass_of_methodNamed B.named
  have hlocks := B.notSynchronized
  have hl := lv_entry As (n := nL) hlen
  rw [lg_entry_eq]
  generalize (lg_sl As ++ List.replicate (nL - (lg_sl As).length) Slot.unset).toArray = ls at hl ⊢
  have key := body ((p, l, e, zrm d, s, m), (As.toArray, below, meth, c), (0, 0, MQ below (va_Ql Q (zWd g) (zA g)) As.toArray s 0 0 (zA g)), zA g) ⟨hx, hb, hml, hown, hts, hKw, hSt, fun k h => ⟨k, h, rfl⟩, ⟨Nat.le_refl _, Nat.le_refl _⟩, ⟨Nat.le_refl _, Nat.le_refl _⟩⟩ ?_
  · exact key s.heap [] ls hP va_S.rf (by rw [hml]; exact hl)
  · intro pc lv r μ' hd hQ H locs ls hPw hS hl
    exact W.lret hx hb hr (fun t ht hW => ⟨⟨r, μ', rfl, hQ, zWd_ret hKw hSt hPw hS ht hW⟩, hS.F ht⟩) hS.2.2 hd
theorem zTv_of {g : zG} {y : MethodName} {cc : ByteArray} {nL d : Nat}  {As : List Value} {μ : zMem} {Q : Unit → zMem → Prop} (own : String) (hy : plainName y.cls = true) (ho : y.cls = own) (hlen : (lg_sl As).length ≤ nL)
    (body : ∀ κ : zK, zC g κ own cc nL d → (∀ pc lv μ', decode cc pc = .ok (.return_, 1) → Q () μ' → zV g κ pc lv [] μ') → zV g κ 0 (lv_args 0 As) [] μ) : zTv g y cc nL d As μ Q := by
  intro l
  refine Met.ofW (cc := cc) (maxL := nL) (ret := none) hy rfl ?_
  intro p e s m args below meth c s₁ B hml hv
  obtain ⟨rfl, hP, hKw, hSt⟩ := hv
  have hx := B.exec
  have hb := B.bytes
  have hr := B.returns
  have hts0 := atoms_spec (ws := .code y cc nL none :: zgw) B.pre
  have hts : ∀ w ∈ zgw, w.before As.toArray s = true := fun w h => hts0 w (List.mem_cons_of_mem _ h)
  have hown : s.vm.findClass own = some m.cls := ho ▸ findClass_of_methodNamed B.named
  have hlocks := B.notSynchronized
  have hl := lv_entry As (n := nL) hlen
  rw [lg_entry_eq]
  generalize (lg_sl As ++ List.replicate (nL - (lg_sl As).length) Slot.unset).toArray = ls at hl ⊢
  have key := body ((p, l, e, zrm d, s, m), (As.toArray, below, meth, c), (0, 0, MQ below (va_Qv (Q ()) (zWd g) (zA g)) As.toArray s 0 0 (zA g)), zA g) ⟨hx, hb, hml, hown, hts, hKw, hSt, fun k h => ⟨k, h, rfl⟩, ⟨Nat.le_refl _, Nat.le_refl _⟩, ⟨Nat.le_refl _, Nat.le_refl _⟩⟩ ?_
  · exact key s.heap [] ls hP va_S.rf (by rw [hml]; exact hl)
  · intro pc lv μ' hd hQ H locs ls hPw hS hl
    exact W.vret hx hb hr (fun t ht hW => ⟨⟨μ', rfl, hQ, zWd_ret hKw hSt hPw hS ht hW⟩, hS.F ht⟩) hS.2.2 hd
theorem zTs_of {g : zG} {y : MethodName} {cc : ByteArray} {nL d : Nat} {ty : FieldType} {As : List Value} {μ : zMem} {Q : Nat → zMem → Prop} (hty : ∃ n, ty = .object n) (own : String) (hy : plainName y.cls = true) (ho : y.cls = own) (hlen : (lg_sl As).length ≤ nL)
    (body : ∀ κ : zK, zC g κ own cc nL d → (∀ pc lv r μ', decode cc pc = .ok (.areturn, 1) → Q r μ' → zV g κ pc lv [.ref (zak g r)] μ') → zV g κ 0 (lv_args 0 As) [] μ) : zTs g y cc nL ty d As μ Q := by
  intro l
  refine Met.ofW (cc := cc) (maxL := nL) (ret := (some ty)) hy rfl ?_
  intro p e s m args below meth c s₁ B hml hv
  obtain ⟨rfl, hP, hKw, hSt⟩ := hv
  have hx := B.exec
  have hb := B.bytes
  have hr := B.returns
  have hts0 := atoms_spec (ws := .code y cc nL (some ty) :: zgw) B.pre
  have hts : ∀ w ∈ zgw, w.before As.toArray s = true := fun w h => hts0 w (List.mem_cons_of_mem _ h)
  have hown : s.vm.findClass own = some m.cls := ho ▸ findClass_of_methodNamed B.named
  have hlocks := B.notSynchronized
  have hl := lv_entry As (n := nL) hlen
  rw [lg_entry_eq]
  generalize (lg_sl As ++ List.replicate (nL - (lg_sl As).length) Slot.unset).toArray = ls at hl ⊢
  have key := body ((p, l, e, zrm d, s, m), (As.toArray, below, meth, c), (0, 0, MQ below (va_Qr (S := Nat × zMem) (fun u => Q u.1 u.2) (fun u a t => a = zak g u.1 ∧ zWd g u.2 t) (zA g)) As.toArray s 0 0 (zA g)), zA g) ⟨hx, hb, hml, hown, hts, hKw, hSt, fun k h => ⟨k, h, rfl⟩, ⟨Nat.le_refl _, Nat.le_refl _⟩, ⟨Nat.le_refl _, Nat.le_refl _⟩⟩ ?_
  · exact key s.heap [] ls hP va_S.rf (by rw [hml]; exact hl)
  · intro pc lv r μ' hd hQ H locs ls hPw hS hl
    exact W.aret hx hb hr (Or.inl hty) (fun t ht hW => ⟨⟨(r, μ'), _, rfl, hQ, rfl, zWd_ret hKw hSt hPw hS ht hW⟩, hS.F ht⟩) hS.2.2 hd
end
