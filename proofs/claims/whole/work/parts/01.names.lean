-- ===== PART A: goes FIRST, ahead of the names: the tables' words, and 'selects' of the private methods out of them =====
/-- a private method of a class that the tables say can be made, by its rows of tables_1 -/
def lw_okq (q : MethodName × Nat) : Prop := (q.1.cls ≠ "java/lang/invoke/MethodHandle" ∧ q.1.cls ≠ "java/lang/invoke/VarHandle") ∧ Cond.instantiable q.1.cls q.2 ∈ tables_1 ∧ Cond.privateMethod q.1 ∈ tables_1 ∧ Cond.instanceMethod q.1 ∈ tables_1
theorem lw_p0 : lw_okq (⟨"SmashedHours$Script", "step", "()V"⟩, 8) := ⟨⟨by decide +kernel, by decide +kernel⟩, List.mem_of_getElem? (i := 21) (by decide +kernel), List.mem_of_getElem? (i := 299) (by decide +kernel), List.mem_of_getElem? (i := 300) (by decide +kernel)⟩
theorem lw_p1 : lw_okq (⟨"SmashedHours$Script", "readNumber", "()Z"⟩, 8) := ⟨⟨by decide +kernel, by decide +kernel⟩, List.mem_of_getElem? (i := 21) (by decide +kernel), List.mem_of_getElem? (i := 306) (by decide +kernel), List.mem_of_getElem? (i := 307) (by decide +kernel)⟩
theorem lw_p2 : lw_okq (⟨"SmashedHours$Script", "readPerson", "()Z"⟩, 8) := ⟨⟨by decide +kernel, by decide +kernel⟩, List.mem_of_getElem? (i := 21) (by decide +kernel), List.mem_of_getElem? (i := 310) (by decide +kernel), List.mem_of_getElem? (i := 311) (by decide +kernel)⟩
theorem lw_p3 : lw_okq (⟨"SmashedHours$Script", "stepToNumber", "(II)Z"⟩, 8) := ⟨⟨by decide +kernel, by decide +kernel⟩, List.mem_of_getElem? (i := 21) (by decide +kernel), List.mem_of_getElem? (i := 314) (by decide +kernel), List.mem_of_getElem? (i := 315) (by decide +kernel)⟩
theorem lw_p4 : lw_okq (⟨"SmashedHours$Script", "stepToEnd", "()Z"⟩, 8) := ⟨⟨by decide +kernel, by decide +kernel⟩, List.mem_of_getElem? (i := 21) (by decide +kernel), List.mem_of_getElem? (i := 319) (by decide +kernel), List.mem_of_getElem? (i := 320) (by decide +kernel)⟩
theorem lw_p5 : lw_okq (⟨"SmashedHours$Script", "readWants", "()Z"⟩, 8) := ⟨⟨by decide +kernel, by decide +kernel⟩, List.mem_of_getElem? (i := 21) (by decide +kernel), List.mem_of_getElem? (i := 331) (by decide +kernel), List.mem_of_getElem? (i := 332) (by decide +kernel)⟩
theorem lw_p6 : lw_okq (⟨"SmashedHours$Script", "readLaw", "()Z"⟩, 8) := ⟨⟨by decide +kernel, by decide +kernel⟩, List.mem_of_getElem? (i := 21) (by decide +kernel), List.mem_of_getElem? (i := 347) (by decide +kernel), List.mem_of_getElem? (i := 348) (by decide +kernel)⟩
theorem lw_p7 : lw_okq (⟨"SmashedHours$Silk", "lay", "([II)V"⟩, 9) := ⟨⟨by decide +kernel, by decide +kernel⟩, List.mem_of_getElem? (i := 162) (by decide +kernel), List.mem_of_getElem? (i := 419) (by decide +kernel), List.mem_of_getElem? (i := 420) (by decide +kernel)⟩
theorem lw_p8 : lw_okq (⟨"SmashedHours$Silk", "aimAll", "(I)I"⟩, 9) := ⟨⟨by decide +kernel, by decide +kernel⟩, List.mem_of_getElem? (i := 162) (by decide +kernel), List.mem_of_getElem? (i := 425) (by decide +kernel), List.mem_of_getElem? (i := 426) (by decide +kernel)⟩
theorem lw_p9 : lw_okq (⟨"SmashedHours$Silk", "aimOf", "(II)I"⟩, 9) := ⟨⟨by decide +kernel, by decide +kernel⟩, List.mem_of_getElem? (i := 162) (by decide +kernel), List.mem_of_getElem? (i := 429) (by decide +kernel), List.mem_of_getElem? (i := 430) (by decide +kernel)⟩
theorem lw_p10 : lw_okq (⟨"SmashedHours$Silk", "distance", "(III)I"⟩, 9) := ⟨⟨by decide +kernel, by decide +kernel⟩, List.mem_of_getElem? (i := 162) (by decide +kernel), List.mem_of_getElem? (i := 433) (by decide +kernel), List.mem_of_getElem? (i := 434) (by decide +kernel)⟩
theorem lw_p11 : lw_okq (⟨"SmashedHours$Silk", "goRound", "()V"⟩, 9) := ⟨⟨by decide +kernel, by decide +kernel⟩, List.mem_of_getElem? (i := 162) (by decide +kernel), List.mem_of_getElem? (i := 440) (by decide +kernel), List.mem_of_getElem? (i := 441) (by decide +kernel)⟩
theorem lw_p12 : lw_okq (⟨"SmashedHours$Silk", "lowestLeft", "()I"⟩, 9) := ⟨⟨by decide +kernel, by decide +kernel⟩, List.mem_of_getElem? (i := 162) (by decide +kernel), List.mem_of_getElem? (i := 444) (by decide +kernel), List.mem_of_getElem? (i := 445) (by decide +kernel)⟩
theorem lw_p13 : lw_okq (⟨"SmashedHours$Silk", "letOut", "(I)V"⟩, 9) := ⟨⟨by decide +kernel, by decide +kernel⟩, List.mem_of_getElem? (i := 162) (by decide +kernel), List.mem_of_getElem? (i := 448) (by decide +kernel), List.mem_of_getElem? (i := 449) (by decide +kernel)⟩
theorem lw_p14 : lw_okq (⟨"SmashedHours$Silk", "smash", "(I)V"⟩, 9) := ⟨⟨by decide +kernel, by decide +kernel⟩, List.mem_of_getElem? (i := 162) (by decide +kernel), List.mem_of_getElem? (i := 452) (by decide +kernel), List.mem_of_getElem? (i := 453) (by decide +kernel)⟩
theorem lw_p15 : lw_okq (⟨"SmashedHours", "servedOf", "(I)I"⟩, 14) := ⟨⟨by decide +kernel, by decide +kernel⟩, List.mem_of_getElem? (i := 13) (by decide +kernel), List.mem_of_getElem? (i := 499) (by decide +kernel), List.mem_of_getElem? (i := 500) (by decide +kernel)⟩
def lw_privs_1 : List (MethodName × Nat) := [(⟨"SmashedHours$Script", "step", "()V"⟩, 8), (⟨"SmashedHours$Script", "readNumber", "()Z"⟩, 8), (⟨"SmashedHours$Script", "readPerson", "()Z"⟩, 8), (⟨"SmashedHours$Script", "stepToNumber", "(II)Z"⟩, 8), (⟨"SmashedHours$Script", "stepToEnd", "()Z"⟩, 8), (⟨"SmashedHours$Script", "readWants", "()Z"⟩, 8), (⟨"SmashedHours$Script", "readLaw", "()Z"⟩, 8), (⟨"SmashedHours$Silk", "lay", "([II)V"⟩, 9), (⟨"SmashedHours$Silk", "aimAll", "(I)I"⟩, 9), (⟨"SmashedHours$Silk", "aimOf", "(II)I"⟩, 9), (⟨"SmashedHours$Silk", "distance", "(III)I"⟩, 9), (⟨"SmashedHours$Silk", "goRound", "()V"⟩, 9), (⟨"SmashedHours$Silk", "lowestLeft", "()I"⟩, 9), (⟨"SmashedHours$Silk", "letOut", "(I)V"⟩, 9), (⟨"SmashedHours$Silk", "smash", "(I)V"⟩, 9), (⟨"SmashedHours", "servedOf", "(I)I"⟩, 14)]
theorem lw_r1 : ∀ q ∈ lw_privs_1, lw_okq q := List.forall_mem_cons.mpr ⟨lw_p0, List.forall_mem_cons.mpr ⟨lw_p1, List.forall_mem_cons.mpr ⟨lw_p2, List.forall_mem_cons.mpr ⟨lw_p3, List.forall_mem_cons.mpr ⟨lw_p4, List.forall_mem_cons.mpr ⟨lw_p5, List.forall_mem_cons.mpr ⟨lw_p6, List.forall_mem_cons.mpr ⟨lw_p7, List.forall_mem_cons.mpr ⟨lw_p8, List.forall_mem_cons.mpr ⟨lw_p9, List.forall_mem_cons.mpr ⟨lw_p10, List.forall_mem_cons.mpr ⟨lw_p11, List.forall_mem_cons.mpr ⟨lw_p12, List.forall_mem_cons.mpr ⟨lw_p13, List.forall_mem_cons.mpr ⟨lw_p14, List.forall_mem_cons.mpr ⟨lw_p15, fun _ h => absurd h List.not_mem_nil⟩⟩⟩⟩⟩⟩⟩⟩⟩⟩⟩⟩⟩⟩⟩⟩
theorem lw_p16 : lw_okq (⟨"SmashedHours$Sharing", "bestFrom", "(III)I"⟩, 2) := ⟨⟨by decide +kernel, by decide +kernel⟩, List.mem_of_getElem? (i := 202) (by decide +kernel), List.mem_of_getElem? (i := 524) (by decide +kernel), List.mem_of_getElem? (i := 525) (by decide +kernel)⟩
theorem lw_p17 : lw_okq (⟨"SmashedHours$Sharing", "firstFor", "(III)I"⟩, 2) := ⟨⟨by decide +kernel, by decide +kernel⟩, List.mem_of_getElem? (i := 202) (by decide +kernel), List.mem_of_getElem? (i := 540) (by decide +kernel), List.mem_of_getElem? (i := 541) (by decide +kernel)⟩
theorem lw_p18 : lw_okq (⟨"SmashedHours$Lumps", "hoursOf", "(I)I"⟩, 2) := ⟨⟨by decide +kernel, by decide +kernel⟩, List.mem_of_getElem? (i := 216) (by decide +kernel), List.mem_of_getElem? (i := 571) (by decide +kernel), List.mem_of_getElem? (i := 572) (by decide +kernel)⟩
theorem lw_p19 : lw_okq (⟨"SmashedHours", "allToldIsSoBy", "(I)Z"⟩, 14) := ⟨⟨by decide +kernel, by decide +kernel⟩, List.mem_of_getElem? (i := 13) (by decide +kernel), List.mem_of_getElem? (i := 588) (by decide +kernel), List.mem_of_getElem? (i := 589) (by decide +kernel)⟩
theorem lw_p20 : lw_okq (⟨"SmashedHours", "asHour", "(I)I"⟩, 14) := ⟨⟨by decide +kernel, by decide +kernel⟩, List.mem_of_getElem? (i := 13) (by decide +kernel), List.mem_of_getElem? (i := 603) (by decide +kernel), List.mem_of_getElem? (i := 604) (by decide +kernel)⟩
theorem lw_p21 : lw_okq (⟨"SmashedHours", "asRiver", "(I)I"⟩, 14) := ⟨⟨by decide +kernel, by decide +kernel⟩, List.mem_of_getElem? (i := 13) (by decide +kernel), List.mem_of_getElem? (i := 607) (by decide +kernel), List.mem_of_getElem? (i := 608) (by decide +kernel)⟩
theorem lw_p22 : lw_okq (⟨"SmashedHours", "asBand", "(I)I"⟩, 14) := ⟨⟨by decide +kernel, by decide +kernel⟩, List.mem_of_getElem? (i := 13) (by decide +kernel), List.mem_of_getElem? (i := 616) (by decide +kernel), List.mem_of_getElem? (i := 617) (by decide +kernel)⟩
theorem lw_p23 : lw_okq (⟨"SmashedHours", "asDentist", "(I)I"⟩, 14) := ⟨⟨by decide +kernel, by decide +kernel⟩, List.mem_of_getElem? (i := 13) (by decide +kernel), List.mem_of_getElem? (i := 621) (by decide +kernel), List.mem_of_getElem? (i := 622) (by decide +kernel)⟩
theorem lw_p24 : lw_okq (⟨"SmashedHours", "asWidow", "(I)I"⟩, 14) := ⟨⟨by decide +kernel, by decide +kernel⟩, List.mem_of_getElem? (i := 13) (by decide +kernel), List.mem_of_getElem? (i := 626) (by decide +kernel), List.mem_of_getElem? (i := 627) (by decide +kernel)⟩
theorem lw_p25 : lw_okq (⟨"SmashedHours", "asMinute", "(I)I"⟩, 14) := ⟨⟨by decide +kernel, by decide +kernel⟩, List.mem_of_getElem? (i := 13) (by decide +kernel), List.mem_of_getElem? (i := 635) (by decide +kernel), List.mem_of_getElem? (i := 636) (by decide +kernel)⟩
theorem lw_p26 : lw_okq (⟨"SmashedHoursModel", "next", "()V"⟩, 34) := ⟨⟨by decide +kernel, by decide +kernel⟩, List.mem_of_getElem? (i := 657) (by decide +kernel), List.mem_of_getElem? (i := 781) (by decide +kernel), List.mem_of_getElem? (i := 782) (by decide +kernel)⟩
theorem lw_p27 : lw_okq (⟨"SmashedHoursModel", "letterAt", "(I)I"⟩, 34) := ⟨⟨by decide +kernel, by decide +kernel⟩, List.mem_of_getElem? (i := 657) (by decide +kernel), List.mem_of_getElem? (i := 785) (by decide +kernel), List.mem_of_getElem? (i := 786) (by decide +kernel)⟩
theorem lw_p28 : lw_okq (⟨"SmashedHoursModel", "readItem", "()V"⟩, 34) := ⟨⟨by decide +kernel, by decide +kernel⟩, List.mem_of_getElem? (i := 657) (by decide +kernel), List.mem_of_getElem? (i := 792) (by decide +kernel), List.mem_of_getElem? (i := 793) (by decide +kernel)⟩
theorem lw_p29 : lw_okq (⟨"SmashedHoursModel", "readPerson", "()V"⟩, 34) := ⟨⟨by decide +kernel, by decide +kernel⟩, List.mem_of_getElem? (i := 657) (by decide +kernel), List.mem_of_getElem? (i := 796) (by decide +kernel), List.mem_of_getElem? (i := 797) (by decide +kernel)⟩
theorem lw_p30 : lw_okq (⟨"SmashedHoursModel", "takesNumber", "(II)I"⟩, 34) := ⟨⟨by decide +kernel, by decide +kernel⟩, List.mem_of_getElem? (i := 657) (by decide +kernel), List.mem_of_getElem? (i := 800) (by decide +kernel), List.mem_of_getElem? (i := 801) (by decide +kernel)⟩
theorem lw_p31 : lw_okq (⟨"SmashedHoursModel", "readWants", "()V"⟩, 34) := ⟨⟨by decide +kernel, by decide +kernel⟩, List.mem_of_getElem? (i := 657) (by decide +kernel), List.mem_of_getElem? (i := 804) (by decide +kernel), List.mem_of_getElem? (i := 805) (by decide +kernel)⟩
def lw_privs_2 : List (MethodName × Nat) := [(⟨"SmashedHours$Sharing", "bestFrom", "(III)I"⟩, 2), (⟨"SmashedHours$Sharing", "firstFor", "(III)I"⟩, 2), (⟨"SmashedHours$Lumps", "hoursOf", "(I)I"⟩, 2), (⟨"SmashedHours", "allToldIsSoBy", "(I)Z"⟩, 14), (⟨"SmashedHours", "asHour", "(I)I"⟩, 14), (⟨"SmashedHours", "asRiver", "(I)I"⟩, 14), (⟨"SmashedHours", "asBand", "(I)I"⟩, 14), (⟨"SmashedHours", "asDentist", "(I)I"⟩, 14), (⟨"SmashedHours", "asWidow", "(I)I"⟩, 14), (⟨"SmashedHours", "asMinute", "(I)I"⟩, 14), (⟨"SmashedHoursModel", "next", "()V"⟩, 34), (⟨"SmashedHoursModel", "letterAt", "(I)I"⟩, 34), (⟨"SmashedHoursModel", "readItem", "()V"⟩, 34), (⟨"SmashedHoursModel", "readPerson", "()V"⟩, 34), (⟨"SmashedHoursModel", "takesNumber", "(II)I"⟩, 34), (⟨"SmashedHoursModel", "readWants", "()V"⟩, 34)]
theorem lw_r2 : ∀ q ∈ lw_privs_2, lw_okq q := List.forall_mem_cons.mpr ⟨lw_p16, List.forall_mem_cons.mpr ⟨lw_p17, List.forall_mem_cons.mpr ⟨lw_p18, List.forall_mem_cons.mpr ⟨lw_p19, List.forall_mem_cons.mpr ⟨lw_p20, List.forall_mem_cons.mpr ⟨lw_p21, List.forall_mem_cons.mpr ⟨lw_p22, List.forall_mem_cons.mpr ⟨lw_p23, List.forall_mem_cons.mpr ⟨lw_p24, List.forall_mem_cons.mpr ⟨lw_p25, List.forall_mem_cons.mpr ⟨lw_p26, List.forall_mem_cons.mpr ⟨lw_p27, List.forall_mem_cons.mpr ⟨lw_p28, List.forall_mem_cons.mpr ⟨lw_p29, List.forall_mem_cons.mpr ⟨lw_p30, List.forall_mem_cons.mpr ⟨lw_p31, fun _ h => absurd h List.not_mem_nil⟩⟩⟩⟩⟩⟩⟩⟩⟩⟩⟩⟩⟩⟩⟩⟩
theorem lw_p32 : lw_okq (⟨"SmashedHoursModel", "settles", "()V"⟩, 34) := ⟨⟨by decide +kernel, by decide +kernel⟩, List.mem_of_getElem? (i := 657) (by decide +kernel), List.mem_of_getElem? (i := 811) (by decide +kernel), List.mem_of_getElem? (i := 812) (by decide +kernel)⟩
theorem lw_p33 : lw_okq (⟨"SmashedHoursModel", "isPerson", "(I)Z"⟩, 34) := ⟨⟨by decide +kernel, by decide +kernel⟩, List.mem_of_getElem? (i := 657) (by decide +kernel), List.mem_of_getElem? (i := 819) (by decide +kernel), List.mem_of_getElem? (i := 820) (by decide +kernel)⟩
theorem lw_p34 : lw_okq (⟨"SmashedHoursModel", "able", "()I"⟩, 34) := ⟨⟨by decide +kernel, by decide +kernel⟩, List.mem_of_getElem? (i := 657) (by decide +kernel), List.mem_of_getElem? (i := 839) (by decide +kernel), List.mem_of_getElem? (i := 840) (by decide +kernel)⟩
theorem lw_p35 : lw_okq (⟨"SmashedHoursModel", "remembers", "()V"⟩, 34) := ⟨⟨by decide +kernel, by decide +kernel⟩, List.mem_of_getElem? (i := 657) (by decide +kernel), List.mem_of_getElem? (i := 843) (by decide +kernel), List.mem_of_getElem? (i := 844) (by decide +kernel)⟩
theorem lw_p36 : lw_okq (⟨"SmashedHoursModel", "asItIs", "()V"⟩, 34) := ⟨⟨by decide +kernel, by decide +kernel⟩, List.mem_of_getElem? (i := 657) (by decide +kernel), List.mem_of_getElem? (i := 861) (by decide +kernel), List.mem_of_getElem? (i := 862) (by decide +kernel)⟩
theorem lw_p37 : lw_okq (⟨"SmashedHoursModel", "goesBy", "(II)V"⟩, 34) := ⟨⟨by decide +kernel, by decide +kernel⟩, List.mem_of_getElem? (i := 657) (by decide +kernel), List.mem_of_getElem? (i := 865) (by decide +kernel), List.mem_of_getElem? (i := 866) (by decide +kernel)⟩
theorem lw_p38 : lw_okq (⟨"SmashedHoursModel", "pointsAt", "(III)I"⟩, 34) := ⟨⟨by decide +kernel, by decide +kernel⟩, List.mem_of_getElem? (i := 657) (by decide +kernel), List.mem_of_getElem? (i := 869) (by decide +kernel), List.mem_of_getElem? (i := 870) (by decide +kernel)⟩
theorem lw_p39 : lw_okq (⟨"SmashedHoursModel", "whoGave", "(II)I"⟩, 34) := ⟨⟨by decide +kernel, by decide +kernel⟩, List.mem_of_getElem? (i := 657) (by decide +kernel), List.mem_of_getElem? (i := 873) (by decide +kernel), List.mem_of_getElem? (i := 874) (by decide +kernel)⟩
theorem lw_p40 : lw_okq (⟨"SmashedHoursModel", "behind", "(III)I"⟩, 34) := ⟨⟨by decide +kernel, by decide +kernel⟩, List.mem_of_getElem? (i := 657) (by decide +kernel), List.mem_of_getElem? (i := 877) (by decide +kernel), List.mem_of_getElem? (i := 878) (by decide +kernel)⟩
theorem lw_p41 : lw_okq (⟨"SmashedHoursModel", "ringOf", "(I)I"⟩, 34) := ⟨⟨by decide +kernel, by decide +kernel⟩, List.mem_of_getElem? (i := 657) (by decide +kernel), List.mem_of_getElem? (i := 881) (by decide +kernel), List.mem_of_getElem? (i := 882) (by decide +kernel)⟩
theorem lw_p42 : lw_okq (⟨"SmashedHoursModel", "isLump", "(I)V"⟩, 34) := ⟨⟨by decide +kernel, by decide +kernel⟩, List.mem_of_getElem? (i := 657) (by decide +kernel), List.mem_of_getElem? (i := 885) (by decide +kernel), List.mem_of_getElem? (i := 886) (by decide +kernel)⟩
theorem lw_p43 : lw_okq (⟨"SmashedHoursModel", "sumOf", "(I)I"⟩, 34) := ⟨⟨by decide +kernel, by decide +kernel⟩, List.mem_of_getElem? (i := 657) (by decide +kernel), List.mem_of_getElem? (i := 893) (by decide +kernel), List.mem_of_getElem? (i := 894) (by decide +kernel)⟩
theorem lw_p44 : lw_okq (⟨"SmashedHoursModel", "all", "()I"⟩, 34) := ⟨⟨by decide +kernel, by decide +kernel⟩, List.mem_of_getElem? (i := 657) (by decide +kernel), List.mem_of_getElem? (i := 913) (by decide +kernel), List.mem_of_getElem? (i := 914) (by decide +kernel)⟩
theorem lw_p45 : lw_okq (⟨"SmashedHoursModel", "wayOf", "(II)I"⟩, 34) := ⟨⟨by decide +kernel, by decide +kernel⟩, List.mem_of_getElem? (i := 657) (by decide +kernel), List.mem_of_getElem? (i := 929) (by decide +kernel), List.mem_of_getElem? (i := 930) (by decide +kernel)⟩
theorem lw_p46 : lw_okq (⟨"SmashedHoursModel", "isWanted", "(II)Z"⟩, 34) := ⟨⟨by decide +kernel, by decide +kernel⟩, List.mem_of_getElem? (i := 657) (by decide +kernel), List.mem_of_getElem? (i := 933) (by decide +kernel), List.mem_of_getElem? (i := 934) (by decide +kernel)⟩
theorem lw_p47 : lw_okq (⟨"SmashedHoursModel", "hours", "()I"⟩, 34) := ⟨⟨by decide +kernel, by decide +kernel⟩, List.mem_of_getElem? (i := 657) (by decide +kernel), List.mem_of_getElem? (i := 948) (by decide +kernel), List.mem_of_getElem? (i := 949) (by decide +kernel)⟩
def lw_privs_3 : List (MethodName × Nat) := [(⟨"SmashedHoursModel", "settles", "()V"⟩, 34), (⟨"SmashedHoursModel", "isPerson", "(I)Z"⟩, 34), (⟨"SmashedHoursModel", "able", "()I"⟩, 34), (⟨"SmashedHoursModel", "remembers", "()V"⟩, 34), (⟨"SmashedHoursModel", "asItIs", "()V"⟩, 34), (⟨"SmashedHoursModel", "goesBy", "(II)V"⟩, 34), (⟨"SmashedHoursModel", "pointsAt", "(III)I"⟩, 34), (⟨"SmashedHoursModel", "whoGave", "(II)I"⟩, 34), (⟨"SmashedHoursModel", "behind", "(III)I"⟩, 34), (⟨"SmashedHoursModel", "ringOf", "(I)I"⟩, 34), (⟨"SmashedHoursModel", "isLump", "(I)V"⟩, 34), (⟨"SmashedHoursModel", "sumOf", "(I)I"⟩, 34), (⟨"SmashedHoursModel", "all", "()I"⟩, 34), (⟨"SmashedHoursModel", "wayOf", "(II)I"⟩, 34), (⟨"SmashedHoursModel", "isWanted", "(II)Z"⟩, 34), (⟨"SmashedHoursModel", "hours", "()I"⟩, 34)]
theorem lw_r3 : ∀ q ∈ lw_privs_3, lw_okq q := List.forall_mem_cons.mpr ⟨lw_p32, List.forall_mem_cons.mpr ⟨lw_p33, List.forall_mem_cons.mpr ⟨lw_p34, List.forall_mem_cons.mpr ⟨lw_p35, List.forall_mem_cons.mpr ⟨lw_p36, List.forall_mem_cons.mpr ⟨lw_p37, List.forall_mem_cons.mpr ⟨lw_p38, List.forall_mem_cons.mpr ⟨lw_p39, List.forall_mem_cons.mpr ⟨lw_p40, List.forall_mem_cons.mpr ⟨lw_p41, List.forall_mem_cons.mpr ⟨lw_p42, List.forall_mem_cons.mpr ⟨lw_p43, List.forall_mem_cons.mpr ⟨lw_p44, List.forall_mem_cons.mpr ⟨lw_p45, List.forall_mem_cons.mpr ⟨lw_p46, List.forall_mem_cons.mpr ⟨lw_p47, fun _ h => absurd h List.not_mem_nil⟩⟩⟩⟩⟩⟩⟩⟩⟩⟩⟩⟩⟩⟩⟩⟩
theorem lw_p48 : lw_okq (⟨"SmashedHoursModel", "isSo", "(II)Z"⟩, 34) := ⟨⟨by decide +kernel, by decide +kernel⟩, List.mem_of_getElem? (i := 657) (by decide +kernel), List.mem_of_getElem? (i := 964) (by decide +kernel), List.mem_of_getElem? (i := 965) (by decide +kernel)⟩
theorem lw_p49 : lw_okq (⟨"SmashedHoursModel", "wantedBy", "(I)I"⟩, 34) := ⟨⟨by decide +kernel, by decide +kernel⟩, List.mem_of_getElem? (i := 657) (by decide +kernel), List.mem_of_getElem? (i := 977) (by decide +kernel), List.mem_of_getElem? (i := 978) (by decide +kernel)⟩
theorem lw_p50 : lw_okq (⟨"SmashedHoursModel", "whoHas", "(I)I"⟩, 34) := ⟨⟨by decide +kernel, by decide +kernel⟩, List.mem_of_getElem? (i := 657) (by decide +kernel), List.mem_of_getElem? (i := 985) (by decide +kernel), List.mem_of_getElem? (i := 986) (by decide +kernel)⟩
def lw_privs_4 : List (MethodName × Nat) := [(⟨"SmashedHoursModel", "isSo", "(II)Z"⟩, 34), (⟨"SmashedHoursModel", "wantedBy", "(I)I"⟩, 34), (⟨"SmashedHoursModel", "whoHas", "(I)I"⟩, 34)]
theorem lw_r4 : ∀ q ∈ lw_privs_4, lw_okq q := List.forall_mem_cons.mpr ⟨lw_p48, List.forall_mem_cons.mpr ⟨lw_p49, List.forall_mem_cons.mpr ⟨lw_p50, fun _ h => absurd h List.not_mem_nil⟩⟩⟩
def lw_privs : List (MethodName × Nat) := lw_privs_1 ++ (lw_privs_2 ++ (lw_privs_3 ++ (lw_privs_4)))
def lw_tbl : List Cond := k2_sels lw_privs ++ tables_1
theorem lw_privs_ok : ∀ q ∈ lw_privs, lw_okq q := by
  show ∀ q ∈ lw_privs_1 ++ (lw_privs_2 ++ (lw_privs_3 ++ (lw_privs_4))), lw_okq q
  exact List.forall_mem_append.mpr ⟨lw_r1, List.forall_mem_append.mpr ⟨lw_r2, List.forall_mem_append.mpr ⟨lw_r3, lw_r4⟩⟩⟩
/-! ===== BEGIN printed: names, fields, word lists, decode rows ===== -/
def RX0 : String := "SmashedHours$Affairs"
def TX0 : u_T := fun k => match k with
  | 0 => ("SmashedHours$Affairs", "has", "[I", true)
  | 1 => ("SmashedHours$Affairs", "left", "[I", true)
  | 2 => ("SmashedHours$Affairs", "bits", "[I", true)
  | 3 => ("SmashedHours$Affairs", "bitCount", "I", false)
  | 4 => ("SmashedHours$Affairs", "given", "I", false)
  | 5 => ("SmashedHours$Affairs", "made", "I", false)
  | 6 => ("SmashedHours$Affairs", "gone", "I", false)
  | _ => ("SmashedHours$Affairs", "law", "I", false)
def tyX0 : Nat → FieldType := fun k => match k with
  | 0 => .array .int
  | 1 => .array .int
  | 2 => .array .int
  | 3 => .int
  | 4 => .int
  | 5 => .int
  | 6 => .int
  | _ => .int
abbrev wsX00 : List Cond := u_ws RX0 TX0 8
theorem nmX0 : ∀ a, a < 8 → ∀ b, b < 8 → a ≠ b → (TX0 a).2.1 ≠ (TX0 b).2.1 := by decide +kernel
theorem tyX0_ok : ∀ k, k < 8 → parseFieldDescriptor (TX0 k).2.2.1 = some (tyX0 k) := by decide +kernel
abbrev cX0_init : ByteArray := prog_2_method_1_code
def yX0_init : MethodName := ⟨RX0, "<init>", "()V"⟩
abbrev cX0_begin : ByteArray := prog_2_method_2_code
def yX0_begin : MethodName := ⟨RX0, "begin", "(LSmashedHours$House;)V"⟩
abbrev cX0_become : ByteArray := prog_2_method_3_code
def yX0_become : MethodName := ⟨RX0, "become", "(LSmashedHours$Affairs;)V"⟩
abbrev cX0_able : ByteArray := prog_2_method_4_code
def yX0_able : MethodName := ⟨RX0, "able", "()I"⟩
abbrev cX0_withTheirOwn : ByteArray := prog_2_method_5_code
def yX0_withTheirOwn : MethodName := ⟨RX0, "withTheirOwn", "()I"⟩
abbrev cX0_whoHas : ByteArray := prog_2_method_6_code
def yX0_whoHas : MethodName := ⟨RX0, "whoHas", "(I)I"⟩
abbrev cX0_minutes : ByteArray := prog_2_method_7_code
def yX0_minutes : MethodName := ⟨RX0, "minutes", "(I)I"⟩
abbrev cX0_dropBits : ByteArray := prog_2_method_8_code
def yX0_dropBits : MethodName := ⟨RX0, "dropBits", "(I)V"⟩
abbrev cX0_pass : ByteArray := prog_2_method_9_code
def yX0_pass : MethodName := ⟨RX0, "pass", "(LSmashedHours$Silk;LSmashedHours$House;)V"⟩
def RX1 : String := "SmashedHours$History"
def TX1 : u_T := fun k => match k with
  | 0 => ("SmashedHours$History", "rows", "[LSmashedHours$Affairs;", true)
  | 1 => ("SmashedHours$History", "next", "I", false)
  | _ => ("SmashedHours$History", "known", "I", false)
def tyX1 : Nat → FieldType := fun k => match k with
  | 0 => .array (.object "SmashedHours$Affairs")
  | 1 => .int
  | _ => .int
abbrev wsX10 : List Cond := u_ws RX1 TX1 3
theorem nmX1 : ∀ a, a < 3 → ∀ b, b < 3 → a ≠ b → (TX1 a).2.1 ≠ (TX1 b).2.1 := by decide +kernel
theorem tyX1_ok : ∀ k, k < 3 → parseFieldDescriptor (TX1 k).2.2.1 = some (tyX1 k) := by decide +kernel
abbrev cX1_init : ByteArray := prog_3_method_1_code
def yX1_init : MethodName := ⟨RX1, "<init>", "()V"⟩
abbrev cX1_remember : ByteArray := prog_3_method_2_code
def yX1_remember : MethodName := ⟨RX1, "remember", "(LSmashedHours$Affairs;)V"⟩
abbrev cX1_restore : ByteArray := prog_3_method_3_code
def yX1_restore : MethodName := ⟨RX1, "restore", "(LSmashedHours$Affairs;)Z"⟩
def RX2 : String := "SmashedHours$House"
def TX2 : u_T := fun k => match k with
  | 0 => ("SmashedHours$House", "weight", "[I", true)
  | 1 => ("SmashedHours$House", "nights", "[I", true)
  | 2 => ("SmashedHours$House", "wanted", "[[I", true)
  | 3 => ("SmashedHours$House", "wantCount", "[I", true)
  | 4 => ("SmashedHours$House", "wantBits", "[I", true)
  | 5 => ("SmashedHours$House", "size", "I", false)
  | _ => ("SmashedHours$House", "law", "I", false)
def tyX2 : Nat → FieldType := fun k => match k with
  | 0 => .array .int
  | 1 => .array .int
  | 2 => .array (.array .int)
  | 3 => .array .int
  | 4 => .array .int
  | 5 => .int
  | _ => .int
abbrev wsX20 : List Cond := u_ws RX2 TX2 7
theorem nmX2 : ∀ a, a < 7 → ∀ b, b < 7 → a ≠ b → (TX2 a).2.1 ≠ (TX2 b).2.1 := by decide +kernel
theorem tyX2_ok : ∀ k, k < 7 → parseFieldDescriptor (TX2 k).2.2.1 = some (tyX2 k) := by decide +kernel
abbrev cX2_init : ByteArray := prog_4_method_1_code
def yX2_init : MethodName := ⟨RX2, "<init>", "()V"⟩
abbrev cX2_empty : ByteArray := prog_4_method_2_code
def yX2_empty : MethodName := ⟨RX2, "empty", "()V"⟩
abbrev cX2_knows : ByteArray := prog_4_method_3_code
def yX2_knows : MethodName := ⟨RX2, "knows", "(I)Z"⟩
abbrev cX2_addPerson : ByteArray := prog_4_method_4_code
def yX2_addPerson : MethodName := ⟨RX2, "addPerson", "(II)Z"⟩
abbrev cX2_dropWants : ByteArray := prog_4_method_5_code
def yX2_dropWants : MethodName := ⟨RX2, "dropWants", "(I)V"⟩
abbrev cX2_addWant : ByteArray := prog_4_method_6_code
def yX2_addWant : MethodName := ⟨RX2, "addWant", "(II)Z"⟩
abbrev cX2_howManyWant : ByteArray := prog_4_method_7_code
def yX2_howManyWant : MethodName := ⟨RX2, "howManyWant", "(I)I"⟩
abbrev cX2_become : ByteArray := prog_4_method_8_code
def yX2_become : MethodName := ⟨RX2, "become", "(LSmashedHours$House;)V"⟩
def RX3 : String := "SmashedHours$Lumps"
def TX3 : u_T := fun k => match k with
  | 0 => ("SmashedHours$Lumps", "sums", "[I", true)
  | _ => ("SmashedHours$Lumps", "hours", "[I", true)
def tyX3 : Nat → FieldType := fun k => match k with
  | 0 => .array .int
  | _ => .array .int
abbrev wsX30 : List Cond := u_ws RX3 TX3 2
theorem nmX3 : ∀ a, a < 2 → ∀ b, b < 2 → a ≠ b → (TX3 a).2.1 ≠ (TX3 b).2.1 := by decide +kernel
theorem tyX3_ok : ∀ k, k < 2 → parseFieldDescriptor (TX3 k).2.2.1 = some (tyX3 k) := by decide +kernel
abbrev cX3_init : ByteArray := prog_5_method_1_code
def yX3_init : MethodName := ⟨RX3, "<init>", "()V"⟩
abbrev cX3_fullest : ByteArray := prog_5_method_2_code
def yX3_fullest : MethodName := ⟨RX3, "fullest", "(LSmashedHours$Affairs;)I"⟩
abbrev cX3_mostHours : ByteArray := prog_5_method_3_code
def yX3_mostHours : MethodName := ⟨RX3, "mostHours", "(LSmashedHours$Affairs;)I"⟩
abbrev cX3_hoursOf : ByteArray := prog_5_method_4_code
def yX3_hoursOf : MethodName := ⟨RX3, "hoursOf", "(I)I"⟩
def RX4 : String := "SmashedHours$Script"
def TX4 : u_T := fun k => match k with
  | 0 => ("SmashedHours$Script", "draft", "LSmashedHours$House;", true)
  | 1 => ("SmashedHours$Script", "letters", "[I", true)
  | 2 => ("SmashedHours$Script", "length", "I", false)
  | 3 => ("SmashedHours$Script", "place", "I", false)
  | 4 => ("SmashedHours$Script", "tokenPlace", "I", false)
  | 5 => ("SmashedHours$Script", "token", "I", false)
  | 6 => ("SmashedHours$Script", "value", "I", false)
  | _ => ("SmashedHours$Script", "lawTold", "Z", false)
def tyX4 : Nat → FieldType := fun k => match k with
  | 0 => .object "SmashedHours$House"
  | 1 => .array .int
  | 2 => .int
  | 3 => .int
  | 4 => .int
  | 5 => .int
  | 6 => .int
  | _ => .boolean
abbrev wsX40 : List Cond := u_ws RX4 TX4 8
theorem nmX4 : ∀ a, a < 8 → ∀ b, b < 8 → a ≠ b → (TX4 a).2.1 ≠ (TX4 b).2.1 := by decide +kernel
theorem tyX4_ok : ∀ k, k < 8 → parseFieldDescriptor (TX4 k).2.2.1 = some (tyX4 k) := by decide +kernel
abbrev cX4_init : ByteArray := prog_6_method_1_code
def yX4_init : MethodName := ⟨RX4, "<init>", "()V"⟩
abbrev cX4_add : ByteArray := prog_6_method_2_code
def yX4_add : MethodName := ⟨RX4, "add", "(I)Z"⟩
abbrev cX4_read : ByteArray := prog_6_method_3_code
def yX4_read : MethodName := ⟨RX4, "read", "()I"⟩
abbrev cX4_readPerson : ByteArray := prog_6_method_4_code
def yX4_readPerson : MethodName := ⟨RX4, "readPerson", "()Z"⟩
abbrev cX4_readWants : ByteArray := prog_6_method_5_code
def yX4_readWants : MethodName := ⟨RX4, "readWants", "()Z"⟩
abbrev cX4_readLaw : ByteArray := prog_6_method_6_code
def yX4_readLaw : MethodName := ⟨RX4, "readLaw", "()Z"⟩
abbrev cX4_stepToNumber : ByteArray := prog_6_method_7_code
def yX4_stepToNumber : MethodName := ⟨RX4, "stepToNumber", "(II)Z"⟩
abbrev cX4_stepToEnd : ByteArray := prog_6_method_8_code
def yX4_stepToEnd : MethodName := ⟨RX4, "stepToEnd", "()Z"⟩
abbrev cX4_step : ByteArray := prog_6_method_9_code
def yX4_step : MethodName := ⟨RX4, "step", "()V"⟩
abbrev cX4_readNumber : ByteArray := prog_6_method_10_code
def yX4_readNumber : MethodName := ⟨RX4, "readNumber", "()Z"⟩
abbrev cX4_isDigit : ByteArray := prog_6_method_11_code
def yX4_isDigit : MethodName := ⟨RX4, "isDigit", "(I)Z"⟩
def RX5 : String := "SmashedHours$Sharing"
def TX5 : u_T := fun k => match k with
  | 0 => ("SmashedHours$Sharing", "best", "[[I", true)
  | _ => ("SmashedHours$Sharing", "hours", "I", false)
def tyX5 : Nat → FieldType := fun k => match k with
  | 0 => .array (.array .int)
  | _ => .int
abbrev wsX50 : List Cond := u_ws RX5 TX5 2
theorem nmX5 : ∀ a, a < 2 → ∀ b, b < 2 → a ≠ b → (TX5 a).2.1 ≠ (TX5 b).2.1 := by decide +kernel
theorem tyX5_ok : ∀ k, k < 2 → parseFieldDescriptor (TX5 k).2.2.1 = some (tyX5 k) := by decide +kernel
abbrev cX5_init : ByteArray := prog_7_method_1_code
def yX5_init : MethodName := ⟨RX5, "<init>", "()V"⟩
abbrev cX5_weigh : ByteArray := prog_7_method_2_code
def yX5_weigh : MethodName := ⟨RX5, "weigh", "(LSmashedHours$House;LSmashedHours$Affairs;)V"⟩
abbrev cX5_mostServed : ByteArray := prog_7_method_3_code
def yX5_mostServed : MethodName := ⟨RX5, "mostServed", "()I"⟩
abbrev cX5_hourOf : ByteArray := prog_7_method_4_code
def yX5_hourOf : MethodName := ⟨RX5, "hourOf", "(ILSmashedHours$House;LSmashedHours$Affairs;)I"⟩
abbrev cX5_wishOf : ByteArray := prog_7_method_5_code
def yX5_wishOf : MethodName := ⟨RX5, "wishOf", "(ILSmashedHours$House;LSmashedHours$Affairs;)I"⟩
abbrev cX5_bestFrom : ByteArray := prog_7_method_6_code
def yX5_bestFrom : MethodName := ⟨RX5, "bestFrom", "(III)I"⟩
abbrev cX5_firstFor : ByteArray := prog_7_method_7_code
def yX5_firstFor : MethodName := ⟨RX5, "firstFor", "(III)I"⟩
def RX6 : String := "SmashedHours$Silk"
def TX6 : u_T := fun k => match k with
  | 0 => ("SmashedHours$Silk", "people", "LSmashedHours$House;", true)
  | 1 => ("SmashedHours$Silk", "gave", "[I", true)
  | 2 => ("SmashedHours$Silk", "giver", "[I", true)
  | 3 => ("SmashedHours$Silk", "aims", "[I", true)
  | 4 => ("SmashedHours$Silk", "left", "I", false)
  | 5 => ("SmashedHours$Silk", "got", "[I", true)
  | 6 => ("SmashedHours$Silk", "lumps", "[I", true)
  | 7 => ("SmashedHours$Silk", "lumpCount", "I", false)
  | _ => ("SmashedHours$Silk", "ringed", "I", false)
def tyX6 : Nat → FieldType := fun k => match k with
  | 0 => .object "SmashedHours$House"
  | 1 => .array .int
  | 2 => .array .int
  | 3 => .array .int
  | 4 => .int
  | 5 => .array .int
  | 6 => .array .int
  | 7 => .int
  | _ => .int
abbrev wsX60 : List Cond := u_ws RX6 TX6 9
theorem nmX6 : ∀ a, a < 9 → ∀ b, b < 9 → a ≠ b → (TX6 a).2.1 ≠ (TX6 b).2.1 := by decide +kernel
theorem tyX6_ok : ∀ k, k < 9 → parseFieldDescriptor (TX6 k).2.2.1 = some (tyX6 k) := by decide +kernel
abbrev cX6_init : ByteArray := prog_8_method_1_code
def yX6_init : MethodName := ⟨RX6, "<init>", "(LSmashedHours$House;)V"⟩
abbrev cX6_play : ByteArray := prog_8_method_2_code
def yX6_play : MethodName := ⟨RX6, "play", "([III)V"⟩
abbrev cX6_lay : ByteArray := prog_8_method_3_code
def yX6_lay : MethodName := ⟨RX6, "lay", "([II)V"⟩
abbrev cX6_aimAll : ByteArray := prog_8_method_4_code
def yX6_aimAll : MethodName := ⟨RX6, "aimAll", "(I)I"⟩
abbrev cX6_aimOf : ByteArray := prog_8_method_5_code
def yX6_aimOf : MethodName := ⟨RX6, "aimOf", "(II)I"⟩
abbrev cX6_distance : ByteArray := prog_8_method_6_code
def yX6_distance : MethodName := ⟨RX6, "distance", "(III)I"⟩
abbrev cX6_smash : ByteArray := prog_8_method_7_code
def yX6_smash : MethodName := ⟨RX6, "smash", "(I)V"⟩
abbrev cX6_letOut : ByteArray := prog_8_method_8_code
def yX6_letOut : MethodName := ⟨RX6, "letOut", "(I)V"⟩
abbrev cX6_goRound : ByteArray := prog_8_method_9_code
def yX6_goRound : MethodName := ⟨RX6, "goRound", "()V"⟩
abbrev cX6_lowestLeft : ByteArray := prog_8_method_10_code
def yX6_lowestLeft : MethodName := ⟨RX6, "lowestLeft", "()I"⟩
def RX7 : String := "SmashedHours"
def TX7 : u_T := fun k => match k with
  | 0 => ("SmashedHours", "script", "LSmashedHours$Script;", true)
  | 1 => ("SmashedHours", "people", "LSmashedHours$House;", true)
  | 2 => ("SmashedHours", "here", "LSmashedHours$Affairs;", true)
  | 3 => ("SmashedHours", "history", "LSmashedHours$History;", true)
  | 4 => ("SmashedHours", "images", "[LSmashedHours$Affairs;", true)
  | 5 => ("SmashedHours", "kept", "[Z", true)
  | 6 => ("SmashedHours", "silk", "LSmashedHours$Silk;", true)
  | 7 => ("SmashedHours", "sharing", "LSmashedHours$Sharing;", true)
  | 8 => ("SmashedHours", "lumps", "LSmashedHours$Lumps;", true)
  | 9 => ("SmashedHours", "toldSet", "[I", true)
  | 10 => ("SmashedHours", "toldWho", "[I", true)
  | 11 => ("SmashedHours", "toldHour", "[I", true)
  | 12 => ("SmashedHours", "told", "I", false)
  | _ => ("SmashedHours", "marks", "J", false)
def tyX7 : Nat → FieldType := fun k => match k with
  | 0 => .object "SmashedHours$Script"
  | 1 => .object "SmashedHours$House"
  | 2 => .object "SmashedHours$Affairs"
  | 3 => .object "SmashedHours$History"
  | 4 => .array (.object "SmashedHours$Affairs")
  | 5 => .array .boolean
  | 6 => .object "SmashedHours$Silk"
  | 7 => .object "SmashedHours$Sharing"
  | 8 => .object "SmashedHours$Lumps"
  | 9 => .array .int
  | 10 => .array .int
  | 11 => .array .int
  | 12 => .int
  | _ => .long
abbrev wsX70 : List Cond := u_ws RX7 TX7 14
theorem nmX7 : ∀ a, a < 14 → ∀ b, b < 14 → a ≠ b → (TX7 a).2.1 ≠ (TX7 b).2.1 := by decide +kernel
theorem tyX7_ok : ∀ k, k < 14 → parseFieldDescriptor (TX7 k).2.2.1 = some (tyX7 k) := by decide +kernel
abbrev cX7_init : ByteArray := prog_1_method_1_code
def yX7_init : MethodName := ⟨RX7, "<init>", "()V"⟩
abbrev cX7_type : ByteArray := prog_1_method_2_code
def yX7_type : MethodName := ⟨RX7, "type", "(I)I"⟩
abbrev cX7_clear : ByteArray := prog_1_method_3_code
def yX7_clear : MethodName := ⟨RX7, "clear", "()I"⟩
abbrev cX7_house : ByteArray := prog_1_method_4_code
def yX7_house : MethodName := ⟨RX7, "house", "()I"⟩
abbrev cX7_person : ByteArray := prog_1_method_5_code
def yX7_person : MethodName := ⟨RX7, "person", "(II)I"⟩
abbrev cX7_wants : ByteArray := prog_1_method_6_code
def yX7_wants : MethodName := ⟨RX7, "wants", "(II)I"⟩
abbrev cX7_bit : ByteArray := prog_1_method_7_code
def yX7_bit : MethodName := ⟨RX7, "bit", "(I)I"⟩
abbrev cX7_now : ByteArray := prog_1_method_8_code
def yX7_now : MethodName := ⟨RX7, "now", "(I)I"⟩
abbrev cX7_gives : ByteArray := prog_1_method_9_code
def yX7_gives : MethodName := ⟨RX7, "gives", "(I)I"⟩
abbrev cX7_takes : ByteArray := prog_1_method_10_code
def yX7_takes : MethodName := ⟨RX7, "takes", "(I)I"⟩
abbrev cX7_night : ByteArray := prog_1_method_11_code
def yX7_night : MethodName := ⟨RX7, "night", "()I"⟩
abbrev cX7_joins : ByteArray := prog_1_method_12_code
def yX7_joins : MethodName := ⟨RX7, "joins", "(I)I"⟩
abbrev cX7_laws : ByteArray := prog_1_method_13_code
def yX7_laws : MethodName := ⟨RX7, "laws", "(I)I"⟩
abbrev cX7_undo : ByteArray := prog_1_method_14_code
def yX7_undo : MethodName := ⟨RX7, "undo", "()I"⟩
abbrev cX7_would : ByteArray := prog_1_method_15_code
def yX7_would : MethodName := ⟨RX7, "would", "(I)I"⟩
abbrev cX7_served : ByteArray := prog_1_method_16_code
def yX7_served : MethodName := ⟨RX7, "served", "(I)I"⟩
abbrev cX7_get : ByteArray := prog_1_method_17_code
def yX7_get : MethodName := ⟨RX7, "get", "(II)I"⟩
abbrev cX7_most : ByteArray := prog_1_method_18_code
def yX7_most : MethodName := ⟨RX7, "most", "(I)I"⟩
abbrev cX7_could : ByteArray := prog_1_method_19_code
def yX7_could : MethodName := ⟨RX7, "could", "(I)I"⟩
abbrev cX7_odds : ByteArray := prog_1_method_20_code
def yX7_odds : MethodName := ⟨RX7, "odds", "(III)I"⟩
abbrev cX7_join : ByteArray := prog_1_method_21_code
def yX7_join : MethodName := ⟨RX7, "join", "(I)I"⟩
abbrev cX7_tells : ByteArray := prog_1_method_22_code
def yX7_tells : MethodName := ⟨RX7, "tells", "(III)I"⟩
abbrev cX7_forget : ByteArray := prog_1_method_23_code
def yX7_forget : MethodName := ⟨RX7, "forget", "()I"⟩
abbrev cX7_fits : ByteArray := prog_1_method_24_code
def yX7_fits : MethodName := ⟨RX7, "fits", "()I"⟩
abbrev cX7_stop : ByteArray := prog_1_method_25_code
def yX7_stop : MethodName := ⟨RX7, "stop", "(IIIII)I"⟩
abbrev cX7_rate : ByteArray := prog_1_method_26_code
def yX7_rate : MethodName := ⟨RX7, "rate", "(II)I"⟩
abbrev cX7_keep : ByteArray := prog_1_method_27_code
def yX7_keep : MethodName := ⟨RX7, "keep", "(I)I"⟩
abbrev cX7_back : ByteArray := prog_1_method_28_code
def yX7_back : MethodName := ⟨RX7, "back", "(I)I"⟩
abbrev cX7_count : ByteArray := prog_1_method_29_code
def yX7_count : MethodName := ⟨RX7, "count", "(I)I"⟩
abbrev cX7_trace : ByteArray := prog_1_method_30_code
def yX7_trace : MethodName := ⟨RX7, "trace", "()J"⟩
abbrev cX7_servedOf : ByteArray := prog_1_method_31_code
def yX7_servedOf : MethodName := ⟨RX7, "servedOf", "(I)I"⟩
abbrev cX7_allToldIsSoBy : ByteArray := prog_1_method_32_code
def yX7_allToldIsSoBy : MethodName := ⟨RX7, "allToldIsSoBy", "(I)Z"⟩
abbrev cX7_asHour : ByteArray := prog_1_method_33_code
def yX7_asHour : MethodName := ⟨RX7, "asHour", "(I)I"⟩
abbrev cX7_asRiver : ByteArray := prog_1_method_34_code
def yX7_asRiver : MethodName := ⟨RX7, "asRiver", "(I)I"⟩
abbrev cX7_asBand : ByteArray := prog_1_method_35_code
def yX7_asBand : MethodName := ⟨RX7, "asBand", "(I)I"⟩
abbrev cX7_asDentist : ByteArray := prog_1_method_36_code
def yX7_asDentist : MethodName := ⟨RX7, "asDentist", "(I)I"⟩
abbrev cX7_asWidow : ByteArray := prog_1_method_37_code
def yX7_asWidow : MethodName := ⟨RX7, "asWidow", "(I)I"⟩
abbrev cX7_asMinute : ByteArray := prog_1_method_38_code
def yX7_asMinute : MethodName := ⟨RX7, "asMinute", "(I)I"⟩
abbrev cX7_within : ByteArray := prog_1_method_39_code
def yX7_within : MethodName := ⟨RX7, "within", "(III)Z"⟩
abbrev cX7_holds : ByteArray := prog_1_method_40_code
def yX7_holds : MethodName := ⟨RX7, "holds", "(II)Z"⟩
abbrev cX7_isWithin : ByteArray := prog_1_method_41_code
def yX7_isWithin : MethodName := ⟨RX7, "isWithin", "(II)Z"⟩
abbrev cX7_isSetOf : ByteArray := prog_1_method_42_code
def yX7_isSetOf : MethodName := ⟨RX7, "isSetOf", "(II)Z"⟩
abbrev cX7_power : ByteArray := prog_1_method_43_code
def yX7_power : MethodName := ⟨RX7, "power", "(II)I"⟩
abbrev cX7_part : ByteArray := prog_1_method_44_code
def yX7_part : MethodName := ⟨RX7, "part", "(III)I"⟩
abbrev cX7_greatestDivisor : ByteArray := prog_1_method_45_code
def yX7_greatestDivisor : MethodName := ⟨RX7, "greatestDivisor", "(II)I"⟩
def RX8 : String := "SmashedHoursModel"
def TX8 : u_T := fun k => match k with
  | 0 => ("SmashedHoursModel", "people", "I", false)
  | 1 => ("SmashedHoursModel", "weight", "[I", true)
  | 2 => ("SmashedHoursModel", "wants", "[I", true)
  | 3 => ("SmashedHoursModel", "wantsMany", "[I", true)
  | 4 => ("SmashedHoursModel", "st", "[I", true)
  | 5 => ("SmashedHoursModel", "was", "[I", true)
  | 6 => ("SmashedHoursModel", "known", "I", false)
  | 7 => ("SmashedHoursModel", "images", "[I", true)
  | 8 => ("SmashedHoursModel", "isKept", "[Z", true)
  | 9 => ("SmashedHoursModel", "toldMany", "I", false)
  | 10 => ("SmashedHoursModel", "told", "[I", true)
  | 11 => ("SmashedHoursModel", "trace", "J", false)
  | 12 => ("SmashedHoursModel", "text", "[I", true)
  | 13 => ("SmashedHoursModel", "texted", "I", false)
  | 14 => ("SmashedHoursModel", "cursor", "I", false)
  | 15 => ("SmashedHoursModel", "start", "I", false)
  | 16 => ("SmashedHoursModel", "token", "I", false)
  | 17 => ("SmashedHoursModel", "number", "I", false)
  | 18 => ("SmashedHoursModel", "isWrong", "Z", false)
  | 19 => ("SmashedHoursModel", "items", "I", false)
  | 20 => ("SmashedHoursModel", "saidPeople", "I", false)
  | 21 => ("SmashedHoursModel", "saidWeight", "[I", true)
  | 22 => ("SmashedHoursModel", "saidNights", "[I", true)
  | 23 => ("SmashedHoursModel", "saidWants", "[I", true)
  | 24 => ("SmashedHoursModel", "saidMany", "[I", true)
  | 25 => ("SmashedHoursModel", "saidLaw", "I", false)
  | 26 => ("SmashedHoursModel", "now", "[I", true)
  | 27 => ("SmashedHoursModel", "gave", "[I", true)
  | 28 => ("SmashedHoursModel", "at", "[I", true)
  | 29 => ("SmashedHoursModel", "ringed", "I", false)
  | 30 => ("SmashedHoursModel", "lumps", "I", false)
  | 31 => ("SmashedHoursModel", "way", "[I", true)
  | 32 => ("SmashedHoursModel", "bestWay", "[I", true)
  | _ => ("SmashedHoursModel", "made", "[I", true)
def tyX8 : Nat → FieldType := fun k => match k with
  | 0 => .int
  | 1 => .array .int
  | 2 => .array .int
  | 3 => .array .int
  | 4 => .array .int
  | 5 => .array .int
  | 6 => .int
  | 7 => .array .int
  | 8 => .array .boolean
  | 9 => .int
  | 10 => .array .int
  | 11 => .long
  | 12 => .array .int
  | 13 => .int
  | 14 => .int
  | 15 => .int
  | 16 => .int
  | 17 => .int
  | 18 => .boolean
  | 19 => .int
  | 20 => .int
  | 21 => .array .int
  | 22 => .array .int
  | 23 => .array .int
  | 24 => .array .int
  | 25 => .int
  | 26 => .array .int
  | 27 => .array .int
  | 28 => .array .int
  | 29 => .int
  | 30 => .int
  | 31 => .array .int
  | 32 => .array .int
  | _ => .array .int
abbrev wsX80 : List Cond := u_ws RX8 TX8 34
theorem nmX8 : ∀ a, a < 34 → ∀ b, b < 34 → a ≠ b → (TX8 a).2.1 ≠ (TX8 b).2.1 := by decide +kernel
theorem tyX8_ok : ∀ k, k < 34 → parseFieldDescriptor (TX8 k).2.2.1 = some (tyX8 k) := by decide +kernel
abbrev cX8_init : ByteArray := prog_10_method_1_code
def yX8_init : MethodName := ⟨RX8, "<init>", "()V"⟩
abbrev cX8_in : ByteArray := prog_10_method_3_code
def yX8_in : MethodName := ⟨RX8, "in", "(III)Z"⟩
abbrev cX8_has : ByteArray := prog_10_method_4_code
def yX8_has : MethodName := ⟨RX8, "has", "(II)Z"⟩
abbrev cX8_bits : ByteArray := prog_10_method_5_code
def yX8_bits : MethodName := ⟨RX8, "bits", "(I)I"⟩
abbrev cX8_isPerson : ByteArray := prog_10_method_6_code
def yX8_isPerson : MethodName := ⟨RX8, "isPerson", "(I)Z"⟩
abbrev cX8_copy : ByteArray := prog_10_method_7_code
def yX8_copy : MethodName := ⟨RX8, "copy", "([II[II)V"⟩
abbrev cX8_type : ByteArray := prog_10_method_8_code
def yX8_type : MethodName := ⟨RX8, "type", "(I)I"⟩
abbrev cX8_clear : ByteArray := prog_10_method_9_code
def yX8_clear : MethodName := ⟨RX8, "clear", "()I"⟩
abbrev cX8_letterAt : ByteArray := prog_10_method_10_code
def yX8_letterAt : MethodName := ⟨RX8, "letterAt", "(I)I"⟩
abbrev cX8_isFigure : ByteArray := prog_10_method_11_code
def yX8_isFigure : MethodName := ⟨RX8, "isFigure", "(I)Z"⟩
abbrev cX8_next : ByteArray := prog_10_method_12_code
def yX8_next : MethodName := ⟨RX8, "next", "()V"⟩
abbrev cX8_takesNumber : ByteArray := prog_10_method_13_code
def yX8_takesNumber : MethodName := ⟨RX8, "takesNumber", "(II)I"⟩
abbrev cX8_readPerson : ByteArray := prog_10_method_14_code
def yX8_readPerson : MethodName := ⟨RX8, "readPerson", "()V"⟩
abbrev cX8_readWants : ByteArray := prog_10_method_15_code
def yX8_readWants : MethodName := ⟨RX8, "readWants", "()V"⟩
abbrev cX8_readItem : ByteArray := prog_10_method_16_code
def yX8_readItem : MethodName := ⟨RX8, "readItem", "()V"⟩
abbrev cX8_house : ByteArray := prog_10_method_17_code
def yX8_house : MethodName := ⟨RX8, "house", "()I"⟩
abbrev cX8_settles : ByteArray := prog_10_method_18_code
def yX8_settles : MethodName := ⟨RX8, "settles", "()V"⟩
abbrev cX8_asItIs : ByteArray := prog_10_method_19_code
def yX8_asItIs : MethodName := ⟨RX8, "asItIs", "()V"⟩
abbrev cX8_whoGave : ByteArray := prog_10_method_20_code
def yX8_whoGave : MethodName := ⟨RX8, "whoGave", "(II)I"⟩
abbrev cX8_behind : ByteArray := prog_10_method_21_code
def yX8_behind : MethodName := ⟨RX8, "behind", "(III)I"⟩
abbrev cX8_pointsAt : ByteArray := prog_10_method_22_code
def yX8_pointsAt : MethodName := ⟨RX8, "pointsAt", "(III)I"⟩
abbrev cX8_isLump : ByteArray := prog_10_method_23_code
def yX8_isLump : MethodName := ⟨RX8, "isLump", "(I)V"⟩
abbrev cX8_ringOf : ByteArray := prog_10_method_24_code
def yX8_ringOf : MethodName := ⟨RX8, "ringOf", "(I)I"⟩
abbrev cX8_goesBy : ByteArray := prog_10_method_25_code
def yX8_goesBy : MethodName := ⟨RX8, "goesBy", "(II)V"⟩
abbrev cX8_able : ByteArray := prog_10_method_26_code
def yX8_able : MethodName := ⟨RX8, "able", "()I"⟩
abbrev cX8_all : ByteArray := prog_10_method_27_code
def yX8_all : MethodName := ⟨RX8, "all", "()I"⟩
abbrev cX8_person : ByteArray := prog_10_method_28_code
def yX8_person : MethodName := ⟨RX8, "person", "(II)I"⟩
abbrev cX8_wants : ByteArray := prog_10_method_29_code
def yX8_wants : MethodName := ⟨RX8, "wants", "(II)I"⟩
abbrev cX8_bit : ByteArray := prog_10_method_30_code
def yX8_bit : MethodName := ⟨RX8, "bit", "(I)I"⟩
abbrev cX8_now : ByteArray := prog_10_method_31_code
def yX8_now : MethodName := ⟨RX8, "now", "(I)I"⟩
abbrev cX8_remembers : ByteArray := prog_10_method_32_code
def yX8_remembers : MethodName := ⟨RX8, "remembers", "()V"⟩
abbrev cX8_gives : ByteArray := prog_10_method_33_code
def yX8_gives : MethodName := ⟨RX8, "gives", "(I)I"⟩
abbrev cX8_takes : ByteArray := prog_10_method_34_code
def yX8_takes : MethodName := ⟨RX8, "takes", "(I)I"⟩
abbrev cX8_night : ByteArray := prog_10_method_35_code
def yX8_night : MethodName := ⟨RX8, "night", "()I"⟩
abbrev cX8_sumOf : ByteArray := prog_10_method_36_code
def yX8_sumOf : MethodName := ⟨RX8, "sumOf", "(I)I"⟩
abbrev cX8_joins : ByteArray := prog_10_method_37_code
def yX8_joins : MethodName := ⟨RX8, "joins", "(I)I"⟩
abbrev cX8_laws : ByteArray := prog_10_method_38_code
def yX8_laws : MethodName := ⟨RX8, "laws", "(I)I"⟩
abbrev cX8_undo : ByteArray := prog_10_method_39_code
def yX8_undo : MethodName := ⟨RX8, "undo", "()I"⟩
abbrev cX8_would : ByteArray := prog_10_method_40_code
def yX8_would : MethodName := ⟨RX8, "would", "(I)I"⟩
abbrev cX8_served : ByteArray := prog_10_method_41_code
def yX8_served : MethodName := ⟨RX8, "served", "(I)I"⟩
abbrev cX8_get : ByteArray := prog_10_method_42_code
def yX8_get : MethodName := ⟨RX8, "get", "(II)I"⟩
abbrev cX8_most : ByteArray := prog_10_method_43_code
def yX8_most : MethodName := ⟨RX8, "most", "(I)I"⟩
abbrev cX8_isWanted : ByteArray := prog_10_method_44_code
def yX8_isWanted : MethodName := ⟨RX8, "isWanted", "(II)Z"⟩
abbrev cX8_wayOf : ByteArray := prog_10_method_45_code
def yX8_wayOf : MethodName := ⟨RX8, "wayOf", "(II)I"⟩
abbrev cX8_could : ByteArray := prog_10_method_46_code
def yX8_could : MethodName := ⟨RX8, "could", "(I)I"⟩
abbrev cX8_lowest : ByteArray := prog_10_method_47_code
def yX8_lowest : MethodName := ⟨RX8, "lowest", "(III)I"⟩
abbrev cX8_odds : ByteArray := prog_10_method_48_code
def yX8_odds : MethodName := ⟨RX8, "odds", "(III)I"⟩
abbrev cX8_hours : ByteArray := prog_10_method_49_code
def yX8_hours : MethodName := ⟨RX8, "hours", "()I"⟩
abbrev cX8_join : ByteArray := prog_10_method_50_code
def yX8_join : MethodName := ⟨RX8, "join", "(I)I"⟩
abbrev cX8_tells : ByteArray := prog_10_method_51_code
def yX8_tells : MethodName := ⟨RX8, "tells", "(III)I"⟩
abbrev cX8_forget : ByteArray := prog_10_method_52_code
def yX8_forget : MethodName := ⟨RX8, "forget", "()I"⟩
abbrev cX8_isSo : ByteArray := prog_10_method_53_code
def yX8_isSo : MethodName := ⟨RX8, "isSo", "(II)Z"⟩
abbrev cX8_fits : ByteArray := prog_10_method_54_code
def yX8_fits : MethodName := ⟨RX8, "fits", "()I"⟩
abbrev cX8_stop : ByteArray := prog_10_method_55_code
def yX8_stop : MethodName := ⟨RX8, "stop", "(IIIII)I"⟩
abbrev cX8_wantedBy : ByteArray := prog_10_method_56_code
def yX8_wantedBy : MethodName := ⟨RX8, "wantedBy", "(I)I"⟩
abbrev cX8_whoHas : ByteArray := prog_10_method_57_code
def yX8_whoHas : MethodName := ⟨RX8, "whoHas", "(I)I"⟩
abbrev cX8_rate : ByteArray := prog_10_method_58_code
def yX8_rate : MethodName := ⟨RX8, "rate", "(II)I"⟩
abbrev cX8_keep : ByteArray := prog_10_method_59_code
def yX8_keep : MethodName := ⟨RX8, "keep", "(I)I"⟩
abbrev cX8_back : ByteArray := prog_10_method_60_code
def yX8_back : MethodName := ⟨RX8, "back", "(I)I"⟩
abbrev cX8_count : ByteArray := prog_10_method_61_code
def yX8_count : MethodName := ⟨RX8, "count", "(I)I"⟩
abbrev cX8_trace : ByteArray := prog_10_method_62_code
def yX8_trace : MethodName := ⟨RX8, "trace", "()J"⟩
def RJ6 : String := "java/lang/Integer"
def TJ6 : u_T := fun k => match k with
  | _ => ("", "", "", false)
def tyJ6 : Nat → FieldType := fun k => match k with
  | _ => .int
abbrev wsJ60 : List Cond := u_ws RJ6 TJ6 0
theorem nmJ6 : ∀ a, a < 0 → ∀ b, b < 0 → a ≠ b → (TJ6 a).2.1 ≠ (TJ6 b).2.1 := by decide +kernel
theorem tyJ6_ok : ∀ k, k < 0 → parseFieldDescriptor (TJ6 k).2.2.1 = some (tyJ6 k) := by decide +kernel
abbrev cJ6_bitCount_0f7a4 : ByteArray := prog_11_method_49_code
def yJ6_bitCount_0f7a4 : MethodName := ⟨RJ6, "bitCount", "(I)I"⟩
def RJ9 : String := "java/lang/Math"
def TJ9 : u_T := fun k => match k with
  | _ => ("", "", "", false)
def tyJ9 : Nat → FieldType := fun k => match k with
  | _ => .int
abbrev wsJ90 : List Cond := u_ws RJ9 TJ9 0
theorem nmJ9 : ∀ a, a < 0 → ∀ b, b < 0 → a ≠ b → (TJ9 a).2.1 ≠ (TJ9 b).2.1 := by decide +kernel
theorem tyJ9_ok : ∀ k, k < 0 → parseFieldDescriptor (TJ9 k).2.2.1 = some (tyJ9 k) := by decide +kernel
abbrev cJ9_abs_0f7a4 : ByteArray := prog_12_method_59_code
def yJ9_abs_0f7a4 : MethodName := ⟨RJ9, "abs", "(I)I"⟩
abbrev cJ9_max_7cf53 : ByteArray := prog_12_method_65_code
def yJ9_max_7cf53 : MethodName := ⟨RJ9, "max", "(II)I"⟩
abbrev cJ9_min_7cf53 : ByteArray := prog_12_method_69_code
def yJ9_min_7cf53 : MethodName := ⟨RJ9, "min", "(II)I"⟩
def RL : String := "SmashedHoursLaw"
abbrev cL_law : ByteArray := code
def yL_law : MethodName := ⟨RL, "law", "([I)Z"⟩
abbrev vwCl : List vw_C := [(RX0, TX0, 8), (RX1, TX1, 3), (RX2, TX2, 7), (RX3, TX3, 2), (RX4, TX4, 8), (RX5, TX5, 2), (RX6, TX6, 9), (RX7, TX7, 14), (RX8, TX8, 34)]
/-! the words that may be handed down, in one list; each by its place -/
def gw : List Cond := lw_tbl.filter goodWord
theorem gw_t (i : Nat) {w : Cond} (h : tables_1[i]? = some w) (g : goodWord w = true) : w ∈ gw := List.mem_filter.mpr ⟨List.mem_append_right _ (List.mem_of_getElem? h), g⟩
theorem gw_s (i : Nat) {w : Cond} (h : (k2_sels lw_privs)[i]? = some w) (g : goodWord w = true) : w ∈ gw := List.mem_filter.mpr ⟨List.mem_append_left _ (List.mem_of_getElem? h), g⟩
def gwc_0 : List Cond := [Cond.initialized RL, Cond.initialized RX7, Cond.initialized RX4, Cond.initialized RX2, Cond.initialized RX0, Cond.initialized RX1, Cond.initialized RX6, Cond.initialized RX5, Cond.initialized RX3, Cond.initialized RX8, Cond.initialized RJ9, Cond.initialized RJ6, Cond.classLink RL 7 RX7, Cond.instantiable RX7 14, Cond.methodLink RL 9 yX7_init, Cond.instanceMethod yX7_init, Cond.code yX7_init cX7_init 2 none, Cond.methodLink RX7 1 objectInit, Cond.instanceMethod objectInit, Cond.code objectInit object_method_1_code 1 none, Cond.classLink RX7 7 RX4, Cond.instantiable RX4 8, Cond.methodLinkNest RX7 9 yX4_init RX7, Cond.instanceMethod yX4_init, Cond.code yX4_init cX4_init 1 none]
def gwc_1 : List Cond := [Cond.methodLink RX4 3 objectInit, Cond.classLink RX4 9 RX2, Cond.instantiable RX2 7, Cond.methodLinkNest RX4 11 yX2_init RX7, Cond.instanceMethod yX2_init, Cond.code yX2_init cX2_init 1 none, Cond.methodLink RX2 3 objectInit, Cond.classLink RX2 18 "[[I", (Jvm.Cond.arrayOver (Jvm.ClassFile.FieldType.array Jvm.ClassFile.FieldType.int)), Cond.fieldLink RX2 9 "SmashedHours$House" "weight" "[I", Cond.fieldLink RX7 112 "SmashedHours$House" "weight" "[I", Cond.fieldLink RX6 84 "SmashedHours$House" "weight" "[I", Cond.fieldLink RX0 59 "SmashedHours$House" "weight" "[I", Cond.fieldLink RX2 15 "SmashedHours$House" "nights" "[I", Cond.fieldLink RX0 27 "SmashedHours$House" "nights" "[I", Cond.fieldLink RX2 20 "SmashedHours$House" "wanted" "[[I", Cond.fieldLink RX6 76 "SmashedHours$House" "wanted" "[[I", Cond.fieldLink RX7 131 "SmashedHours$House" "wanted" "[[I", Cond.fieldLink RX2 23 "SmashedHours$House" "wantCount" "[I", Cond.fieldLink RX6 73 "SmashedHours$House" "wantCount" "[I", Cond.fieldLink RX7 128 "SmashedHours$House" "wantCount" "[I", Cond.fieldLink RX2 26 "SmashedHours$House" "wantBits" "[I", Cond.fieldLink RX5 47 "SmashedHours$House" "wantBits" "[I", Cond.fieldLink RX2 29 "SmashedHours$House" "size" "I", Cond.fieldLink RX6 56 "SmashedHours$House" "size" "I"]
def gwc_2 : List Cond := [Cond.fieldLink RX4 55 "SmashedHours$House" "size" "I", Cond.fieldLink RX7 193 "SmashedHours$House" "size" "I", Cond.fieldLink RX2 33 "SmashedHours$House" "law" "I", Cond.fieldLink RX0 43 "SmashedHours$House" "law" "I", Cond.fieldLink RX4 78 "SmashedHours$House" "law" "I", (Jvm.Cond.laysFinal "SmashedHours$House" "SmashedHours$House" "weight" "[I"), (Jvm.Cond.soleField "SmashedHours$House" "weight"), (Jvm.Cond.laysFinal "SmashedHours$House" "SmashedHours$House" "nights" "[I"), (Jvm.Cond.soleField "SmashedHours$House" "nights"), (Jvm.Cond.laysFinal "SmashedHours$House" "SmashedHours$House" "wanted" "[[I"), (Jvm.Cond.soleField "SmashedHours$House" "wanted"), (Jvm.Cond.laysFinal "SmashedHours$House" "SmashedHours$House" "wantCount" "[I"), (Jvm.Cond.soleField "SmashedHours$House" "wantCount"), (Jvm.Cond.laysFinal "SmashedHours$House" "SmashedHours$House" "wantBits" "[I"), (Jvm.Cond.soleField "SmashedHours$House" "wantBits"), (Jvm.Cond.lays "SmashedHours$House" "SmashedHours$House" "size" "I"), (Jvm.Cond.soleField "SmashedHours$House" "size"), (Jvm.Cond.lays "SmashedHours$House" "SmashedHours$House" "law" "I"), (Jvm.Cond.soleField "SmashedHours$House" "law"), (Jvm.Cond.superclass "SmashedHours$House" "java/lang/Object"), Cond.arrayClass .int, Cond.fieldLink RX4 12 "SmashedHours$Script" "draft" "LSmashedHours$House;", Cond.fieldLink RX7 94 "SmashedHours$Script" "draft" "LSmashedHours$House;", Cond.fieldLink RX4 18 "SmashedHours$Script" "letters" "[I", Cond.fieldLink RX4 22 "SmashedHours$Script" "length" "I"]
def gwc_3 : List Cond := [Cond.fieldLink RX7 86 "SmashedHours$Script" "length" "I", Cond.fieldLink RX4 29 "SmashedHours$Script" "place" "I", Cond.fieldLink RX4 52 "SmashedHours$Script" "tokenPlace" "I", Cond.fieldLink RX4 39 "SmashedHours$Script" "token" "I", Cond.fieldLink RX4 62 "SmashedHours$Script" "value" "I", Cond.fieldLink RX4 32 "SmashedHours$Script" "lawTold" "Z", (Jvm.Cond.laysFinal "SmashedHours$Script" "SmashedHours$Script" "draft" "LSmashedHours$House;"), (Jvm.Cond.soleField "SmashedHours$Script" "draft"), (Jvm.Cond.laysFinal "SmashedHours$Script" "SmashedHours$Script" "letters" "[I"), (Jvm.Cond.soleField "SmashedHours$Script" "letters"), (Jvm.Cond.lays "SmashedHours$Script" "SmashedHours$Script" "length" "I"), (Jvm.Cond.soleField "SmashedHours$Script" "length"), (Jvm.Cond.lays "SmashedHours$Script" "SmashedHours$Script" "place" "I"), (Jvm.Cond.soleField "SmashedHours$Script" "place"), (Jvm.Cond.lays "SmashedHours$Script" "SmashedHours$Script" "tokenPlace" "I"), (Jvm.Cond.soleField "SmashedHours$Script" "tokenPlace"), (Jvm.Cond.lays "SmashedHours$Script" "SmashedHours$Script" "token" "I"), (Jvm.Cond.soleField "SmashedHours$Script" "token"), (Jvm.Cond.lays "SmashedHours$Script" "SmashedHours$Script" "value" "I"), (Jvm.Cond.soleField "SmashedHours$Script" "value"), (Jvm.Cond.lays "SmashedHours$Script" "SmashedHours$Script" "lawTold" "Z"), (Jvm.Cond.soleField "SmashedHours$Script" "lawTold"), (Jvm.Cond.superclass "SmashedHours$Script" "java/lang/Object"), Cond.classLink RX7 16 RX2, Cond.methodLinkNest RX7 18 yX2_init RX7]
def gwc_4 : List Cond := [Cond.classLink RX7 23 RX0, Cond.instantiable RX0 8, Cond.methodLink RX7 25 yX0_init, Cond.instanceMethod yX0_init, Cond.code yX0_init cX0_init 2 none, Cond.methodLink RX0 3 objectInit, Cond.fieldLink RX0 9 "SmashedHours$Affairs" "has" "[I", Cond.fieldLink RX5 20 "SmashedHours$Affairs" "has" "[I", Cond.fieldLink RX7 118 "SmashedHours$Affairs" "has" "[I", Cond.fieldLink RX0 15 "SmashedHours$Affairs" "left" "[I", Cond.fieldLink RX7 115 "SmashedHours$Affairs" "left" "[I", Cond.fieldLink RX0 18 "SmashedHours$Affairs" "bits" "[I", Cond.fieldLink RX7 138 "SmashedHours$Affairs" "bits" "[I", Cond.fieldLink RX3 18 "SmashedHours$Affairs" "bitCount" "I", Cond.fieldLink RX0 30 "SmashedHours$Affairs" "bitCount" "I", Cond.fieldLink RX7 135 "SmashedHours$Affairs" "bitCount" "I", Cond.fieldLink RX0 34 "SmashedHours$Affairs" "given" "I", Cond.fieldLink RX7 121 "SmashedHours$Affairs" "given" "I", Cond.fieldLink RX0 37 "SmashedHours$Affairs" "made" "I", Cond.fieldLink RX7 144 "SmashedHours$Affairs" "made" "I", Cond.fieldLink RX0 40 "SmashedHours$Affairs" "gone" "I", Cond.fieldLink RX7 141 "SmashedHours$Affairs" "gone" "I", Cond.fieldLink RX0 46 "SmashedHours$Affairs" "law" "I", Cond.fieldLink RX7 147 "SmashedHours$Affairs" "law" "I", (Jvm.Cond.laysFinal "SmashedHours$Affairs" "SmashedHours$Affairs" "has" "[I")]
def gwc_5 : List Cond := [(Jvm.Cond.soleField "SmashedHours$Affairs" "has"), (Jvm.Cond.laysFinal "SmashedHours$Affairs" "SmashedHours$Affairs" "left" "[I"), (Jvm.Cond.soleField "SmashedHours$Affairs" "left"), (Jvm.Cond.laysFinal "SmashedHours$Affairs" "SmashedHours$Affairs" "bits" "[I"), (Jvm.Cond.soleField "SmashedHours$Affairs" "bits"), (Jvm.Cond.lays "SmashedHours$Affairs" "SmashedHours$Affairs" "bitCount" "I"), (Jvm.Cond.soleField "SmashedHours$Affairs" "bitCount"), (Jvm.Cond.lays "SmashedHours$Affairs" "SmashedHours$Affairs" "given" "I"), (Jvm.Cond.soleField "SmashedHours$Affairs" "given"), (Jvm.Cond.lays "SmashedHours$Affairs" "SmashedHours$Affairs" "made" "I"), (Jvm.Cond.soleField "SmashedHours$Affairs" "made"), (Jvm.Cond.lays "SmashedHours$Affairs" "SmashedHours$Affairs" "gone" "I"), (Jvm.Cond.soleField "SmashedHours$Affairs" "gone"), (Jvm.Cond.lays "SmashedHours$Affairs" "SmashedHours$Affairs" "law" "I"), (Jvm.Cond.soleField "SmashedHours$Affairs" "law"), (Jvm.Cond.superclass "SmashedHours$Affairs" "java/lang/Object"), Cond.classLink RX7 30 RX1, Cond.instantiable RX1 3, Cond.methodLink RX7 32 yX1_init, Cond.instanceMethod yX1_init, Cond.code yX1_init cX1_init 2 none, Cond.methodLink RX1 3 objectInit, Cond.classLink RX1 9 RX0, (Jvm.Cond.arrayOver (Jvm.ClassFile.FieldType.object "SmashedHours$Affairs")), Cond.methodLink RX1 17 yX0_init]
def gwc_6 : List Cond := [Cond.fieldLink RX1 11 "SmashedHours$History" "rows" "[LSmashedHours$Affairs;", Cond.fieldLink RX1 18 "SmashedHours$History" "next" "I", Cond.fieldLink RX1 26 "SmashedHours$History" "known" "I", Cond.fieldLink RX7 103 "SmashedHours$History" "known" "I", (Jvm.Cond.laysFinal "SmashedHours$History" "SmashedHours$History" "rows" "[LSmashedHours$Affairs;"), (Jvm.Cond.soleField "SmashedHours$History" "rows"), (Jvm.Cond.lays "SmashedHours$History" "SmashedHours$History" "next" "I"), (Jvm.Cond.soleField "SmashedHours$History" "next"), (Jvm.Cond.lays "SmashedHours$History" "SmashedHours$History" "known" "I"), (Jvm.Cond.soleField "SmashedHours$History" "known"), (Jvm.Cond.superclass "SmashedHours$History" "java/lang/Object"), Cond.classLink RX7 45 RX6, Cond.instantiable RX6 9, Cond.methodLink RX7 47 yX6_init, Cond.instanceMethod yX6_init, Cond.code yX6_init cX6_init 2 none, Cond.methodLink RX6 3 objectInit, Cond.fieldLink RX6 27 "SmashedHours$Silk" "people" "LSmashedHours$House;", Cond.fieldLink RX6 9 "SmashedHours$Silk" "gave" "[I", Cond.fieldLink RX6 15 "SmashedHours$Silk" "giver" "[I", Cond.fieldLink RX6 18 "SmashedHours$Silk" "aims" "[I", Cond.fieldLink RX6 35 "SmashedHours$Silk" "left" "I", Cond.fieldLink RX6 21 "SmashedHours$Silk" "got" "[I", Cond.fieldLink RX0 51 "SmashedHours$Silk" "got" "[I", Cond.fieldLink RX7 190 "SmashedHours$Silk" "got" "[I"]
def gwc_7 : List Cond := [Cond.fieldLink RX6 24 "SmashedHours$Silk" "lumps" "[I", Cond.fieldLink RX0 62 "SmashedHours$Silk" "lumps" "[I", Cond.fieldLink RX6 50 "SmashedHours$Silk" "lumpCount" "I", Cond.fieldLink RX0 56 "SmashedHours$Silk" "lumpCount" "I", Cond.fieldLink RX6 53 "SmashedHours$Silk" "ringed" "I", Cond.fieldLink RX7 173 "SmashedHours$Silk" "ringed" "I", (Jvm.Cond.laysFinal "SmashedHours$Silk" "SmashedHours$Silk" "people" "LSmashedHours$House;"), (Jvm.Cond.soleField "SmashedHours$Silk" "people"), (Jvm.Cond.laysFinal "SmashedHours$Silk" "SmashedHours$Silk" "gave" "[I"), (Jvm.Cond.soleField "SmashedHours$Silk" "gave"), (Jvm.Cond.laysFinal "SmashedHours$Silk" "SmashedHours$Silk" "giver" "[I"), (Jvm.Cond.soleField "SmashedHours$Silk" "giver"), (Jvm.Cond.laysFinal "SmashedHours$Silk" "SmashedHours$Silk" "aims" "[I"), (Jvm.Cond.soleField "SmashedHours$Silk" "aims"), (Jvm.Cond.lays "SmashedHours$Silk" "SmashedHours$Silk" "left" "I"), (Jvm.Cond.soleField "SmashedHours$Silk" "left"), (Jvm.Cond.laysFinal "SmashedHours$Silk" "SmashedHours$Silk" "got" "[I"), (Jvm.Cond.soleField "SmashedHours$Silk" "got"), (Jvm.Cond.laysFinal "SmashedHours$Silk" "SmashedHours$Silk" "lumps" "[I"), (Jvm.Cond.soleField "SmashedHours$Silk" "lumps"), (Jvm.Cond.lays "SmashedHours$Silk" "SmashedHours$Silk" "lumpCount" "I"), (Jvm.Cond.soleField "SmashedHours$Silk" "lumpCount"), (Jvm.Cond.lays "SmashedHours$Silk" "SmashedHours$Silk" "ringed" "I"), (Jvm.Cond.soleField "SmashedHours$Silk" "ringed"), (Jvm.Cond.superclass "SmashedHours$Silk" "java/lang/Object")]
def gwc_8 : List Cond := [Cond.arrayClass .boolean, Cond.classLink RX7 54 RX5, Cond.instantiable RX5 2, Cond.methodLinkNest RX7 56 yX5_init RX7, Cond.instanceMethod yX5_init, Cond.code yX5_init cX5_init 1 none, Cond.methodLink RX5 3 objectInit, Cond.classLink RX5 11 "[[I", Cond.fieldLink RX5 13 "SmashedHours$Sharing" "best" "[[I", Cond.fieldLink RX5 16 "SmashedHours$Sharing" "hours" "I", (Jvm.Cond.laysFinal "SmashedHours$Sharing" "SmashedHours$Sharing" "best" "[[I"), (Jvm.Cond.soleField "SmashedHours$Sharing" "best"), (Jvm.Cond.lays "SmashedHours$Sharing" "SmashedHours$Sharing" "hours" "I"), (Jvm.Cond.soleField "SmashedHours$Sharing" "hours"), (Jvm.Cond.superclass "SmashedHours$Sharing" "java/lang/Object"), Cond.classLink RX7 61 RX3, Cond.instantiable RX3 2, Cond.methodLinkNest RX7 63 yX3_init RX7, Cond.instanceMethod yX3_init, Cond.code yX3_init cX3_init 1 none, Cond.methodLink RX3 3 objectInit, Cond.fieldLink RX3 11 "SmashedHours$Lumps" "sums" "[I", Cond.fieldLink RX3 15 "SmashedHours$Lumps" "hours" "[I", (Jvm.Cond.laysFinal "SmashedHours$Lumps" "SmashedHours$Lumps" "sums" "[I"), (Jvm.Cond.soleField "SmashedHours$Lumps" "sums")]
def gwc_9 : List Cond := [(Jvm.Cond.laysFinal "SmashedHours$Lumps" "SmashedHours$Lumps" "hours" "[I"), (Jvm.Cond.soleField "SmashedHours$Lumps" "hours"), (Jvm.Cond.superclass "SmashedHours$Lumps" "java/lang/Object"), Cond.fieldLink RX7 10 "SmashedHours" "script" "LSmashedHours$Script;", Cond.fieldLink RX7 19 "SmashedHours" "people" "LSmashedHours$House;", Cond.fieldLink RX7 26 "SmashedHours" "here" "LSmashedHours$Affairs;", Cond.fieldLink RX7 33 "SmashedHours" "history" "LSmashedHours$History;", Cond.fieldLink RX7 37 "SmashedHours" "images" "[LSmashedHours$Affairs;", Cond.fieldLink RX7 41 "SmashedHours" "kept" "[Z", Cond.fieldLink RX7 50 "SmashedHours" "silk" "LSmashedHours$Silk;", Cond.fieldLink RX7 57 "SmashedHours" "sharing" "LSmashedHours$Sharing;", Cond.fieldLink RX7 64 "SmashedHours" "lumps" "LSmashedHours$Lumps;", Cond.fieldLink RX7 68 "SmashedHours" "toldSet" "[I", Cond.fieldLink RX7 72 "SmashedHours" "toldWho" "[I", Cond.fieldLink RX7 75 "SmashedHours" "toldHour" "[I", Cond.fieldLink RX7 106 "SmashedHours" "told" "I", Cond.fieldLink RX7 257 "SmashedHours" "marks" "J", (Jvm.Cond.laysFinal "SmashedHours" "SmashedHours" "script" "LSmashedHours$Script;"), (Jvm.Cond.soleField "SmashedHours" "script"), (Jvm.Cond.laysFinal "SmashedHours" "SmashedHours" "people" "LSmashedHours$House;"), (Jvm.Cond.soleField "SmashedHours" "people"), (Jvm.Cond.laysFinal "SmashedHours" "SmashedHours" "here" "LSmashedHours$Affairs;"), (Jvm.Cond.soleField "SmashedHours" "here"), (Jvm.Cond.laysFinal "SmashedHours" "SmashedHours" "history" "LSmashedHours$History;"), (Jvm.Cond.soleField "SmashedHours" "history")]
def gwc_10 : List Cond := [(Jvm.Cond.laysFinal "SmashedHours" "SmashedHours" "images" "[LSmashedHours$Affairs;"), (Jvm.Cond.soleField "SmashedHours" "images"), (Jvm.Cond.laysFinal "SmashedHours" "SmashedHours" "kept" "[Z"), (Jvm.Cond.soleField "SmashedHours" "kept"), (Jvm.Cond.laysFinal "SmashedHours" "SmashedHours" "silk" "LSmashedHours$Silk;"), (Jvm.Cond.soleField "SmashedHours" "silk"), (Jvm.Cond.laysFinal "SmashedHours" "SmashedHours" "sharing" "LSmashedHours$Sharing;"), (Jvm.Cond.soleField "SmashedHours" "sharing"), (Jvm.Cond.laysFinal "SmashedHours" "SmashedHours" "lumps" "LSmashedHours$Lumps;"), (Jvm.Cond.soleField "SmashedHours" "lumps"), (Jvm.Cond.laysFinal "SmashedHours" "SmashedHours" "toldSet" "[I"), (Jvm.Cond.soleField "SmashedHours" "toldSet"), (Jvm.Cond.laysFinal "SmashedHours" "SmashedHours" "toldWho" "[I"), (Jvm.Cond.soleField "SmashedHours" "toldWho"), (Jvm.Cond.laysFinal "SmashedHours" "SmashedHours" "toldHour" "[I"), (Jvm.Cond.soleField "SmashedHours" "toldHour"), (Jvm.Cond.lays "SmashedHours" "SmashedHours" "told" "I"), (Jvm.Cond.soleField "SmashedHours" "told"), (Jvm.Cond.lays "SmashedHours" "SmashedHours" "marks" "J"), (Jvm.Cond.soleField "SmashedHours" "marks"), (Jvm.Cond.superclass "SmashedHours" "java/lang/Object"), Cond.methodLink RL 13 yX7_type, Cond.instanceMethod yX7_type, Cond.selects RX7 yX7_type yX7_type, Cond.code yX7_type cX7_type 2 (some .int)]
def gwc_11 : List Cond := [Cond.methodLink RX7 78 yX7_within, Cond.static yX7_within, Cond.code yX7_within cX7_within 3 (some .boolean), Cond.methodLink RX7 82 yX4_add, Cond.instanceMethod yX4_add, Cond.selects RX4 yX4_add yX4_add, Cond.code yX4_add cX4_add 2 (some .boolean), Cond.methodLink RL 18 yX7_clear, Cond.instanceMethod yX7_clear, Cond.selects RX7 yX7_clear yX7_clear, Cond.code yX7_clear cX7_clear 2 (some .int), Cond.methodLink RL 23 yX7_house, Cond.instanceMethod yX7_house, Cond.selects RX7 yX7_house yX7_house, Cond.code yX7_house cX7_house 3 (some .int), Cond.methodLink RX7 90 yX4_read, Cond.instanceMethod yX4_read, Cond.selects RX4 yX4_read yX4_read, Cond.code yX4_read cX4_read 4 (some .int), Cond.methodLink RX4 26 yX2_empty, Cond.instanceMethod yX2_empty, Cond.selects RX2 yX2_empty yX2_empty, Cond.code yX2_empty cX2_empty 1 none, Cond.methodLink RX4 36 yX4_step, (Jvm.Cond.privateMethod ({ cls := "SmashedHours$Script", name := "step", desc := "()V" } : Jvm.MethodName))]
def gwc_12 : List Cond := [Cond.instanceMethod yX4_step, Cond.code yX4_step cX4_step 1 none, Cond.methodLink RX4 85 yX4_isDigit, Cond.static yX4_isDigit, Cond.code yX4_isDigit cX4_isDigit 1 (some .boolean), Cond.methodLink RX4 89 yX4_readNumber, (Jvm.Cond.privateMethod ({ cls := "SmashedHours$Script", name := "readNumber", desc := "()Z" } : Jvm.MethodName)), Cond.instanceMethod yX4_readNumber, Cond.code yX4_readNumber cX4_readNumber 2 (some .boolean), Cond.methodLink RX4 42 yX4_readPerson, (Jvm.Cond.privateMethod ({ cls := "SmashedHours$Script", name := "readPerson", desc := "()Z" } : Jvm.MethodName)), Cond.instanceMethod yX4_readPerson, Cond.code yX4_readPerson cX4_readPerson 3 (some .boolean), Cond.methodLink RX4 58 yX4_stepToNumber, (Jvm.Cond.privateMethod ({ cls := "SmashedHours$Script", name := "stepToNumber", desc := "(II)Z" } : Jvm.MethodName)), Cond.instanceMethod yX4_stepToNumber, Cond.code yX4_stepToNumber cX4_stepToNumber 3 (some .boolean), Cond.methodLinkNest RX4 81 yX7_within RX7, Cond.methodLink RX4 65 yX4_stepToEnd, (Jvm.Cond.privateMethod ({ cls := "SmashedHours$Script", name := "stepToEnd", desc := "()Z" } : Jvm.MethodName)), Cond.instanceMethod yX4_stepToEnd, Cond.code yX4_stepToEnd cX4_stepToEnd 1 (some .boolean), Cond.methodLink RX4 68 yX2_addPerson, Cond.instanceMethod yX2_addPerson, Cond.selects RX2 yX2_addPerson yX2_addPerson]
def gwc_13 : List Cond := [Cond.code yX2_addPerson cX2_addPerson 3 (some .boolean), Cond.methodLink RX2 36 yX2_dropWants, Cond.instanceMethod yX2_dropWants, Cond.selects RX2 yX2_dropWants yX2_dropWants, Cond.code yX2_dropWants cX2_dropWants 2 none, Cond.methodLink RX4 46 yX4_readWants, (Jvm.Cond.privateMethod ({ cls := "SmashedHours$Script", name := "readWants", desc := "()Z" } : Jvm.MethodName)), Cond.instanceMethod yX4_readWants, Cond.code yX4_readWants cX4_readWants 3 (some .boolean), Cond.methodLink RX4 71 yX2_dropWants, Cond.methodLink RX4 75 yX2_addWant, Cond.instanceMethod yX2_addWant, Cond.selects RX2 yX2_addWant yX2_addWant, Cond.code yX2_addWant cX2_addWant 3 (some .boolean), Cond.methodLink RX2 40 yX2_knows, Cond.instanceMethod yX2_knows, Cond.selects RX2 yX2_knows yX2_knows, Cond.code yX2_knows cX2_knows 2 (some .boolean), Cond.methodLinkNest RX2 44 yX7_holds RX7, Cond.static yX7_holds, Cond.code yX7_holds cX7_holds 2 (some .boolean), Cond.methodLink RX4 49 yX4_readLaw, (Jvm.Cond.privateMethod ({ cls := "SmashedHours$Script", name := "readLaw", desc := "()Z" } : Jvm.MethodName)), Cond.instanceMethod yX4_readLaw, Cond.code yX4_readLaw cX4_readLaw 1 (some .boolean)]
def gwc_14 : List Cond := [Cond.methodLink RX7 97 yX2_become, Cond.instanceMethod yX2_become, Cond.selects RX2 yX2_become yX2_become, Cond.code yX2_become cX2_become 4 none, Cond.methodLink RX7 100 yX0_begin, Cond.instanceMethod yX0_begin, Cond.selects RX0 yX0_begin yX0_begin, Cond.code yX0_begin cX0_begin 3 none, Cond.methodLink RX0 21 yX2_knows, Cond.methodLink RL 27 yX7_person, Cond.instanceMethod yX7_person, Cond.selects RX7 yX7_person yX7_person, Cond.code yX7_person cX7_person 3 (some .int), Cond.methodLink RX7 109 yX2_knows, Cond.methodLink RX7 124 yX7_holds, Cond.methodLink RL 32 yX7_wants, Cond.instanceMethod yX7_wants, Cond.selects RX7 yX7_wants yX7_wants, Cond.code yX7_wants cX7_wants 3 (some .int), Cond.methodLink RL 36 yX7_bit, Cond.instanceMethod yX7_bit, Cond.selects RX7 yX7_bit yX7_bit, Cond.code yX7_bit cX7_bit 2 (some .int), Cond.methodLink RL 40 yX7_now, Cond.instanceMethod yX7_now]
def gwc_15 : List Cond := [Cond.selects RX7 yX7_now yX7_now, Cond.code yX7_now cX7_now 2 (some .int), Cond.methodLink RX7 150 yX0_withTheirOwn, Cond.instanceMethod yX0_withTheirOwn, Cond.selects RX0 yX0_withTheirOwn yX0_withTheirOwn, Cond.code yX0_withTheirOwn cX0_withTheirOwn 3 (some .int), Cond.methodLink RL 44 yX7_gives, Cond.instanceMethod yX7_gives, Cond.selects RX7 yX7_gives yX7_gives, Cond.code yX7_gives cX7_gives 2 (some .int), Cond.methodLink RX7 153 yX0_able, Cond.instanceMethod yX0_able, Cond.selects RX0 yX0_able yX0_able, Cond.code yX0_able cX0_able 3 (some .int), Cond.methodLink RX7 156 yX1_remember, Cond.instanceMethod yX1_remember, Cond.selects RX1 yX1_remember yX1_remember, Cond.code yX1_remember cX1_remember 2 none, Cond.methodLink RX1 22 yX0_become, Cond.instanceMethod yX0_become, Cond.selects RX0 yX0_become yX0_become, Cond.code yX0_become cX0_become 3 none, Cond.methodLink RX1 29 yJ9_min_7cf53, Cond.static yJ9_min_7cf53, Cond.code yJ9_min_7cf53 cJ9_min_7cf53 2 (some .int)]
def gwc_16 : List Cond := [Cond.methodLink RX7 160 yJ6_bitCount_0f7a4, Cond.static yJ6_bitCount_0f7a4, Cond.code yJ6_bitCount_0f7a4 cJ6_bitCount_0f7a4 1 (some .int), Cond.constant RJ6 265 (1431655765), Cond.constant RJ6 266 (858993459), Cond.constant RJ6 267 (252645135), Cond.methodLink RL 48 yX7_takes, Cond.instanceMethod yX7_takes, Cond.selects RX7 yX7_takes yX7_takes, Cond.code yX7_takes cX7_takes 2 (some .int), Cond.methodLink RL 52 yX7_night, Cond.instanceMethod yX7_night, Cond.selects RX7 yX7_night yX7_night, Cond.code yX7_night cX7_night 1 (some .int), Cond.methodLink RX7 165 yX6_play, Cond.instanceMethod yX6_play, Cond.selects RX6 yX6_play yX6_play, Cond.code yX6_play cX6_play 6 none, Cond.methodLink RX6 31 yX6_lay, (Jvm.Cond.privateMethod ({ cls := "SmashedHours$Silk", name := "lay", desc := "([II)V" } : Jvm.MethodName)), Cond.instanceMethod yX6_lay, Cond.code yX6_lay cX6_lay 4 none, Cond.methodLinkNest RX6 61 yX7_holds RX7, Cond.methodLink RX6 65 yX2_knows, Cond.methodLink RX6 39 yX6_aimAll]
def gwc_17 : List Cond := [(Jvm.Cond.privateMethod ({ cls := "SmashedHours$Silk", name := "aimAll", desc := "(I)I" } : Jvm.MethodName)), Cond.instanceMethod yX6_aimAll, Cond.code yX6_aimAll cX6_aimAll 3 (some .int), Cond.methodLink RX6 69 yX6_aimOf, (Jvm.Cond.privateMethod ({ cls := "SmashedHours$Silk", name := "aimOf", desc := "(II)I" } : Jvm.MethodName)), Cond.instanceMethod yX6_aimOf, Cond.code yX6_aimOf cX6_aimOf 8 (some .int), Cond.methodLink RX6 80 yX6_distance, (Jvm.Cond.privateMethod ({ cls := "SmashedHours$Silk", name := "distance", desc := "(III)I" } : Jvm.MethodName)), Cond.instanceMethod yX6_distance, Cond.code yX6_distance cX6_distance 5 (some .int), Cond.methodLink RX6 87 yJ9_abs_0f7a4, Cond.static yJ9_abs_0f7a4, Cond.code yJ9_abs_0f7a4 cJ9_abs_0f7a4 1 (some .int), Cond.methodLink RX6 43 yX6_goRound, (Jvm.Cond.privateMethod ({ cls := "SmashedHours$Silk", name := "goRound", desc := "()V" } : Jvm.MethodName)), Cond.instanceMethod yX6_goRound, Cond.code yX6_goRound cX6_goRound 4 none, Cond.methodLink RX6 95 yX6_lowestLeft, (Jvm.Cond.privateMethod ({ cls := "SmashedHours$Silk", name := "lowestLeft", desc := "()I" } : Jvm.MethodName)), Cond.instanceMethod yX6_lowestLeft, Cond.code yX6_lowestLeft cX6_lowestLeft 2 (some .int), Cond.methodLink RX6 92 yX6_letOut, (Jvm.Cond.privateMethod ({ cls := "SmashedHours$Silk", name := "letOut", desc := "(I)V" } : Jvm.MethodName)), Cond.instanceMethod yX6_letOut]
def gwc_18 : List Cond := [Cond.code yX6_letOut cX6_letOut 2 none, Cond.methodLink RX6 46 yX6_smash, (Jvm.Cond.privateMethod ({ cls := "SmashedHours$Silk", name := "smash", desc := "(I)V" } : Jvm.MethodName)), Cond.instanceMethod yX6_smash, Cond.code yX6_smash cX6_smash 2 none, Cond.methodLink RX7 169 yX0_pass, Cond.instanceMethod yX0_pass, Cond.selects RX0 yX0_pass yX0_pass, Cond.code yX0_pass cX0_pass 4 none, Cond.methodLinkNest RX0 47 yX7_holds RX7, Cond.methodLink RL 56 yX7_joins, Cond.instanceMethod yX7_joins, Cond.selects RX7 yX7_joins yX7_joins, Cond.code yX7_joins cX7_joins 2 (some .int), Cond.methodLink RX7 176 yX7_isSetOf, Cond.static yX7_isSetOf, Cond.code yX7_isSetOf cX7_isSetOf 2 (some .boolean), Cond.methodLink RX7 179 yX0_minutes, Cond.instanceMethod yX0_minutes, Cond.selects RX0 yX0_minutes yX0_minutes, Cond.code yX0_minutes cX0_minutes 4 (some .int), Cond.methodLink RX7 182 yX0_dropBits, Cond.instanceMethod yX0_dropBits, Cond.selects RX0 yX0_dropBits yX0_dropBits, Cond.code yX0_dropBits cX0_dropBits 4 none]
def gwc_19 : List Cond := [Cond.methodLink RL 60 yX7_laws, Cond.instanceMethod yX7_laws, Cond.selects RX7 yX7_laws yX7_laws, Cond.code yX7_laws cX7_laws 3 (some .int), Cond.methodLink RL 64 yX7_undo, Cond.instanceMethod yX7_undo, Cond.selects RX7 yX7_undo yX7_undo, Cond.code yX7_undo cX7_undo 1 (some .int), Cond.methodLink RX7 186 yX1_restore, Cond.instanceMethod yX1_restore, Cond.selects RX1 yX1_restore yX1_restore, Cond.code yX1_restore cX1_restore 2 (some .boolean), Cond.methodLink RL 68 yX7_would, Cond.instanceMethod yX7_would, Cond.selects RX7 yX7_would yX7_would, Cond.code yX7_would cX7_would 2 (some .int), Cond.methodLink RL 72 yX7_served, Cond.instanceMethod yX7_served, Cond.selects RX7 yX7_served yX7_served, Cond.code yX7_served cX7_served 2 (some .int), Cond.methodLink RX7 196 yX7_isWithin, Cond.static yX7_isWithin, Cond.code yX7_isWithin cX7_isWithin 2 (some .boolean), Cond.methodLink RX7 199 yX7_servedOf, (Jvm.Cond.privateMethod ({ cls := "SmashedHours", name := "servedOf", desc := "(I)I" } : Jvm.MethodName))]
def gwc_20 : List Cond := [Cond.instanceMethod yX7_servedOf, Cond.code yX7_servedOf cX7_servedOf 2 (some .int), Cond.methodLink RL 76 yX7_get, Cond.instanceMethod yX7_get, Cond.selects RX7 yX7_get yX7_get, Cond.code yX7_get cX7_get 7 (some .int), Cond.methodLink RL 80 yX7_most, Cond.instanceMethod yX7_most, Cond.selects RX7 yX7_most yX7_most, Cond.code yX7_most cX7_most 8 (some .int), Cond.methodLink RL 84 yX7_could, Cond.instanceMethod yX7_could, Cond.selects RX7 yX7_could yX7_could, Cond.code yX7_could cX7_could 2 (some .int), Cond.methodLink RX7 202 yX5_weigh, Cond.instanceMethod yX5_weigh, Cond.selects RX5 yX5_weigh yX5_weigh, Cond.code yX5_weigh cX5_weigh 6 none, Cond.methodLink RX5 26 yX2_knows, Cond.methodLink RX5 32 yX5_wishOf, Cond.static yX5_wishOf, Cond.code yX5_wishOf cX5_wishOf 3 (some .int), Cond.methodLinkNest RX5 36 yX7_isWithin RX7, Cond.methodLink RX5 40 yX5_bestFrom, (Jvm.Cond.privateMethod ({ cls := "SmashedHours$Sharing", name := "bestFrom", desc := "(III)I" } : Jvm.MethodName))]
def gwc_21 : List Cond := [Cond.instanceMethod yX5_bestFrom, Cond.code yX5_bestFrom cX5_bestFrom 6 (some .int), Cond.methodLinkNest RX5 50 yX7_holds RX7, Cond.methodLink RX5 53 yJ9_max_7cf53, Cond.static yJ9_max_7cf53, Cond.code yJ9_max_7cf53 cJ9_max_7cf53 2 (some .int), Cond.methodLink RX7 206 yX5_mostServed, Cond.instanceMethod yX5_mostServed, Cond.selects RX5 yX5_mostServed yX5_mostServed, Cond.code yX5_mostServed cX5_mostServed 1 (some .int), Cond.methodLink RX7 209 yX5_hourOf, Cond.instanceMethod yX5_hourOf, Cond.selects RX5 yX5_hourOf yX5_hourOf, Cond.code yX5_hourOf cX5_hourOf 7 (some .int), Cond.methodLink RX5 44 yX5_firstFor, (Jvm.Cond.privateMethod ({ cls := "SmashedHours$Sharing", name := "firstFor", desc := "(III)I" } : Jvm.MethodName)), Cond.instanceMethod yX5_firstFor, Cond.code yX5_firstFor cX5_firstFor 5 (some .int), Cond.methodLink RL 88 yX7_odds, Cond.instanceMethod yX7_odds, Cond.selects RX7 yX7_odds yX7_odds, Cond.code yX7_odds cX7_odds 10 (some .int), Cond.methodLink RX7 213 yX7_part, Cond.static yX7_part, Cond.code yX7_part cX7_part 4 (some .int)]
def gwc_22 : List Cond := [Cond.methodLink RX7 280 yX7_greatestDivisor, Cond.static yX7_greatestDivisor, Cond.code yX7_greatestDivisor cX7_greatestDivisor 6 (some .int), Cond.methodLink RX7 231 yJ9_max_7cf53, Cond.methodLink RX7 217 yX7_power, Cond.static yX7_power, Cond.code yX7_power cX7_power 4 (some .int), Cond.methodLink RL 93 yX7_join, Cond.instanceMethod yX7_join, Cond.selects RX7 yX7_join yX7_join, Cond.code yX7_join cX7_join 2 (some .int), Cond.methodLink RX7 221 yX3_fullest, Cond.instanceMethod yX3_fullest, Cond.selects RX3 yX3_fullest yX3_fullest, Cond.code yX3_fullest cX3_fullest 6 (some .int), Cond.methodLink RX3 24 yX0_minutes, Cond.methodLink RX7 225 yX3_mostHours, Cond.instanceMethod yX3_mostHours, Cond.selects RX3 yX3_mostHours yX3_mostHours, Cond.code yX3_mostHours cX3_mostHours 4 (some .int), Cond.methodLink RX3 28 yX3_hoursOf, (Jvm.Cond.privateMethod ({ cls := "SmashedHours$Lumps", name := "hoursOf", desc := "(I)I" } : Jvm.MethodName)), Cond.instanceMethod yX3_hoursOf, Cond.code yX3_hoursOf cX3_hoursOf 5 (some .int), Cond.methodLink RX3 31 yJ9_max_7cf53]
def gwc_23 : List Cond := [Cond.methodLink RL 97 yX7_tells, Cond.instanceMethod yX7_tells, Cond.selects RX7 yX7_tells yX7_tells, Cond.code yX7_tells cX7_tells 4 (some .int), Cond.methodLink RL 101 yX7_forget, Cond.instanceMethod yX7_forget, Cond.selects RX7 yX7_forget yX7_forget, Cond.code yX7_forget cX7_forget 2 (some .int), Cond.methodLink RL 105 yX7_fits, Cond.instanceMethod yX7_fits, Cond.selects RX7 yX7_fits yX7_fits, Cond.code yX7_fits cX7_fits 3 (some .int), Cond.methodLink RX7 228 yX7_allToldIsSoBy, (Jvm.Cond.privateMethod ({ cls := "SmashedHours", name := "allToldIsSoBy", desc := "(I)Z" } : Jvm.MethodName)), Cond.instanceMethod yX7_allToldIsSoBy, Cond.code yX7_allToldIsSoBy cX7_allToldIsSoBy 3 (some .boolean), Cond.fieldLink RX7 261 "SmashedHours" "OWN" "[I", (Jvm.Cond.laysStatic "SmashedHours" "OWN" "[I"), Cond.methodLink RL 109 yX7_stop, Cond.instanceMethod yX7_stop, Cond.selects RX7 yX7_stop yX7_stop, Cond.code yX7_stop cX7_stop 10 (some .int), Cond.methodLink RL 114 yX7_rate, Cond.instanceMethod yX7_rate, Cond.selects RX7 yX7_rate yX7_rate]
def gwc_24 : List Cond := [Cond.code yX7_rate cX7_rate 3 (some .int), Cond.constant RX7 236 (-1000000), Cond.methodLink RX7 237 yX7_asHour, (Jvm.Cond.privateMethod ({ cls := "SmashedHours", name := "asHour", desc := "(I)I" } : Jvm.MethodName)), Cond.instanceMethod yX7_asHour, Cond.code yX7_asHour cX7_asHour 2 (some .int), Cond.methodLink RX7 240 yX7_asRiver, (Jvm.Cond.privateMethod ({ cls := "SmashedHours", name := "asRiver", desc := "(I)I" } : Jvm.MethodName)), Cond.instanceMethod yX7_asRiver, Cond.code yX7_asRiver cX7_asRiver 2 (some .int), Cond.constantLong RX7 264 (10), Cond.methodLink RX7 266 yX2_howManyWant, Cond.instanceMethod yX2_howManyWant, Cond.selects RX2 yX2_howManyWant yX2_howManyWant, Cond.code yX2_howManyWant cX2_howManyWant 4 (some .int), Cond.methodLink RX7 243 yX7_asBand, (Jvm.Cond.privateMethod ({ cls := "SmashedHours", name := "asBand", desc := "(I)I" } : Jvm.MethodName)), Cond.instanceMethod yX7_asBand, Cond.code yX7_asBand cX7_asBand 2 (some .int), Cond.constantLong RX7 269 (100), Cond.methodLink RX7 246 yX7_asDentist, (Jvm.Cond.privateMethod ({ cls := "SmashedHours", name := "asDentist", desc := "(I)I" } : Jvm.MethodName)), Cond.instanceMethod yX7_asDentist, Cond.code yX7_asDentist cX7_asDentist 2 (some .int), Cond.constantLong RX7 271 (1000)]
def gwc_25 : List Cond := [Cond.methodLink RX7 249 yX7_asWidow, (Jvm.Cond.privateMethod ({ cls := "SmashedHours", name := "asWidow", desc := "(I)I" } : Jvm.MethodName)), Cond.instanceMethod yX7_asWidow, Cond.code yX7_asWidow cX7_asWidow 3 (some .int), Cond.constantLong RX7 273 (10000), Cond.methodLink RX7 275 yX0_whoHas, Cond.instanceMethod yX0_whoHas, Cond.selects RX0 yX0_whoHas yX0_whoHas, Cond.code yX0_whoHas cX0_whoHas 3 (some .int), Cond.methodLink RX7 252 yX7_asMinute, (Jvm.Cond.privateMethod ({ cls := "SmashedHours", name := "asMinute", desc := "(I)I" } : Jvm.MethodName)), Cond.instanceMethod yX7_asMinute, Cond.code yX7_asMinute cX7_asMinute 2 (some .int), Cond.constantLong RX7 278 (100000), Cond.methodLink RL 118 yX7_keep, Cond.instanceMethod yX7_keep, Cond.selects RX7 yX7_keep yX7_keep, Cond.code yX7_keep cX7_keep 2 (some .int), Cond.methodLink RX7 255 yX0_become, Cond.methodLink RL 122 yX7_back, Cond.instanceMethod yX7_back, Cond.selects RX7 yX7_back yX7_back, Cond.code yX7_back cX7_back 2 (some .int), Cond.methodLink RL 126 yX7_count, Cond.instanceMethod yX7_count]
def gwc_26 : List Cond := [Cond.selects RX7 yX7_count yX7_count, Cond.code yX7_count cX7_count 2 (some .int), Cond.methodLink RL 130 yX7_trace, Cond.instanceMethod yX7_trace, Cond.selects RX7 yX7_trace yX7_trace, Cond.code yX7_trace cX7_trace 1 (some .long), Cond.classLink RL 10 RX8, Cond.instantiable RX8 34, Cond.methodLink RL 12 yX8_init, Cond.instanceMethod yX8_init, Cond.code yX8_init cX8_init 1 none, Cond.methodLink RX8 1 objectInit, Cond.fieldLink RX8 68 "SmashedHoursModel" "people" "I", Cond.fieldLink RX8 7 "SmashedHoursModel" "weight" "[I", Cond.fieldLink RX8 13 "SmashedHoursModel" "wants" "[I", Cond.fieldLink RX8 16 "SmashedHoursModel" "wantsMany" "[I", Cond.fieldLink RX8 19 "SmashedHoursModel" "st" "[I", Cond.fieldLink RX8 22 "SmashedHoursModel" "was" "[I", Cond.fieldLink RX8 135 "SmashedHoursModel" "known" "I", Cond.fieldLink RX8 25 "SmashedHoursModel" "images" "[I", Cond.fieldLink RX8 28 "SmashedHoursModel" "isKept" "[Z", Cond.fieldLink RX8 138 "SmashedHoursModel" "toldMany" "I", Cond.fieldLink RX8 32 "SmashedHoursModel" "told" "[I", Cond.fieldLink RX8 213 "SmashedHoursModel" "trace" "J", Cond.fieldLink RX8 35 "SmashedHoursModel" "text" "[I"]
def gwc_27 : List Cond := [Cond.fieldLink RX8 76 "SmashedHoursModel" "texted" "I", Cond.fieldLink RX8 79 "SmashedHoursModel" "cursor" "I", Cond.fieldLink RX8 86 "SmashedHoursModel" "start" "I", Cond.fieldLink RX8 92 "SmashedHoursModel" "token" "I", Cond.fieldLink RX8 89 "SmashedHoursModel" "number" "I", Cond.fieldLink RX8 99 "SmashedHoursModel" "isWrong" "Z", Cond.fieldLink RX8 126 "SmashedHoursModel" "items" "I", Cond.fieldLink RX8 106 "SmashedHoursModel" "saidPeople" "I", Cond.fieldLink RX8 38 "SmashedHoursModel" "saidWeight" "[I", Cond.fieldLink RX8 41 "SmashedHoursModel" "saidNights" "[I", Cond.fieldLink RX8 44 "SmashedHoursModel" "saidWants" "[I", Cond.fieldLink RX8 47 "SmashedHoursModel" "saidMany" "[I", Cond.fieldLink RX8 117 "SmashedHoursModel" "saidLaw" "I", Cond.fieldLink RX8 50 "SmashedHoursModel" "now" "[I", Cond.fieldLink RX8 53 "SmashedHoursModel" "gave" "[I", Cond.fieldLink RX8 56 "SmashedHoursModel" "at" "[I", Cond.fieldLink RX8 155 "SmashedHoursModel" "ringed" "I", Cond.fieldLink RX8 152 "SmashedHoursModel" "lumps" "I", Cond.fieldLink RX8 59 "SmashedHoursModel" "way" "[I", Cond.fieldLink RX8 62 "SmashedHoursModel" "bestWay" "[I", Cond.fieldLink RX8 65 "SmashedHoursModel" "made" "[I", (Jvm.Cond.lays "SmashedHoursModel" "SmashedHoursModel" "people" "I"), (Jvm.Cond.soleField "SmashedHoursModel" "people"), (Jvm.Cond.laysFinal "SmashedHoursModel" "SmashedHoursModel" "weight" "[I"), (Jvm.Cond.soleField "SmashedHoursModel" "weight")]
def gwc_28 : List Cond := [(Jvm.Cond.laysFinal "SmashedHoursModel" "SmashedHoursModel" "wants" "[I"), (Jvm.Cond.soleField "SmashedHoursModel" "wants"), (Jvm.Cond.laysFinal "SmashedHoursModel" "SmashedHoursModel" "wantsMany" "[I"), (Jvm.Cond.soleField "SmashedHoursModel" "wantsMany"), (Jvm.Cond.laysFinal "SmashedHoursModel" "SmashedHoursModel" "st" "[I"), (Jvm.Cond.soleField "SmashedHoursModel" "st"), (Jvm.Cond.laysFinal "SmashedHoursModel" "SmashedHoursModel" "was" "[I"), (Jvm.Cond.soleField "SmashedHoursModel" "was"), (Jvm.Cond.lays "SmashedHoursModel" "SmashedHoursModel" "known" "I"), (Jvm.Cond.soleField "SmashedHoursModel" "known"), (Jvm.Cond.laysFinal "SmashedHoursModel" "SmashedHoursModel" "images" "[I"), (Jvm.Cond.soleField "SmashedHoursModel" "images"), (Jvm.Cond.laysFinal "SmashedHoursModel" "SmashedHoursModel" "isKept" "[Z"), (Jvm.Cond.soleField "SmashedHoursModel" "isKept"), (Jvm.Cond.lays "SmashedHoursModel" "SmashedHoursModel" "toldMany" "I"), (Jvm.Cond.soleField "SmashedHoursModel" "toldMany"), (Jvm.Cond.laysFinal "SmashedHoursModel" "SmashedHoursModel" "told" "[I"), (Jvm.Cond.soleField "SmashedHoursModel" "told"), (Jvm.Cond.lays "SmashedHoursModel" "SmashedHoursModel" "trace" "J"), (Jvm.Cond.soleField "SmashedHoursModel" "trace"), (Jvm.Cond.laysFinal "SmashedHoursModel" "SmashedHoursModel" "text" "[I"), (Jvm.Cond.soleField "SmashedHoursModel" "text"), (Jvm.Cond.lays "SmashedHoursModel" "SmashedHoursModel" "texted" "I"), (Jvm.Cond.soleField "SmashedHoursModel" "texted"), (Jvm.Cond.lays "SmashedHoursModel" "SmashedHoursModel" "cursor" "I")]
def gwc_29 : List Cond := [(Jvm.Cond.soleField "SmashedHoursModel" "cursor"), (Jvm.Cond.lays "SmashedHoursModel" "SmashedHoursModel" "start" "I"), (Jvm.Cond.soleField "SmashedHoursModel" "start"), (Jvm.Cond.lays "SmashedHoursModel" "SmashedHoursModel" "token" "I"), (Jvm.Cond.soleField "SmashedHoursModel" "token"), (Jvm.Cond.lays "SmashedHoursModel" "SmashedHoursModel" "number" "I"), (Jvm.Cond.soleField "SmashedHoursModel" "number"), (Jvm.Cond.lays "SmashedHoursModel" "SmashedHoursModel" "isWrong" "Z"), (Jvm.Cond.soleField "SmashedHoursModel" "isWrong"), (Jvm.Cond.lays "SmashedHoursModel" "SmashedHoursModel" "items" "I"), (Jvm.Cond.soleField "SmashedHoursModel" "items"), (Jvm.Cond.lays "SmashedHoursModel" "SmashedHoursModel" "saidPeople" "I"), (Jvm.Cond.soleField "SmashedHoursModel" "saidPeople"), (Jvm.Cond.laysFinal "SmashedHoursModel" "SmashedHoursModel" "saidWeight" "[I"), (Jvm.Cond.soleField "SmashedHoursModel" "saidWeight"), (Jvm.Cond.laysFinal "SmashedHoursModel" "SmashedHoursModel" "saidNights" "[I"), (Jvm.Cond.soleField "SmashedHoursModel" "saidNights"), (Jvm.Cond.laysFinal "SmashedHoursModel" "SmashedHoursModel" "saidWants" "[I"), (Jvm.Cond.soleField "SmashedHoursModel" "saidWants"), (Jvm.Cond.laysFinal "SmashedHoursModel" "SmashedHoursModel" "saidMany" "[I"), (Jvm.Cond.soleField "SmashedHoursModel" "saidMany"), (Jvm.Cond.lays "SmashedHoursModel" "SmashedHoursModel" "saidLaw" "I"), (Jvm.Cond.soleField "SmashedHoursModel" "saidLaw"), (Jvm.Cond.laysFinal "SmashedHoursModel" "SmashedHoursModel" "now" "[I"), (Jvm.Cond.soleField "SmashedHoursModel" "now")]
def gwc_30 : List Cond := [(Jvm.Cond.laysFinal "SmashedHoursModel" "SmashedHoursModel" "gave" "[I"), (Jvm.Cond.soleField "SmashedHoursModel" "gave"), (Jvm.Cond.laysFinal "SmashedHoursModel" "SmashedHoursModel" "at" "[I"), (Jvm.Cond.soleField "SmashedHoursModel" "at"), (Jvm.Cond.lays "SmashedHoursModel" "SmashedHoursModel" "ringed" "I"), (Jvm.Cond.soleField "SmashedHoursModel" "ringed"), (Jvm.Cond.lays "SmashedHoursModel" "SmashedHoursModel" "lumps" "I"), (Jvm.Cond.soleField "SmashedHoursModel" "lumps"), (Jvm.Cond.laysFinal "SmashedHoursModel" "SmashedHoursModel" "way" "[I"), (Jvm.Cond.soleField "SmashedHoursModel" "way"), (Jvm.Cond.laysFinal "SmashedHoursModel" "SmashedHoursModel" "bestWay" "[I"), (Jvm.Cond.soleField "SmashedHoursModel" "bestWay"), (Jvm.Cond.laysFinal "SmashedHoursModel" "SmashedHoursModel" "made" "[I"), (Jvm.Cond.soleField "SmashedHoursModel" "made"), (Jvm.Cond.superclass "SmashedHoursModel" "java/lang/Object"), Cond.methodLink RL 17 yX8_type, Cond.instanceMethod yX8_type, Cond.selects RX8 yX8_type yX8_type, Cond.code yX8_type cX8_type 2 (some .int), Cond.methodLink RX8 72 yX8_in, Cond.static yX8_in, Cond.code yX8_in cX8_in 3 (some .boolean), Cond.methodLink RL 22 yX8_clear, Cond.instanceMethod yX8_clear, Cond.selects RX8 yX8_clear yX8_clear]
def gwc_31 : List Cond := [Cond.code yX8_clear cX8_clear 2 (some .int), Cond.methodLink RL 26 yX8_house, Cond.instanceMethod yX8_house, Cond.selects RX8 yX8_house yX8_house, Cond.code yX8_house cX8_house 1 (some .int), Cond.methodLink RX8 103 yX8_next, (Jvm.Cond.privateMethod ({ cls := "SmashedHoursModel", name := "next", desc := "()V" } : Jvm.MethodName)), Cond.instanceMethod yX8_next, Cond.code yX8_next cX8_next 2 none, Cond.methodLink RX8 82 yX8_letterAt, (Jvm.Cond.privateMethod ({ cls := "SmashedHoursModel", name := "letterAt", desc := "(I)I" } : Jvm.MethodName)), Cond.instanceMethod yX8_letterAt, Cond.code yX8_letterAt cX8_letterAt 2 (some .int), Cond.methodLink RX8 95 yX8_isFigure, Cond.static yX8_isFigure, Cond.code yX8_isFigure cX8_isFigure 1 (some .boolean), Cond.methodLink RX8 129 yX8_readItem, (Jvm.Cond.privateMethod ({ cls := "SmashedHoursModel", name := "readItem", desc := "()V" } : Jvm.MethodName)), Cond.instanceMethod yX8_readItem, Cond.code yX8_readItem cX8_readItem 3 none, Cond.methodLink RX8 120 yX8_readPerson, (Jvm.Cond.privateMethod ({ cls := "SmashedHoursModel", name := "readPerson", desc := "()V" } : Jvm.MethodName)), Cond.instanceMethod yX8_readPerson, Cond.code yX8_readPerson cX8_readPerson 1 none, Cond.methodLink RX8 109 yX8_takesNumber]
def gwc_32 : List Cond := [(Jvm.Cond.privateMethod ({ cls := "SmashedHoursModel", name := "takesNumber", desc := "(II)I" } : Jvm.MethodName)), Cond.instanceMethod yX8_takesNumber, Cond.code yX8_takesNumber cX8_takesNumber 5 (some .int), Cond.methodLink RX8 123 yX8_readWants, (Jvm.Cond.privateMethod ({ cls := "SmashedHoursModel", name := "readWants", desc := "()V" } : Jvm.MethodName)), Cond.instanceMethod yX8_readWants, Cond.code yX8_readWants cX8_readWants 4 none, Cond.methodLink RX8 113 yX8_has, Cond.static yX8_has, Cond.code yX8_has cX8_has 2 (some .boolean), Cond.methodLink RX8 132 yX8_settles, (Jvm.Cond.privateMethod ({ cls := "SmashedHoursModel", name := "settles", desc := "()V" } : Jvm.MethodName)), Cond.instanceMethod yX8_settles, Cond.code yX8_settles cX8_settles 2 none, Cond.methodLink RL 31 yX8_person, Cond.instanceMethod yX8_person, Cond.selects RX8 yX8_person yX8_person, Cond.code yX8_person cX8_person 3 (some .int), Cond.methodLink RX8 168 yX8_isPerson, (Jvm.Cond.privateMethod ({ cls := "SmashedHoursModel", name := "isPerson", desc := "(I)Z" } : Jvm.MethodName)), Cond.instanceMethod yX8_isPerson, Cond.code yX8_isPerson cX8_isPerson 2 (some .boolean), Cond.methodLink RL 35 yX8_wants, Cond.instanceMethod yX8_wants, Cond.selects RX8 yX8_wants yX8_wants]
def gwc_33 : List Cond := [Cond.code yX8_wants cX8_wants 3 (some .int), Cond.methodLink RL 39 yX8_bit, Cond.instanceMethod yX8_bit, Cond.selects RX8 yX8_bit yX8_bit, Cond.code yX8_bit cX8_bit 2 (some .int), Cond.methodLink RL 43 yX8_now, Cond.instanceMethod yX8_now, Cond.selects RX8 yX8_now yX8_now, Cond.code yX8_now cX8_now 4 (some .int), Cond.methodLink RL 47 yX8_gives, Cond.instanceMethod yX8_gives, Cond.selects RX8 yX8_gives yX8_gives, Cond.code yX8_gives cX8_gives 2 (some .int), Cond.methodLink RX8 171 yX8_able, (Jvm.Cond.privateMethod ({ cls := "SmashedHoursModel", name := "able", desc := "()I" } : Jvm.MethodName)), Cond.instanceMethod yX8_able, Cond.code yX8_able cX8_able 3 (some .int), Cond.methodLink RX8 175 yX8_remembers, (Jvm.Cond.privateMethod ({ cls := "SmashedHoursModel", name := "remembers", desc := "()V" } : Jvm.MethodName)), Cond.instanceMethod yX8_remembers, Cond.code yX8_remembers cX8_remembers 2 none, Cond.methodLink RX8 141 yX8_copy, Cond.static yX8_copy, Cond.code yX8_copy cX8_copy 5 none, Cond.methodLink RX8 178 yX8_bits]
def gwc_34 : List Cond := [Cond.static yX8_bits, Cond.code yX8_bits cX8_bits 3 (some .int), Cond.methodLink RL 51 yX8_takes, Cond.instanceMethod yX8_takes, Cond.selects RX8 yX8_takes yX8_takes, Cond.code yX8_takes cX8_takes 2 (some .int), Cond.methodLink RL 55 yX8_night, Cond.instanceMethod yX8_night, Cond.selects RX8 yX8_night yX8_night, Cond.code yX8_night cX8_night 2 (some .int), Cond.methodLink RX8 181 yX8_asItIs, (Jvm.Cond.privateMethod ({ cls := "SmashedHoursModel", name := "asItIs", desc := "()V" } : Jvm.MethodName)), Cond.instanceMethod yX8_asItIs, Cond.code yX8_asItIs cX8_asItIs 1 none, Cond.methodLink RX8 184 yX8_goesBy, (Jvm.Cond.privateMethod ({ cls := "SmashedHoursModel", name := "goesBy", desc := "(II)V" } : Jvm.MethodName)), Cond.instanceMethod yX8_goesBy, Cond.code yX8_goesBy cX8_goesBy 7 none, Cond.methodLink RX8 158 yX8_pointsAt, (Jvm.Cond.privateMethod ({ cls := "SmashedHoursModel", name := "pointsAt", desc := "(III)I" } : Jvm.MethodName)), Cond.instanceMethod yX8_pointsAt, Cond.code yX8_pointsAt cX8_pointsAt 11 (some .int), Cond.methodLink RX8 145 yX8_whoGave, (Jvm.Cond.privateMethod ({ cls := "SmashedHoursModel", name := "whoGave", desc := "(II)I" } : Jvm.MethodName)), Cond.instanceMethod yX8_whoGave]
def gwc_35 : List Cond := [Cond.code yX8_whoGave cX8_whoGave 5 (some .int), Cond.methodLink RX8 148 yX8_behind, (Jvm.Cond.privateMethod ({ cls := "SmashedHoursModel", name := "behind", desc := "(III)I" } : Jvm.MethodName)), Cond.instanceMethod yX8_behind, Cond.code yX8_behind cX8_behind 5 (some .int), Cond.methodLink RX8 161 yX8_ringOf, (Jvm.Cond.privateMethod ({ cls := "SmashedHoursModel", name := "ringOf", desc := "(I)I" } : Jvm.MethodName)), Cond.instanceMethod yX8_ringOf, Cond.code yX8_ringOf cX8_ringOf 5 (some .int), Cond.methodLink RX8 164 yX8_isLump, (Jvm.Cond.privateMethod ({ cls := "SmashedHoursModel", name := "isLump", desc := "(I)V" } : Jvm.MethodName)), Cond.instanceMethod yX8_isLump, Cond.code yX8_isLump cX8_isLump 2 none, Cond.methodLink RL 59 yX8_joins, Cond.instanceMethod yX8_joins, Cond.selects RX8 yX8_joins yX8_joins, Cond.code yX8_joins cX8_joins 4 (some .int), Cond.methodLink RX8 188 yX8_sumOf, (Jvm.Cond.privateMethod ({ cls := "SmashedHoursModel", name := "sumOf", desc := "(I)I" } : Jvm.MethodName)), Cond.instanceMethod yX8_sumOf, Cond.code yX8_sumOf cX8_sumOf 4 (some .int), Cond.methodLink RL 63 yX8_laws, Cond.instanceMethod yX8_laws, Cond.selects RX8 yX8_laws yX8_laws, Cond.code yX8_laws cX8_laws 3 (some .int)]
def gwc_36 : List Cond := [Cond.methodLink RL 67 yX8_undo, Cond.instanceMethod yX8_undo, Cond.selects RX8 yX8_undo yX8_undo, Cond.code yX8_undo cX8_undo 1 (some .int), Cond.methodLink RL 71 yX8_would, Cond.instanceMethod yX8_would, Cond.selects RX8 yX8_would yX8_would, Cond.code yX8_would cX8_would 2 (some .int), Cond.methodLink RL 75 yX8_served, Cond.instanceMethod yX8_served, Cond.selects RX8 yX8_served yX8_served, Cond.code yX8_served cX8_served 2 (some .int), Cond.methodLink RX8 191 yX8_all, (Jvm.Cond.privateMethod ({ cls := "SmashedHoursModel", name := "all", desc := "()I" } : Jvm.MethodName)), Cond.instanceMethod yX8_all, Cond.code yX8_all cX8_all 1 (some .int), Cond.methodLink RL 79 yX8_get, Cond.instanceMethod yX8_get, Cond.selects RX8 yX8_get yX8_get, Cond.code yX8_get cX8_get 7 (some .int), Cond.methodLink RL 83 yX8_most, Cond.instanceMethod yX8_most, Cond.selects RX8 yX8_most yX8_most, Cond.code yX8_most cX8_most 9 (some .int), Cond.methodLink RL 87 yX8_could]
def gwc_37 : List Cond := [Cond.instanceMethod yX8_could, Cond.selects RX8 yX8_could yX8_could, Cond.code yX8_could cX8_could 8 (some .int), Cond.methodLink RX8 197 yX8_wayOf, (Jvm.Cond.privateMethod ({ cls := "SmashedHoursModel", name := "wayOf", desc := "(II)I" } : Jvm.MethodName)), Cond.instanceMethod yX8_wayOf, Cond.code yX8_wayOf cX8_wayOf 9 (some .int), Cond.methodLink RX8 194 yX8_isWanted, (Jvm.Cond.privateMethod ({ cls := "SmashedHoursModel", name := "isWanted", desc := "(II)Z" } : Jvm.MethodName)), Cond.instanceMethod yX8_isWanted, Cond.code yX8_isWanted cX8_isWanted 5 (some .boolean), Cond.methodLink RL 92 yX8_odds, Cond.instanceMethod yX8_odds, Cond.selects RX8 yX8_odds yX8_odds, Cond.code yX8_odds cX8_odds 10 (some .int), Cond.methodLink RX8 200 yX8_lowest, Cond.static yX8_lowest, Cond.code yX8_lowest cX8_lowest 6 (some .int), Cond.methodLink RL 96 yX8_join, Cond.instanceMethod yX8_join, Cond.selects RX8 yX8_join yX8_join, Cond.code yX8_join cX8_join 4 (some .int), Cond.methodLink RX8 203 yX8_hours, (Jvm.Cond.privateMethod ({ cls := "SmashedHoursModel", name := "hours", desc := "()I" } : Jvm.MethodName)), Cond.instanceMethod yX8_hours]
def gwc_38 : List Cond := [Cond.code yX8_hours cX8_hours 5 (some .int), Cond.methodLink RL 100 yX8_tells, Cond.instanceMethod yX8_tells, Cond.selects RX8 yX8_tells yX8_tells, Cond.code yX8_tells cX8_tells 4 (some .int), Cond.methodLink RL 104 yX8_forget, Cond.instanceMethod yX8_forget, Cond.selects RX8 yX8_forget yX8_forget, Cond.code yX8_forget cX8_forget 2 (some .int), Cond.methodLink RL 108 yX8_fits, Cond.instanceMethod yX8_fits, Cond.selects RX8 yX8_fits yX8_fits, Cond.code yX8_fits cX8_fits 5 (some .int), Cond.methodLink RX8 206 yX8_isSo, (Jvm.Cond.privateMethod ({ cls := "SmashedHoursModel", name := "isSo", desc := "(II)Z" } : Jvm.MethodName)), Cond.instanceMethod yX8_isSo, Cond.code yX8_isSo cX8_isSo 4 (some .boolean), Cond.methodLink RL 113 yX8_stop, Cond.instanceMethod yX8_stop, Cond.selects RX8 yX8_stop yX8_stop, Cond.code yX8_stop cX8_stop 9 (some .int), Cond.methodLink RL 117 yX8_rate, Cond.instanceMethod yX8_rate, Cond.selects RX8 yX8_rate yX8_rate, Cond.code yX8_rate cX8_rate 6 (some .int)]
def gwc_39 : List Cond := [Cond.constant RX8 209 (-1000000), Cond.methodLink RX8 210 yX8_wantedBy, (Jvm.Cond.privateMethod ({ cls := "SmashedHoursModel", name := "wantedBy", desc := "(I)I" } : Jvm.MethodName)), Cond.instanceMethod yX8_wantedBy, Cond.code yX8_wantedBy cX8_wantedBy 4 (some .int), Cond.constantLong RX8 217 (11), Cond.constantLong RX8 219 (101), Cond.constantLong RX8 221 (1011), Cond.constantLong RX8 223 (10101), Cond.methodLink RX8 225 yX8_whoHas, (Jvm.Cond.privateMethod ({ cls := "SmashedHoursModel", name := "whoHas", desc := "(I)I" } : Jvm.MethodName)), Cond.instanceMethod yX8_whoHas, Cond.code yX8_whoHas cX8_whoHas 4 (some .int), Cond.constantLong RX8 228 (100001), Cond.methodLink RL 121 yX8_keep, Cond.instanceMethod yX8_keep, Cond.selects RX8 yX8_keep yX8_keep, Cond.code yX8_keep cX8_keep 2 (some .int), Cond.methodLink RL 125 yX8_back, Cond.instanceMethod yX8_back, Cond.selects RX8 yX8_back yX8_back, Cond.code yX8_back cX8_back 2 (some .int), Cond.methodLink RL 129 yX8_count, Cond.instanceMethod yX8_count, Cond.selects RX8 yX8_count yX8_count]
def gwc_40 : List Cond := [Cond.code yX8_count cX8_count 2 (some .int), Cond.methodLink RL 134 yX8_trace, Cond.instanceMethod yX8_trace, Cond.selects RX8 yX8_trace yX8_trace, Cond.code yX8_trace cX8_trace 1 (some .long)]
def gwL : List Cond := gwc_0 ++ (gwc_1 ++ (gwc_2 ++ (gwc_3 ++ (gwc_4 ++ (gwc_5 ++ (gwc_6 ++ (gwc_7 ++ (gwc_8 ++ (gwc_9 ++ (gwc_10 ++ (gwc_11 ++ (gwc_12 ++ (gwc_13 ++ (gwc_14 ++ (gwc_15 ++ (gwc_16 ++ (gwc_17 ++ (gwc_18 ++ (gwc_19 ++ (gwc_20 ++ (gwc_21 ++ (gwc_22 ++ (gwc_23 ++ (gwc_24 ++ (gwc_25 ++ (gwc_26 ++ (gwc_27 ++ (gwc_28 ++ (gwc_29 ++ (gwc_30 ++ (gwc_31 ++ (gwc_32 ++ (gwc_33 ++ (gwc_34 ++ (gwc_35 ++ (gwc_36 ++ (gwc_37 ++ (gwc_38 ++ (gwc_39 ++ (gwc_40))))))))))))))))))))))))))))))))))))))))
set_option maxRecDepth 100000 in
theorem gwL_eq : gwL = tables_1 := rfl
theorem gw_m {w : Cond} (h : w ∈ gwL) (g : goodWord w = true) : w ∈ gw := List.mem_filter.mpr ⟨List.mem_append_right _ (gwL_eq ▸ h), g⟩
theorem gwm_0 {w : Cond} (h : w ∈ gwc_0) (g : goodWord w = true) : w ∈ gw := gw_m (List.mem_append_left _ h) g
theorem gwm_1 {w : Cond} (h : w ∈ gwc_1) (g : goodWord w = true) : w ∈ gw := gw_m (List.mem_append_right _ (List.mem_append_left _ h)) g
theorem gwm_2 {w : Cond} (h : w ∈ gwc_2) (g : goodWord w = true) : w ∈ gw := gw_m (List.mem_append_right _ (List.mem_append_right _ (List.mem_append_left _ h))) g
theorem gwm_3 {w : Cond} (h : w ∈ gwc_3) (g : goodWord w = true) : w ∈ gw := gw_m (List.mem_append_right _ (List.mem_append_right _ (List.mem_append_right _ (List.mem_append_left _ h)))) g
theorem gwm_4 {w : Cond} (h : w ∈ gwc_4) (g : goodWord w = true) : w ∈ gw := gw_m (List.mem_append_right _ (List.mem_append_right _ (List.mem_append_right _ (List.mem_append_right _ (List.mem_append_left _ h))))) g
theorem gwm_5 {w : Cond} (h : w ∈ gwc_5) (g : goodWord w = true) : w ∈ gw := gw_m (List.mem_append_right _ (List.mem_append_right _ (List.mem_append_right _ (List.mem_append_right _ (List.mem_append_right _ (List.mem_append_left _ h)))))) g
theorem gwm_6 {w : Cond} (h : w ∈ gwc_6) (g : goodWord w = true) : w ∈ gw := gw_m (List.mem_append_right _ (List.mem_append_right _ (List.mem_append_right _ (List.mem_append_right _ (List.mem_append_right _ (List.mem_append_right _ (List.mem_append_left _ h))))))) g
theorem gwm_7 {w : Cond} (h : w ∈ gwc_7) (g : goodWord w = true) : w ∈ gw := gw_m (List.mem_append_right _ (List.mem_append_right _ (List.mem_append_right _ (List.mem_append_right _ (List.mem_append_right _ (List.mem_append_right _ (List.mem_append_right _ (List.mem_append_left _ h)))))))) g
theorem gwm_8 {w : Cond} (h : w ∈ gwc_8) (g : goodWord w = true) : w ∈ gw := gw_m (List.mem_append_right _ (List.mem_append_right _ (List.mem_append_right _ (List.mem_append_right _ (List.mem_append_right _ (List.mem_append_right _ (List.mem_append_right _ (List.mem_append_right _ (List.mem_append_left _ h))))))))) g
theorem gwm_9 {w : Cond} (h : w ∈ gwc_9) (g : goodWord w = true) : w ∈ gw := gw_m (List.mem_append_right _ (List.mem_append_right _ (List.mem_append_right _ (List.mem_append_right _ (List.mem_append_right _ (List.mem_append_right _ (List.mem_append_right _ (List.mem_append_right _ (List.mem_append_right _ (List.mem_append_left _ h)))))))))) g
theorem gwm_10 {w : Cond} (h : w ∈ gwc_10) (g : goodWord w = true) : w ∈ gw := gw_m (List.mem_append_right _ (List.mem_append_right _ (List.mem_append_right _ (List.mem_append_right _ (List.mem_append_right _ (List.mem_append_right _ (List.mem_append_right _ (List.mem_append_right _ (List.mem_append_right _ (List.mem_append_right _ (List.mem_append_left _ h))))))))))) g
theorem gwm_11 {w : Cond} (h : w ∈ gwc_11) (g : goodWord w = true) : w ∈ gw := gw_m (List.mem_append_right _ (List.mem_append_right _ (List.mem_append_right _ (List.mem_append_right _ (List.mem_append_right _ (List.mem_append_right _ (List.mem_append_right _ (List.mem_append_right _ (List.mem_append_right _ (List.mem_append_right _ (List.mem_append_right _ (List.mem_append_left _ h)))))))))))) g
theorem gwm_12 {w : Cond} (h : w ∈ gwc_12) (g : goodWord w = true) : w ∈ gw := gw_m (List.mem_append_right _ (List.mem_append_right _ (List.mem_append_right _ (List.mem_append_right _ (List.mem_append_right _ (List.mem_append_right _ (List.mem_append_right _ (List.mem_append_right _ (List.mem_append_right _ (List.mem_append_right _ (List.mem_append_right _ (List.mem_append_right _ (List.mem_append_left _ h))))))))))))) g
theorem gwm_13 {w : Cond} (h : w ∈ gwc_13) (g : goodWord w = true) : w ∈ gw := gw_m (List.mem_append_right _ (List.mem_append_right _ (List.mem_append_right _ (List.mem_append_right _ (List.mem_append_right _ (List.mem_append_right _ (List.mem_append_right _ (List.mem_append_right _ (List.mem_append_right _ (List.mem_append_right _ (List.mem_append_right _ (List.mem_append_right _ (List.mem_append_right _ (List.mem_append_left _ h)))))))))))))) g
theorem gwm_14 {w : Cond} (h : w ∈ gwc_14) (g : goodWord w = true) : w ∈ gw := gw_m (List.mem_append_right _ (List.mem_append_right _ (List.mem_append_right _ (List.mem_append_right _ (List.mem_append_right _ (List.mem_append_right _ (List.mem_append_right _ (List.mem_append_right _ (List.mem_append_right _ (List.mem_append_right _ (List.mem_append_right _ (List.mem_append_right _ (List.mem_append_right _ (List.mem_append_right _ (List.mem_append_left _ h))))))))))))))) g
theorem gwm_15 {w : Cond} (h : w ∈ gwc_15) (g : goodWord w = true) : w ∈ gw := gw_m (List.mem_append_right _ (List.mem_append_right _ (List.mem_append_right _ (List.mem_append_right _ (List.mem_append_right _ (List.mem_append_right _ (List.mem_append_right _ (List.mem_append_right _ (List.mem_append_right _ (List.mem_append_right _ (List.mem_append_right _ (List.mem_append_right _ (List.mem_append_right _ (List.mem_append_right _ (List.mem_append_right _ (List.mem_append_left _ h)))))))))))))))) g
theorem gwm_16 {w : Cond} (h : w ∈ gwc_16) (g : goodWord w = true) : w ∈ gw := gw_m (List.mem_append_right _ (List.mem_append_right _ (List.mem_append_right _ (List.mem_append_right _ (List.mem_append_right _ (List.mem_append_right _ (List.mem_append_right _ (List.mem_append_right _ (List.mem_append_right _ (List.mem_append_right _ (List.mem_append_right _ (List.mem_append_right _ (List.mem_append_right _ (List.mem_append_right _ (List.mem_append_right _ (List.mem_append_right _ (List.mem_append_left _ h))))))))))))))))) g
theorem gwm_17 {w : Cond} (h : w ∈ gwc_17) (g : goodWord w = true) : w ∈ gw := gw_m (List.mem_append_right _ (List.mem_append_right _ (List.mem_append_right _ (List.mem_append_right _ (List.mem_append_right _ (List.mem_append_right _ (List.mem_append_right _ (List.mem_append_right _ (List.mem_append_right _ (List.mem_append_right _ (List.mem_append_right _ (List.mem_append_right _ (List.mem_append_right _ (List.mem_append_right _ (List.mem_append_right _ (List.mem_append_right _ (List.mem_append_right _ (List.mem_append_left _ h)))))))))))))))))) g
theorem gwm_18 {w : Cond} (h : w ∈ gwc_18) (g : goodWord w = true) : w ∈ gw := gw_m (List.mem_append_right _ (List.mem_append_right _ (List.mem_append_right _ (List.mem_append_right _ (List.mem_append_right _ (List.mem_append_right _ (List.mem_append_right _ (List.mem_append_right _ (List.mem_append_right _ (List.mem_append_right _ (List.mem_append_right _ (List.mem_append_right _ (List.mem_append_right _ (List.mem_append_right _ (List.mem_append_right _ (List.mem_append_right _ (List.mem_append_right _ (List.mem_append_right _ (List.mem_append_left _ h))))))))))))))))))) g
theorem gwm_19 {w : Cond} (h : w ∈ gwc_19) (g : goodWord w = true) : w ∈ gw := gw_m (List.mem_append_right _ (List.mem_append_right _ (List.mem_append_right _ (List.mem_append_right _ (List.mem_append_right _ (List.mem_append_right _ (List.mem_append_right _ (List.mem_append_right _ (List.mem_append_right _ (List.mem_append_right _ (List.mem_append_right _ (List.mem_append_right _ (List.mem_append_right _ (List.mem_append_right _ (List.mem_append_right _ (List.mem_append_right _ (List.mem_append_right _ (List.mem_append_right _ (List.mem_append_right _ (List.mem_append_left _ h)))))))))))))))))))) g
theorem gwm_20 {w : Cond} (h : w ∈ gwc_20) (g : goodWord w = true) : w ∈ gw := gw_m (List.mem_append_right _ (List.mem_append_right _ (List.mem_append_right _ (List.mem_append_right _ (List.mem_append_right _ (List.mem_append_right _ (List.mem_append_right _ (List.mem_append_right _ (List.mem_append_right _ (List.mem_append_right _ (List.mem_append_right _ (List.mem_append_right _ (List.mem_append_right _ (List.mem_append_right _ (List.mem_append_right _ (List.mem_append_right _ (List.mem_append_right _ (List.mem_append_right _ (List.mem_append_right _ (List.mem_append_right _ (List.mem_append_left _ h))))))))))))))))))))) g
theorem gwm_21 {w : Cond} (h : w ∈ gwc_21) (g : goodWord w = true) : w ∈ gw := gw_m (List.mem_append_right _ (List.mem_append_right _ (List.mem_append_right _ (List.mem_append_right _ (List.mem_append_right _ (List.mem_append_right _ (List.mem_append_right _ (List.mem_append_right _ (List.mem_append_right _ (List.mem_append_right _ (List.mem_append_right _ (List.mem_append_right _ (List.mem_append_right _ (List.mem_append_right _ (List.mem_append_right _ (List.mem_append_right _ (List.mem_append_right _ (List.mem_append_right _ (List.mem_append_right _ (List.mem_append_right _ (List.mem_append_right _ (List.mem_append_left _ h)))))))))))))))))))))) g
theorem gwm_22 {w : Cond} (h : w ∈ gwc_22) (g : goodWord w = true) : w ∈ gw := gw_m (List.mem_append_right _ (List.mem_append_right _ (List.mem_append_right _ (List.mem_append_right _ (List.mem_append_right _ (List.mem_append_right _ (List.mem_append_right _ (List.mem_append_right _ (List.mem_append_right _ (List.mem_append_right _ (List.mem_append_right _ (List.mem_append_right _ (List.mem_append_right _ (List.mem_append_right _ (List.mem_append_right _ (List.mem_append_right _ (List.mem_append_right _ (List.mem_append_right _ (List.mem_append_right _ (List.mem_append_right _ (List.mem_append_right _ (List.mem_append_right _ (List.mem_append_left _ h))))))))))))))))))))))) g
theorem gwm_23 {w : Cond} (h : w ∈ gwc_23) (g : goodWord w = true) : w ∈ gw := gw_m (List.mem_append_right _ (List.mem_append_right _ (List.mem_append_right _ (List.mem_append_right _ (List.mem_append_right _ (List.mem_append_right _ (List.mem_append_right _ (List.mem_append_right _ (List.mem_append_right _ (List.mem_append_right _ (List.mem_append_right _ (List.mem_append_right _ (List.mem_append_right _ (List.mem_append_right _ (List.mem_append_right _ (List.mem_append_right _ (List.mem_append_right _ (List.mem_append_right _ (List.mem_append_right _ (List.mem_append_right _ (List.mem_append_right _ (List.mem_append_right _ (List.mem_append_right _ (List.mem_append_left _ h)))))))))))))))))))))))) g
theorem gwm_24 {w : Cond} (h : w ∈ gwc_24) (g : goodWord w = true) : w ∈ gw := gw_m (List.mem_append_right _ (List.mem_append_right _ (List.mem_append_right _ (List.mem_append_right _ (List.mem_append_right _ (List.mem_append_right _ (List.mem_append_right _ (List.mem_append_right _ (List.mem_append_right _ (List.mem_append_right _ (List.mem_append_right _ (List.mem_append_right _ (List.mem_append_right _ (List.mem_append_right _ (List.mem_append_right _ (List.mem_append_right _ (List.mem_append_right _ (List.mem_append_right _ (List.mem_append_right _ (List.mem_append_right _ (List.mem_append_right _ (List.mem_append_right _ (List.mem_append_right _ (List.mem_append_right _ (List.mem_append_left _ h))))))))))))))))))))))))) g
theorem gwm_25 {w : Cond} (h : w ∈ gwc_25) (g : goodWord w = true) : w ∈ gw := gw_m (List.mem_append_right _ (List.mem_append_right _ (List.mem_append_right _ (List.mem_append_right _ (List.mem_append_right _ (List.mem_append_right _ (List.mem_append_right _ (List.mem_append_right _ (List.mem_append_right _ (List.mem_append_right _ (List.mem_append_right _ (List.mem_append_right _ (List.mem_append_right _ (List.mem_append_right _ (List.mem_append_right _ (List.mem_append_right _ (List.mem_append_right _ (List.mem_append_right _ (List.mem_append_right _ (List.mem_append_right _ (List.mem_append_right _ (List.mem_append_right _ (List.mem_append_right _ (List.mem_append_right _ (List.mem_append_right _ (List.mem_append_left _ h)))))))))))))))))))))))))) g
theorem gwm_26 {w : Cond} (h : w ∈ gwc_26) (g : goodWord w = true) : w ∈ gw := gw_m (List.mem_append_right _ (List.mem_append_right _ (List.mem_append_right _ (List.mem_append_right _ (List.mem_append_right _ (List.mem_append_right _ (List.mem_append_right _ (List.mem_append_right _ (List.mem_append_right _ (List.mem_append_right _ (List.mem_append_right _ (List.mem_append_right _ (List.mem_append_right _ (List.mem_append_right _ (List.mem_append_right _ (List.mem_append_right _ (List.mem_append_right _ (List.mem_append_right _ (List.mem_append_right _ (List.mem_append_right _ (List.mem_append_right _ (List.mem_append_right _ (List.mem_append_right _ (List.mem_append_right _ (List.mem_append_right _ (List.mem_append_right _ (List.mem_append_left _ h))))))))))))))))))))))))))) g
theorem gwm_27 {w : Cond} (h : w ∈ gwc_27) (g : goodWord w = true) : w ∈ gw := gw_m (List.mem_append_right _ (List.mem_append_right _ (List.mem_append_right _ (List.mem_append_right _ (List.mem_append_right _ (List.mem_append_right _ (List.mem_append_right _ (List.mem_append_right _ (List.mem_append_right _ (List.mem_append_right _ (List.mem_append_right _ (List.mem_append_right _ (List.mem_append_right _ (List.mem_append_right _ (List.mem_append_right _ (List.mem_append_right _ (List.mem_append_right _ (List.mem_append_right _ (List.mem_append_right _ (List.mem_append_right _ (List.mem_append_right _ (List.mem_append_right _ (List.mem_append_right _ (List.mem_append_right _ (List.mem_append_right _ (List.mem_append_right _ (List.mem_append_right _ (List.mem_append_left _ h)))))))))))))))))))))))))))) g
theorem gwm_28 {w : Cond} (h : w ∈ gwc_28) (g : goodWord w = true) : w ∈ gw := gw_m (List.mem_append_right _ (List.mem_append_right _ (List.mem_append_right _ (List.mem_append_right _ (List.mem_append_right _ (List.mem_append_right _ (List.mem_append_right _ (List.mem_append_right _ (List.mem_append_right _ (List.mem_append_right _ (List.mem_append_right _ (List.mem_append_right _ (List.mem_append_right _ (List.mem_append_right _ (List.mem_append_right _ (List.mem_append_right _ (List.mem_append_right _ (List.mem_append_right _ (List.mem_append_right _ (List.mem_append_right _ (List.mem_append_right _ (List.mem_append_right _ (List.mem_append_right _ (List.mem_append_right _ (List.mem_append_right _ (List.mem_append_right _ (List.mem_append_right _ (List.mem_append_right _ (List.mem_append_left _ h))))))))))))))))))))))))))))) g
theorem gwm_29 {w : Cond} (h : w ∈ gwc_29) (g : goodWord w = true) : w ∈ gw := gw_m (List.mem_append_right _ (List.mem_append_right _ (List.mem_append_right _ (List.mem_append_right _ (List.mem_append_right _ (List.mem_append_right _ (List.mem_append_right _ (List.mem_append_right _ (List.mem_append_right _ (List.mem_append_right _ (List.mem_append_right _ (List.mem_append_right _ (List.mem_append_right _ (List.mem_append_right _ (List.mem_append_right _ (List.mem_append_right _ (List.mem_append_right _ (List.mem_append_right _ (List.mem_append_right _ (List.mem_append_right _ (List.mem_append_right _ (List.mem_append_right _ (List.mem_append_right _ (List.mem_append_right _ (List.mem_append_right _ (List.mem_append_right _ (List.mem_append_right _ (List.mem_append_right _ (List.mem_append_right _ (List.mem_append_left _ h)))))))))))))))))))))))))))))) g
theorem gwm_30 {w : Cond} (h : w ∈ gwc_30) (g : goodWord w = true) : w ∈ gw := gw_m (List.mem_append_right _ (List.mem_append_right _ (List.mem_append_right _ (List.mem_append_right _ (List.mem_append_right _ (List.mem_append_right _ (List.mem_append_right _ (List.mem_append_right _ (List.mem_append_right _ (List.mem_append_right _ (List.mem_append_right _ (List.mem_append_right _ (List.mem_append_right _ (List.mem_append_right _ (List.mem_append_right _ (List.mem_append_right _ (List.mem_append_right _ (List.mem_append_right _ (List.mem_append_right _ (List.mem_append_right _ (List.mem_append_right _ (List.mem_append_right _ (List.mem_append_right _ (List.mem_append_right _ (List.mem_append_right _ (List.mem_append_right _ (List.mem_append_right _ (List.mem_append_right _ (List.mem_append_right _ (List.mem_append_right _ (List.mem_append_left _ h))))))))))))))))))))))))))))))) g
theorem gwm_31 {w : Cond} (h : w ∈ gwc_31) (g : goodWord w = true) : w ∈ gw := gw_m (List.mem_append_right _ (List.mem_append_right _ (List.mem_append_right _ (List.mem_append_right _ (List.mem_append_right _ (List.mem_append_right _ (List.mem_append_right _ (List.mem_append_right _ (List.mem_append_right _ (List.mem_append_right _ (List.mem_append_right _ (List.mem_append_right _ (List.mem_append_right _ (List.mem_append_right _ (List.mem_append_right _ (List.mem_append_right _ (List.mem_append_right _ (List.mem_append_right _ (List.mem_append_right _ (List.mem_append_right _ (List.mem_append_right _ (List.mem_append_right _ (List.mem_append_right _ (List.mem_append_right _ (List.mem_append_right _ (List.mem_append_right _ (List.mem_append_right _ (List.mem_append_right _ (List.mem_append_right _ (List.mem_append_right _ (List.mem_append_right _ (List.mem_append_left _ h)))))))))))))))))))))))))))))))) g
theorem gwm_32 {w : Cond} (h : w ∈ gwc_32) (g : goodWord w = true) : w ∈ gw := gw_m (List.mem_append_right _ (List.mem_append_right _ (List.mem_append_right _ (List.mem_append_right _ (List.mem_append_right _ (List.mem_append_right _ (List.mem_append_right _ (List.mem_append_right _ (List.mem_append_right _ (List.mem_append_right _ (List.mem_append_right _ (List.mem_append_right _ (List.mem_append_right _ (List.mem_append_right _ (List.mem_append_right _ (List.mem_append_right _ (List.mem_append_right _ (List.mem_append_right _ (List.mem_append_right _ (List.mem_append_right _ (List.mem_append_right _ (List.mem_append_right _ (List.mem_append_right _ (List.mem_append_right _ (List.mem_append_right _ (List.mem_append_right _ (List.mem_append_right _ (List.mem_append_right _ (List.mem_append_right _ (List.mem_append_right _ (List.mem_append_right _ (List.mem_append_right _ (List.mem_append_left _ h))))))))))))))))))))))))))))))))) g
theorem gwm_33 {w : Cond} (h : w ∈ gwc_33) (g : goodWord w = true) : w ∈ gw := gw_m (List.mem_append_right _ (List.mem_append_right _ (List.mem_append_right _ (List.mem_append_right _ (List.mem_append_right _ (List.mem_append_right _ (List.mem_append_right _ (List.mem_append_right _ (List.mem_append_right _ (List.mem_append_right _ (List.mem_append_right _ (List.mem_append_right _ (List.mem_append_right _ (List.mem_append_right _ (List.mem_append_right _ (List.mem_append_right _ (List.mem_append_right _ (List.mem_append_right _ (List.mem_append_right _ (List.mem_append_right _ (List.mem_append_right _ (List.mem_append_right _ (List.mem_append_right _ (List.mem_append_right _ (List.mem_append_right _ (List.mem_append_right _ (List.mem_append_right _ (List.mem_append_right _ (List.mem_append_right _ (List.mem_append_right _ (List.mem_append_right _ (List.mem_append_right _ (List.mem_append_right _ (List.mem_append_left _ h)))))))))))))))))))))))))))))))))) g
theorem gwm_34 {w : Cond} (h : w ∈ gwc_34) (g : goodWord w = true) : w ∈ gw := gw_m (List.mem_append_right _ (List.mem_append_right _ (List.mem_append_right _ (List.mem_append_right _ (List.mem_append_right _ (List.mem_append_right _ (List.mem_append_right _ (List.mem_append_right _ (List.mem_append_right _ (List.mem_append_right _ (List.mem_append_right _ (List.mem_append_right _ (List.mem_append_right _ (List.mem_append_right _ (List.mem_append_right _ (List.mem_append_right _ (List.mem_append_right _ (List.mem_append_right _ (List.mem_append_right _ (List.mem_append_right _ (List.mem_append_right _ (List.mem_append_right _ (List.mem_append_right _ (List.mem_append_right _ (List.mem_append_right _ (List.mem_append_right _ (List.mem_append_right _ (List.mem_append_right _ (List.mem_append_right _ (List.mem_append_right _ (List.mem_append_right _ (List.mem_append_right _ (List.mem_append_right _ (List.mem_append_right _ (List.mem_append_left _ h))))))))))))))))))))))))))))))))))) g
theorem gwm_35 {w : Cond} (h : w ∈ gwc_35) (g : goodWord w = true) : w ∈ gw := gw_m (List.mem_append_right _ (List.mem_append_right _ (List.mem_append_right _ (List.mem_append_right _ (List.mem_append_right _ (List.mem_append_right _ (List.mem_append_right _ (List.mem_append_right _ (List.mem_append_right _ (List.mem_append_right _ (List.mem_append_right _ (List.mem_append_right _ (List.mem_append_right _ (List.mem_append_right _ (List.mem_append_right _ (List.mem_append_right _ (List.mem_append_right _ (List.mem_append_right _ (List.mem_append_right _ (List.mem_append_right _ (List.mem_append_right _ (List.mem_append_right _ (List.mem_append_right _ (List.mem_append_right _ (List.mem_append_right _ (List.mem_append_right _ (List.mem_append_right _ (List.mem_append_right _ (List.mem_append_right _ (List.mem_append_right _ (List.mem_append_right _ (List.mem_append_right _ (List.mem_append_right _ (List.mem_append_right _ (List.mem_append_right _ (List.mem_append_left _ h)))))))))))))))))))))))))))))))))))) g
theorem gwm_36 {w : Cond} (h : w ∈ gwc_36) (g : goodWord w = true) : w ∈ gw := gw_m (List.mem_append_right _ (List.mem_append_right _ (List.mem_append_right _ (List.mem_append_right _ (List.mem_append_right _ (List.mem_append_right _ (List.mem_append_right _ (List.mem_append_right _ (List.mem_append_right _ (List.mem_append_right _ (List.mem_append_right _ (List.mem_append_right _ (List.mem_append_right _ (List.mem_append_right _ (List.mem_append_right _ (List.mem_append_right _ (List.mem_append_right _ (List.mem_append_right _ (List.mem_append_right _ (List.mem_append_right _ (List.mem_append_right _ (List.mem_append_right _ (List.mem_append_right _ (List.mem_append_right _ (List.mem_append_right _ (List.mem_append_right _ (List.mem_append_right _ (List.mem_append_right _ (List.mem_append_right _ (List.mem_append_right _ (List.mem_append_right _ (List.mem_append_right _ (List.mem_append_right _ (List.mem_append_right _ (List.mem_append_right _ (List.mem_append_right _ (List.mem_append_left _ h))))))))))))))))))))))))))))))))))))) g
theorem gwm_37 {w : Cond} (h : w ∈ gwc_37) (g : goodWord w = true) : w ∈ gw := gw_m (List.mem_append_right _ (List.mem_append_right _ (List.mem_append_right _ (List.mem_append_right _ (List.mem_append_right _ (List.mem_append_right _ (List.mem_append_right _ (List.mem_append_right _ (List.mem_append_right _ (List.mem_append_right _ (List.mem_append_right _ (List.mem_append_right _ (List.mem_append_right _ (List.mem_append_right _ (List.mem_append_right _ (List.mem_append_right _ (List.mem_append_right _ (List.mem_append_right _ (List.mem_append_right _ (List.mem_append_right _ (List.mem_append_right _ (List.mem_append_right _ (List.mem_append_right _ (List.mem_append_right _ (List.mem_append_right _ (List.mem_append_right _ (List.mem_append_right _ (List.mem_append_right _ (List.mem_append_right _ (List.mem_append_right _ (List.mem_append_right _ (List.mem_append_right _ (List.mem_append_right _ (List.mem_append_right _ (List.mem_append_right _ (List.mem_append_right _ (List.mem_append_right _ (List.mem_append_left _ h)))))))))))))))))))))))))))))))))))))) g
theorem gwm_38 {w : Cond} (h : w ∈ gwc_38) (g : goodWord w = true) : w ∈ gw := gw_m (List.mem_append_right _ (List.mem_append_right _ (List.mem_append_right _ (List.mem_append_right _ (List.mem_append_right _ (List.mem_append_right _ (List.mem_append_right _ (List.mem_append_right _ (List.mem_append_right _ (List.mem_append_right _ (List.mem_append_right _ (List.mem_append_right _ (List.mem_append_right _ (List.mem_append_right _ (List.mem_append_right _ (List.mem_append_right _ (List.mem_append_right _ (List.mem_append_right _ (List.mem_append_right _ (List.mem_append_right _ (List.mem_append_right _ (List.mem_append_right _ (List.mem_append_right _ (List.mem_append_right _ (List.mem_append_right _ (List.mem_append_right _ (List.mem_append_right _ (List.mem_append_right _ (List.mem_append_right _ (List.mem_append_right _ (List.mem_append_right _ (List.mem_append_right _ (List.mem_append_right _ (List.mem_append_right _ (List.mem_append_right _ (List.mem_append_right _ (List.mem_append_right _ (List.mem_append_right _ (List.mem_append_left _ h))))))))))))))))))))))))))))))))))))))) g
theorem gwm_39 {w : Cond} (h : w ∈ gwc_39) (g : goodWord w = true) : w ∈ gw := gw_m (List.mem_append_right _ (List.mem_append_right _ (List.mem_append_right _ (List.mem_append_right _ (List.mem_append_right _ (List.mem_append_right _ (List.mem_append_right _ (List.mem_append_right _ (List.mem_append_right _ (List.mem_append_right _ (List.mem_append_right _ (List.mem_append_right _ (List.mem_append_right _ (List.mem_append_right _ (List.mem_append_right _ (List.mem_append_right _ (List.mem_append_right _ (List.mem_append_right _ (List.mem_append_right _ (List.mem_append_right _ (List.mem_append_right _ (List.mem_append_right _ (List.mem_append_right _ (List.mem_append_right _ (List.mem_append_right _ (List.mem_append_right _ (List.mem_append_right _ (List.mem_append_right _ (List.mem_append_right _ (List.mem_append_right _ (List.mem_append_right _ (List.mem_append_right _ (List.mem_append_right _ (List.mem_append_right _ (List.mem_append_right _ (List.mem_append_right _ (List.mem_append_right _ (List.mem_append_right _ (List.mem_append_right _ (List.mem_append_left _ h)))))))))))))))))))))))))))))))))))))))) g
theorem gwm_40 {w : Cond} (h : w ∈ gwc_40) (g : goodWord w = true) : w ∈ gw := gw_m (List.mem_append_right _ (List.mem_append_right _ (List.mem_append_right _ (List.mem_append_right _ (List.mem_append_right _ (List.mem_append_right _ (List.mem_append_right _ (List.mem_append_right _ (List.mem_append_right _ (List.mem_append_right _ (List.mem_append_right _ (List.mem_append_right _ (List.mem_append_right _ (List.mem_append_right _ (List.mem_append_right _ (List.mem_append_right _ (List.mem_append_right _ (List.mem_append_right _ (List.mem_append_right _ (List.mem_append_right _ (List.mem_append_right _ (List.mem_append_right _ (List.mem_append_right _ (List.mem_append_right _ (List.mem_append_right _ (List.mem_append_right _ (List.mem_append_right _ (List.mem_append_right _ (List.mem_append_right _ (List.mem_append_right _ (List.mem_append_right _ (List.mem_append_right _ (List.mem_append_right _ (List.mem_append_right _ (List.mem_append_right _ (List.mem_append_right _ (List.mem_append_right _ (List.mem_append_right _ (List.mem_append_right _ (List.mem_append_right _ h)))))))))))))))))))))))))))))))))))))))) g
theorem q_n_L : Cond.initialized RL ∈ gw := gwm_0 (List.mem_of_getElem? (i := 0) rfl) rfl
theorem q_n_X7 : Cond.initialized RX7 ∈ gw := gwm_0 (List.mem_of_getElem? (i := 1) rfl) rfl
theorem q_n_X4 : Cond.initialized RX4 ∈ gw := gwm_0 (List.mem_of_getElem? (i := 2) rfl) rfl
theorem q_n_X2 : Cond.initialized RX2 ∈ gw := gwm_0 (List.mem_of_getElem? (i := 3) rfl) rfl
theorem q_n_X0 : Cond.initialized RX0 ∈ gw := gwm_0 (List.mem_of_getElem? (i := 4) rfl) rfl
theorem q_n_X1 : Cond.initialized RX1 ∈ gw := gwm_0 (List.mem_of_getElem? (i := 5) rfl) rfl
theorem q_n_X6 : Cond.initialized RX6 ∈ gw := gwm_0 (List.mem_of_getElem? (i := 6) rfl) rfl
theorem q_n_X5 : Cond.initialized RX5 ∈ gw := gwm_0 (List.mem_of_getElem? (i := 7) rfl) rfl
theorem q_n_X3 : Cond.initialized RX3 ∈ gw := gwm_0 (List.mem_of_getElem? (i := 8) rfl) rfl
theorem q_n_X8 : Cond.initialized RX8 ∈ gw := gwm_0 (List.mem_of_getElem? (i := 9) rfl) rfl
theorem q_n_J9 : Cond.initialized RJ9 ∈ gw := gwm_0 (List.mem_of_getElem? (i := 10) rfl) rfl
theorem q_n_J6 : Cond.initialized RJ6 ∈ gw := gwm_0 (List.mem_of_getElem? (i := 11) rfl) rfl
theorem q_k_L_7 : Cond.classLink RL 7 RX7 ∈ gw := gwm_0 (List.mem_of_getElem? (i := 12) rfl) rfl
theorem q_a_X7 : Cond.instantiable RX7 14 ∈ gw := gwm_0 (List.mem_of_getElem? (i := 13) rfl) rfl
theorem q_m_L_9 : Cond.methodLink RL 9 yX7_init ∈ gw := gwm_0 (List.mem_of_getElem? (i := 14) rfl) rfl
theorem q_i_X7_init : Cond.instanceMethod yX7_init ∈ gw := gwm_0 (List.mem_of_getElem? (i := 15) rfl) rfl
theorem q_c_X7_init : Cond.code yX7_init cX7_init 2 none ∈ gw := gwm_0 (List.mem_of_getElem? (i := 16) rfl) rfl
theorem q_m_X7_1 : Cond.methodLink RX7 1 objectInit ∈ gw := gwm_0 (List.mem_of_getElem? (i := 17) rfl) rfl
theorem q_i_O_init : Cond.instanceMethod objectInit ∈ gw := gwm_0 (List.mem_of_getElem? (i := 18) rfl) rfl
theorem q_c_O_init : Cond.code objectInit object_method_1_code 1 none ∈ gw := gwm_0 (List.mem_of_getElem? (i := 19) rfl) rfl
theorem q_k_X7_7 : Cond.classLink RX7 7 RX4 ∈ gw := gwm_0 (List.mem_of_getElem? (i := 20) rfl) rfl
theorem q_a_X4 : Cond.instantiable RX4 8 ∈ gw := gwm_0 (List.mem_of_getElem? (i := 21) rfl) rfl
theorem q_i_X4_init : Cond.instanceMethod yX4_init ∈ gw := gwm_0 (List.mem_of_getElem? (i := 23) rfl) rfl
theorem q_c_X4_init : Cond.code yX4_init cX4_init 1 none ∈ gw := gwm_0 (List.mem_of_getElem? (i := 24) rfl) rfl
theorem q_m_X4_3 : Cond.methodLink RX4 3 objectInit ∈ gw := gwm_1 (List.mem_of_getElem? (i := 0) rfl) rfl
theorem q_k_X4_9 : Cond.classLink RX4 9 RX2 ∈ gw := gwm_1 (List.mem_of_getElem? (i := 1) rfl) rfl
theorem q_a_X2 : Cond.instantiable RX2 7 ∈ gw := gwm_1 (List.mem_of_getElem? (i := 2) rfl) rfl
theorem q_i_X2_init : Cond.instanceMethod yX2_init ∈ gw := gwm_1 (List.mem_of_getElem? (i := 4) rfl) rfl
theorem q_c_X2_init : Cond.code yX2_init cX2_init 1 none ∈ gw := gwm_1 (List.mem_of_getElem? (i := 5) rfl) rfl
theorem q_m_X2_3 : Cond.methodLink RX2 3 objectInit ∈ gw := gwm_1 (List.mem_of_getElem? (i := 6) rfl) rfl
theorem q_k_X2_18 : Cond.classLink RX2 18 "[[I" ∈ gw := gwm_1 (List.mem_of_getElem? (i := 7) rfl) rfl
theorem q_f_X2_9 : Cond.fieldLink RX2 9 "SmashedHours$House" "weight" "[I" ∈ gw := gwm_1 (List.mem_of_getElem? (i := 9) rfl) rfl
theorem q_f_X7_112 : Cond.fieldLink RX7 112 "SmashedHours$House" "weight" "[I" ∈ gw := gwm_1 (List.mem_of_getElem? (i := 10) rfl) rfl
theorem q_f_X6_84 : Cond.fieldLink RX6 84 "SmashedHours$House" "weight" "[I" ∈ gw := gwm_1 (List.mem_of_getElem? (i := 11) rfl) rfl
theorem q_f_X0_59 : Cond.fieldLink RX0 59 "SmashedHours$House" "weight" "[I" ∈ gw := gwm_1 (List.mem_of_getElem? (i := 12) rfl) rfl
theorem q_f_X2_15 : Cond.fieldLink RX2 15 "SmashedHours$House" "nights" "[I" ∈ gw := gwm_1 (List.mem_of_getElem? (i := 13) rfl) rfl
theorem q_f_X0_27 : Cond.fieldLink RX0 27 "SmashedHours$House" "nights" "[I" ∈ gw := gwm_1 (List.mem_of_getElem? (i := 14) rfl) rfl
theorem q_f_X2_20 : Cond.fieldLink RX2 20 "SmashedHours$House" "wanted" "[[I" ∈ gw := gwm_1 (List.mem_of_getElem? (i := 15) rfl) rfl
theorem q_f_X6_76 : Cond.fieldLink RX6 76 "SmashedHours$House" "wanted" "[[I" ∈ gw := gwm_1 (List.mem_of_getElem? (i := 16) rfl) rfl
theorem q_f_X7_131 : Cond.fieldLink RX7 131 "SmashedHours$House" "wanted" "[[I" ∈ gw := gwm_1 (List.mem_of_getElem? (i := 17) rfl) rfl
theorem q_f_X2_23 : Cond.fieldLink RX2 23 "SmashedHours$House" "wantCount" "[I" ∈ gw := gwm_1 (List.mem_of_getElem? (i := 18) rfl) rfl
theorem q_f_X6_73 : Cond.fieldLink RX6 73 "SmashedHours$House" "wantCount" "[I" ∈ gw := gwm_1 (List.mem_of_getElem? (i := 19) rfl) rfl
theorem q_f_X7_128 : Cond.fieldLink RX7 128 "SmashedHours$House" "wantCount" "[I" ∈ gw := gwm_1 (List.mem_of_getElem? (i := 20) rfl) rfl
theorem q_f_X2_26 : Cond.fieldLink RX2 26 "SmashedHours$House" "wantBits" "[I" ∈ gw := gwm_1 (List.mem_of_getElem? (i := 21) rfl) rfl
theorem q_f_X5_47 : Cond.fieldLink RX5 47 "SmashedHours$House" "wantBits" "[I" ∈ gw := gwm_1 (List.mem_of_getElem? (i := 22) rfl) rfl
theorem q_f_X2_29 : Cond.fieldLink RX2 29 "SmashedHours$House" "size" "I" ∈ gw := gwm_1 (List.mem_of_getElem? (i := 23) rfl) rfl
theorem q_f_X6_56 : Cond.fieldLink RX6 56 "SmashedHours$House" "size" "I" ∈ gw := gwm_1 (List.mem_of_getElem? (i := 24) rfl) rfl
theorem q_f_X4_55 : Cond.fieldLink RX4 55 "SmashedHours$House" "size" "I" ∈ gw := gwm_2 (List.mem_of_getElem? (i := 0) rfl) rfl
theorem q_f_X7_193 : Cond.fieldLink RX7 193 "SmashedHours$House" "size" "I" ∈ gw := gwm_2 (List.mem_of_getElem? (i := 1) rfl) rfl
theorem q_f_X2_33 : Cond.fieldLink RX2 33 "SmashedHours$House" "law" "I" ∈ gw := gwm_2 (List.mem_of_getElem? (i := 2) rfl) rfl
theorem q_f_X0_43 : Cond.fieldLink RX0 43 "SmashedHours$House" "law" "I" ∈ gw := gwm_2 (List.mem_of_getElem? (i := 3) rfl) rfl
theorem q_f_X4_78 : Cond.fieldLink RX4 78 "SmashedHours$House" "law" "I" ∈ gw := gwm_2 (List.mem_of_getElem? (i := 4) rfl) rfl
theorem q_ai : Cond.arrayClass .int ∈ gw := gwm_2 (List.mem_of_getElem? (i := 20) rfl) rfl
theorem q_f_X4_12 : Cond.fieldLink RX4 12 "SmashedHours$Script" "draft" "LSmashedHours$House;" ∈ gw := gwm_2 (List.mem_of_getElem? (i := 21) rfl) rfl
theorem q_f_X7_94 : Cond.fieldLink RX7 94 "SmashedHours$Script" "draft" "LSmashedHours$House;" ∈ gw := gwm_2 (List.mem_of_getElem? (i := 22) rfl) rfl
theorem q_f_X4_18 : Cond.fieldLink RX4 18 "SmashedHours$Script" "letters" "[I" ∈ gw := gwm_2 (List.mem_of_getElem? (i := 23) rfl) rfl
theorem q_f_X4_22 : Cond.fieldLink RX4 22 "SmashedHours$Script" "length" "I" ∈ gw := gwm_2 (List.mem_of_getElem? (i := 24) rfl) rfl
theorem q_f_X7_86 : Cond.fieldLink RX7 86 "SmashedHours$Script" "length" "I" ∈ gw := gwm_3 (List.mem_of_getElem? (i := 0) rfl) rfl
theorem q_f_X4_29 : Cond.fieldLink RX4 29 "SmashedHours$Script" "place" "I" ∈ gw := gwm_3 (List.mem_of_getElem? (i := 1) rfl) rfl
theorem q_f_X4_52 : Cond.fieldLink RX4 52 "SmashedHours$Script" "tokenPlace" "I" ∈ gw := gwm_3 (List.mem_of_getElem? (i := 2) rfl) rfl
theorem q_f_X4_39 : Cond.fieldLink RX4 39 "SmashedHours$Script" "token" "I" ∈ gw := gwm_3 (List.mem_of_getElem? (i := 3) rfl) rfl
theorem q_f_X4_62 : Cond.fieldLink RX4 62 "SmashedHours$Script" "value" "I" ∈ gw := gwm_3 (List.mem_of_getElem? (i := 4) rfl) rfl
theorem q_f_X4_32 : Cond.fieldLink RX4 32 "SmashedHours$Script" "lawTold" "Z" ∈ gw := gwm_3 (List.mem_of_getElem? (i := 5) rfl) rfl
theorem q_k_X7_16 : Cond.classLink RX7 16 RX2 ∈ gw := gwm_3 (List.mem_of_getElem? (i := 23) rfl) rfl
theorem q_k_X7_23 : Cond.classLink RX7 23 RX0 ∈ gw := gwm_4 (List.mem_of_getElem? (i := 0) rfl) rfl
theorem q_a_X0 : Cond.instantiable RX0 8 ∈ gw := gwm_4 (List.mem_of_getElem? (i := 1) rfl) rfl
theorem q_m_X7_25 : Cond.methodLink RX7 25 yX0_init ∈ gw := gwm_4 (List.mem_of_getElem? (i := 2) rfl) rfl
theorem q_i_X0_init : Cond.instanceMethod yX0_init ∈ gw := gwm_4 (List.mem_of_getElem? (i := 3) rfl) rfl
theorem q_c_X0_init : Cond.code yX0_init cX0_init 2 none ∈ gw := gwm_4 (List.mem_of_getElem? (i := 4) rfl) rfl
theorem q_m_X0_3 : Cond.methodLink RX0 3 objectInit ∈ gw := gwm_4 (List.mem_of_getElem? (i := 5) rfl) rfl
theorem q_f_X0_9 : Cond.fieldLink RX0 9 "SmashedHours$Affairs" "has" "[I" ∈ gw := gwm_4 (List.mem_of_getElem? (i := 6) rfl) rfl
theorem q_f_X5_20 : Cond.fieldLink RX5 20 "SmashedHours$Affairs" "has" "[I" ∈ gw := gwm_4 (List.mem_of_getElem? (i := 7) rfl) rfl
theorem q_f_X7_118 : Cond.fieldLink RX7 118 "SmashedHours$Affairs" "has" "[I" ∈ gw := gwm_4 (List.mem_of_getElem? (i := 8) rfl) rfl
theorem q_f_X0_15 : Cond.fieldLink RX0 15 "SmashedHours$Affairs" "left" "[I" ∈ gw := gwm_4 (List.mem_of_getElem? (i := 9) rfl) rfl
theorem q_f_X7_115 : Cond.fieldLink RX7 115 "SmashedHours$Affairs" "left" "[I" ∈ gw := gwm_4 (List.mem_of_getElem? (i := 10) rfl) rfl
theorem q_f_X0_18 : Cond.fieldLink RX0 18 "SmashedHours$Affairs" "bits" "[I" ∈ gw := gwm_4 (List.mem_of_getElem? (i := 11) rfl) rfl
theorem q_f_X7_138 : Cond.fieldLink RX7 138 "SmashedHours$Affairs" "bits" "[I" ∈ gw := gwm_4 (List.mem_of_getElem? (i := 12) rfl) rfl
theorem q_f_X3_18 : Cond.fieldLink RX3 18 "SmashedHours$Affairs" "bitCount" "I" ∈ gw := gwm_4 (List.mem_of_getElem? (i := 13) rfl) rfl
theorem q_f_X0_30 : Cond.fieldLink RX0 30 "SmashedHours$Affairs" "bitCount" "I" ∈ gw := gwm_4 (List.mem_of_getElem? (i := 14) rfl) rfl
theorem q_f_X7_135 : Cond.fieldLink RX7 135 "SmashedHours$Affairs" "bitCount" "I" ∈ gw := gwm_4 (List.mem_of_getElem? (i := 15) rfl) rfl
theorem q_f_X0_34 : Cond.fieldLink RX0 34 "SmashedHours$Affairs" "given" "I" ∈ gw := gwm_4 (List.mem_of_getElem? (i := 16) rfl) rfl
theorem q_f_X7_121 : Cond.fieldLink RX7 121 "SmashedHours$Affairs" "given" "I" ∈ gw := gwm_4 (List.mem_of_getElem? (i := 17) rfl) rfl
theorem q_f_X0_37 : Cond.fieldLink RX0 37 "SmashedHours$Affairs" "made" "I" ∈ gw := gwm_4 (List.mem_of_getElem? (i := 18) rfl) rfl
theorem q_f_X7_144 : Cond.fieldLink RX7 144 "SmashedHours$Affairs" "made" "I" ∈ gw := gwm_4 (List.mem_of_getElem? (i := 19) rfl) rfl
theorem q_f_X0_40 : Cond.fieldLink RX0 40 "SmashedHours$Affairs" "gone" "I" ∈ gw := gwm_4 (List.mem_of_getElem? (i := 20) rfl) rfl
theorem q_f_X7_141 : Cond.fieldLink RX7 141 "SmashedHours$Affairs" "gone" "I" ∈ gw := gwm_4 (List.mem_of_getElem? (i := 21) rfl) rfl
theorem q_f_X0_46 : Cond.fieldLink RX0 46 "SmashedHours$Affairs" "law" "I" ∈ gw := gwm_4 (List.mem_of_getElem? (i := 22) rfl) rfl
theorem q_f_X7_147 : Cond.fieldLink RX7 147 "SmashedHours$Affairs" "law" "I" ∈ gw := gwm_4 (List.mem_of_getElem? (i := 23) rfl) rfl
theorem q_k_X7_30 : Cond.classLink RX7 30 RX1 ∈ gw := gwm_5 (List.mem_of_getElem? (i := 16) rfl) rfl
theorem q_a_X1 : Cond.instantiable RX1 3 ∈ gw := gwm_5 (List.mem_of_getElem? (i := 17) rfl) rfl
theorem q_m_X7_32 : Cond.methodLink RX7 32 yX1_init ∈ gw := gwm_5 (List.mem_of_getElem? (i := 18) rfl) rfl
theorem q_i_X1_init : Cond.instanceMethod yX1_init ∈ gw := gwm_5 (List.mem_of_getElem? (i := 19) rfl) rfl
theorem q_c_X1_init : Cond.code yX1_init cX1_init 2 none ∈ gw := gwm_5 (List.mem_of_getElem? (i := 20) rfl) rfl
theorem q_m_X1_3 : Cond.methodLink RX1 3 objectInit ∈ gw := gwm_5 (List.mem_of_getElem? (i := 21) rfl) rfl
theorem q_k_X1_9 : Cond.classLink RX1 9 RX0 ∈ gw := gwm_5 (List.mem_of_getElem? (i := 22) rfl) rfl
theorem q_m_X1_17 : Cond.methodLink RX1 17 yX0_init ∈ gw := gwm_5 (List.mem_of_getElem? (i := 24) rfl) rfl
theorem q_f_X1_11 : Cond.fieldLink RX1 11 "SmashedHours$History" "rows" "[LSmashedHours$Affairs;" ∈ gw := gwm_6 (List.mem_of_getElem? (i := 0) rfl) rfl
theorem q_f_X1_18 : Cond.fieldLink RX1 18 "SmashedHours$History" "next" "I" ∈ gw := gwm_6 (List.mem_of_getElem? (i := 1) rfl) rfl
theorem q_f_X1_26 : Cond.fieldLink RX1 26 "SmashedHours$History" "known" "I" ∈ gw := gwm_6 (List.mem_of_getElem? (i := 2) rfl) rfl
theorem q_f_X7_103 : Cond.fieldLink RX7 103 "SmashedHours$History" "known" "I" ∈ gw := gwm_6 (List.mem_of_getElem? (i := 3) rfl) rfl
theorem q_k_X7_45 : Cond.classLink RX7 45 RX6 ∈ gw := gwm_6 (List.mem_of_getElem? (i := 11) rfl) rfl
theorem q_a_X6 : Cond.instantiable RX6 9 ∈ gw := gwm_6 (List.mem_of_getElem? (i := 12) rfl) rfl
theorem q_m_X7_47 : Cond.methodLink RX7 47 yX6_init ∈ gw := gwm_6 (List.mem_of_getElem? (i := 13) rfl) rfl
theorem q_i_X6_init : Cond.instanceMethod yX6_init ∈ gw := gwm_6 (List.mem_of_getElem? (i := 14) rfl) rfl
theorem q_c_X6_init : Cond.code yX6_init cX6_init 2 none ∈ gw := gwm_6 (List.mem_of_getElem? (i := 15) rfl) rfl
theorem q_m_X6_3 : Cond.methodLink RX6 3 objectInit ∈ gw := gwm_6 (List.mem_of_getElem? (i := 16) rfl) rfl
theorem q_f_X6_27 : Cond.fieldLink RX6 27 "SmashedHours$Silk" "people" "LSmashedHours$House;" ∈ gw := gwm_6 (List.mem_of_getElem? (i := 17) rfl) rfl
theorem q_f_X6_9 : Cond.fieldLink RX6 9 "SmashedHours$Silk" "gave" "[I" ∈ gw := gwm_6 (List.mem_of_getElem? (i := 18) rfl) rfl
theorem q_f_X6_15 : Cond.fieldLink RX6 15 "SmashedHours$Silk" "giver" "[I" ∈ gw := gwm_6 (List.mem_of_getElem? (i := 19) rfl) rfl
theorem q_f_X6_18 : Cond.fieldLink RX6 18 "SmashedHours$Silk" "aims" "[I" ∈ gw := gwm_6 (List.mem_of_getElem? (i := 20) rfl) rfl
theorem q_f_X6_35 : Cond.fieldLink RX6 35 "SmashedHours$Silk" "left" "I" ∈ gw := gwm_6 (List.mem_of_getElem? (i := 21) rfl) rfl
theorem q_f_X6_21 : Cond.fieldLink RX6 21 "SmashedHours$Silk" "got" "[I" ∈ gw := gwm_6 (List.mem_of_getElem? (i := 22) rfl) rfl
theorem q_f_X0_51 : Cond.fieldLink RX0 51 "SmashedHours$Silk" "got" "[I" ∈ gw := gwm_6 (List.mem_of_getElem? (i := 23) rfl) rfl
theorem q_f_X7_190 : Cond.fieldLink RX7 190 "SmashedHours$Silk" "got" "[I" ∈ gw := gwm_6 (List.mem_of_getElem? (i := 24) rfl) rfl
theorem q_f_X6_24 : Cond.fieldLink RX6 24 "SmashedHours$Silk" "lumps" "[I" ∈ gw := gwm_7 (List.mem_of_getElem? (i := 0) rfl) rfl
theorem q_f_X0_62 : Cond.fieldLink RX0 62 "SmashedHours$Silk" "lumps" "[I" ∈ gw := gwm_7 (List.mem_of_getElem? (i := 1) rfl) rfl
theorem q_f_X6_50 : Cond.fieldLink RX6 50 "SmashedHours$Silk" "lumpCount" "I" ∈ gw := gwm_7 (List.mem_of_getElem? (i := 2) rfl) rfl
theorem q_f_X0_56 : Cond.fieldLink RX0 56 "SmashedHours$Silk" "lumpCount" "I" ∈ gw := gwm_7 (List.mem_of_getElem? (i := 3) rfl) rfl
theorem q_f_X6_53 : Cond.fieldLink RX6 53 "SmashedHours$Silk" "ringed" "I" ∈ gw := gwm_7 (List.mem_of_getElem? (i := 4) rfl) rfl
theorem q_f_X7_173 : Cond.fieldLink RX7 173 "SmashedHours$Silk" "ringed" "I" ∈ gw := gwm_7 (List.mem_of_getElem? (i := 5) rfl) rfl
theorem q_az : Cond.arrayClass .boolean ∈ gw := gwm_8 (List.mem_of_getElem? (i := 0) rfl) rfl
theorem q_k_X7_54 : Cond.classLink RX7 54 RX5 ∈ gw := gwm_8 (List.mem_of_getElem? (i := 1) rfl) rfl
theorem q_a_X5 : Cond.instantiable RX5 2 ∈ gw := gwm_8 (List.mem_of_getElem? (i := 2) rfl) rfl
theorem q_i_X5_init : Cond.instanceMethod yX5_init ∈ gw := gwm_8 (List.mem_of_getElem? (i := 4) rfl) rfl
theorem q_c_X5_init : Cond.code yX5_init cX5_init 1 none ∈ gw := gwm_8 (List.mem_of_getElem? (i := 5) rfl) rfl
theorem q_m_X5_3 : Cond.methodLink RX5 3 objectInit ∈ gw := gwm_8 (List.mem_of_getElem? (i := 6) rfl) rfl
theorem q_k_X5_11 : Cond.classLink RX5 11 "[[I" ∈ gw := gwm_8 (List.mem_of_getElem? (i := 7) rfl) rfl
theorem q_f_X5_13 : Cond.fieldLink RX5 13 "SmashedHours$Sharing" "best" "[[I" ∈ gw := gwm_8 (List.mem_of_getElem? (i := 8) rfl) rfl
theorem q_f_X5_16 : Cond.fieldLink RX5 16 "SmashedHours$Sharing" "hours" "I" ∈ gw := gwm_8 (List.mem_of_getElem? (i := 9) rfl) rfl
theorem q_k_X7_61 : Cond.classLink RX7 61 RX3 ∈ gw := gwm_8 (List.mem_of_getElem? (i := 15) rfl) rfl
theorem q_a_X3 : Cond.instantiable RX3 2 ∈ gw := gwm_8 (List.mem_of_getElem? (i := 16) rfl) rfl
theorem q_i_X3_init : Cond.instanceMethod yX3_init ∈ gw := gwm_8 (List.mem_of_getElem? (i := 18) rfl) rfl
theorem q_c_X3_init : Cond.code yX3_init cX3_init 1 none ∈ gw := gwm_8 (List.mem_of_getElem? (i := 19) rfl) rfl
theorem q_m_X3_3 : Cond.methodLink RX3 3 objectInit ∈ gw := gwm_8 (List.mem_of_getElem? (i := 20) rfl) rfl
theorem q_f_X3_11 : Cond.fieldLink RX3 11 "SmashedHours$Lumps" "sums" "[I" ∈ gw := gwm_8 (List.mem_of_getElem? (i := 21) rfl) rfl
theorem q_f_X3_15 : Cond.fieldLink RX3 15 "SmashedHours$Lumps" "hours" "[I" ∈ gw := gwm_8 (List.mem_of_getElem? (i := 22) rfl) rfl
theorem q_f_X7_10 : Cond.fieldLink RX7 10 "SmashedHours" "script" "LSmashedHours$Script;" ∈ gw := gwm_9 (List.mem_of_getElem? (i := 3) rfl) rfl
theorem q_f_X7_19 : Cond.fieldLink RX7 19 "SmashedHours" "people" "LSmashedHours$House;" ∈ gw := gwm_9 (List.mem_of_getElem? (i := 4) rfl) rfl
theorem q_f_X7_26 : Cond.fieldLink RX7 26 "SmashedHours" "here" "LSmashedHours$Affairs;" ∈ gw := gwm_9 (List.mem_of_getElem? (i := 5) rfl) rfl
theorem q_f_X7_33 : Cond.fieldLink RX7 33 "SmashedHours" "history" "LSmashedHours$History;" ∈ gw := gwm_9 (List.mem_of_getElem? (i := 6) rfl) rfl
theorem q_f_X7_37 : Cond.fieldLink RX7 37 "SmashedHours" "images" "[LSmashedHours$Affairs;" ∈ gw := gwm_9 (List.mem_of_getElem? (i := 7) rfl) rfl
theorem q_f_X7_41 : Cond.fieldLink RX7 41 "SmashedHours" "kept" "[Z" ∈ gw := gwm_9 (List.mem_of_getElem? (i := 8) rfl) rfl
theorem q_f_X7_50 : Cond.fieldLink RX7 50 "SmashedHours" "silk" "LSmashedHours$Silk;" ∈ gw := gwm_9 (List.mem_of_getElem? (i := 9) rfl) rfl
theorem q_f_X7_57 : Cond.fieldLink RX7 57 "SmashedHours" "sharing" "LSmashedHours$Sharing;" ∈ gw := gwm_9 (List.mem_of_getElem? (i := 10) rfl) rfl
theorem q_f_X7_64 : Cond.fieldLink RX7 64 "SmashedHours" "lumps" "LSmashedHours$Lumps;" ∈ gw := gwm_9 (List.mem_of_getElem? (i := 11) rfl) rfl
theorem q_f_X7_68 : Cond.fieldLink RX7 68 "SmashedHours" "toldSet" "[I" ∈ gw := gwm_9 (List.mem_of_getElem? (i := 12) rfl) rfl
theorem q_f_X7_72 : Cond.fieldLink RX7 72 "SmashedHours" "toldWho" "[I" ∈ gw := gwm_9 (List.mem_of_getElem? (i := 13) rfl) rfl
theorem q_f_X7_75 : Cond.fieldLink RX7 75 "SmashedHours" "toldHour" "[I" ∈ gw := gwm_9 (List.mem_of_getElem? (i := 14) rfl) rfl
theorem q_f_X7_106 : Cond.fieldLink RX7 106 "SmashedHours" "told" "I" ∈ gw := gwm_9 (List.mem_of_getElem? (i := 15) rfl) rfl
theorem q_f_X7_257 : Cond.fieldLink RX7 257 "SmashedHours" "marks" "J" ∈ gw := gwm_9 (List.mem_of_getElem? (i := 16) rfl) rfl
theorem q_m_L_13 : Cond.methodLink RL 13 yX7_type ∈ gw := gwm_10 (List.mem_of_getElem? (i := 21) rfl) rfl
theorem q_i_X7_type : Cond.instanceMethod yX7_type ∈ gw := gwm_10 (List.mem_of_getElem? (i := 22) rfl) rfl
theorem q_s_X7_type : Cond.selects RX7 yX7_type yX7_type ∈ gw := gwm_10 (List.mem_of_getElem? (i := 23) rfl) rfl
theorem q_c_X7_type : Cond.code yX7_type cX7_type 2 (some .int) ∈ gw := gwm_10 (List.mem_of_getElem? (i := 24) rfl) rfl
theorem q_m_X7_78 : Cond.methodLink RX7 78 yX7_within ∈ gw := gwm_11 (List.mem_of_getElem? (i := 0) rfl) rfl
theorem q_t_X7_within : Cond.static yX7_within ∈ gw := gwm_11 (List.mem_of_getElem? (i := 1) rfl) rfl
theorem q_c_X7_within : Cond.code yX7_within cX7_within 3 (some .boolean) ∈ gw := gwm_11 (List.mem_of_getElem? (i := 2) rfl) rfl
theorem q_m_X7_82 : Cond.methodLink RX7 82 yX4_add ∈ gw := gwm_11 (List.mem_of_getElem? (i := 3) rfl) rfl
theorem q_i_X4_add : Cond.instanceMethod yX4_add ∈ gw := gwm_11 (List.mem_of_getElem? (i := 4) rfl) rfl
theorem q_s_X4_add : Cond.selects RX4 yX4_add yX4_add ∈ gw := gwm_11 (List.mem_of_getElem? (i := 5) rfl) rfl
theorem q_c_X4_add : Cond.code yX4_add cX4_add 2 (some .boolean) ∈ gw := gwm_11 (List.mem_of_getElem? (i := 6) rfl) rfl
theorem q_m_L_18 : Cond.methodLink RL 18 yX7_clear ∈ gw := gwm_11 (List.mem_of_getElem? (i := 7) rfl) rfl
theorem q_i_X7_clear : Cond.instanceMethod yX7_clear ∈ gw := gwm_11 (List.mem_of_getElem? (i := 8) rfl) rfl
theorem q_s_X7_clear : Cond.selects RX7 yX7_clear yX7_clear ∈ gw := gwm_11 (List.mem_of_getElem? (i := 9) rfl) rfl
theorem q_c_X7_clear : Cond.code yX7_clear cX7_clear 2 (some .int) ∈ gw := gwm_11 (List.mem_of_getElem? (i := 10) rfl) rfl
theorem q_m_L_23 : Cond.methodLink RL 23 yX7_house ∈ gw := gwm_11 (List.mem_of_getElem? (i := 11) rfl) rfl
theorem q_i_X7_house : Cond.instanceMethod yX7_house ∈ gw := gwm_11 (List.mem_of_getElem? (i := 12) rfl) rfl
theorem q_s_X7_house : Cond.selects RX7 yX7_house yX7_house ∈ gw := gwm_11 (List.mem_of_getElem? (i := 13) rfl) rfl
theorem q_c_X7_house : Cond.code yX7_house cX7_house 3 (some .int) ∈ gw := gwm_11 (List.mem_of_getElem? (i := 14) rfl) rfl
theorem q_m_X7_90 : Cond.methodLink RX7 90 yX4_read ∈ gw := gwm_11 (List.mem_of_getElem? (i := 15) rfl) rfl
theorem q_i_X4_read : Cond.instanceMethod yX4_read ∈ gw := gwm_11 (List.mem_of_getElem? (i := 16) rfl) rfl
theorem q_s_X4_read : Cond.selects RX4 yX4_read yX4_read ∈ gw := gwm_11 (List.mem_of_getElem? (i := 17) rfl) rfl
theorem q_c_X4_read : Cond.code yX4_read cX4_read 4 (some .int) ∈ gw := gwm_11 (List.mem_of_getElem? (i := 18) rfl) rfl
theorem q_m_X4_26 : Cond.methodLink RX4 26 yX2_empty ∈ gw := gwm_11 (List.mem_of_getElem? (i := 19) rfl) rfl
theorem q_i_X2_empty : Cond.instanceMethod yX2_empty ∈ gw := gwm_11 (List.mem_of_getElem? (i := 20) rfl) rfl
theorem q_s_X2_empty : Cond.selects RX2 yX2_empty yX2_empty ∈ gw := gwm_11 (List.mem_of_getElem? (i := 21) rfl) rfl
theorem q_c_X2_empty : Cond.code yX2_empty cX2_empty 1 none ∈ gw := gwm_11 (List.mem_of_getElem? (i := 22) rfl) rfl
theorem q_m_X4_36 : Cond.methodLink RX4 36 yX4_step ∈ gw := gwm_11 (List.mem_of_getElem? (i := 23) rfl) rfl
theorem q_i_X4_step : Cond.instanceMethod yX4_step ∈ gw := gwm_12 (List.mem_of_getElem? (i := 0) rfl) rfl
theorem q_c_X4_step : Cond.code yX4_step cX4_step 1 none ∈ gw := gwm_12 (List.mem_of_getElem? (i := 1) rfl) rfl
theorem q_m_X4_85 : Cond.methodLink RX4 85 yX4_isDigit ∈ gw := gwm_12 (List.mem_of_getElem? (i := 2) rfl) rfl
theorem q_t_X4_isDigit : Cond.static yX4_isDigit ∈ gw := gwm_12 (List.mem_of_getElem? (i := 3) rfl) rfl
theorem q_c_X4_isDigit : Cond.code yX4_isDigit cX4_isDigit 1 (some .boolean) ∈ gw := gwm_12 (List.mem_of_getElem? (i := 4) rfl) rfl
theorem q_m_X4_89 : Cond.methodLink RX4 89 yX4_readNumber ∈ gw := gwm_12 (List.mem_of_getElem? (i := 5) rfl) rfl
theorem q_i_X4_readNumber : Cond.instanceMethod yX4_readNumber ∈ gw := gwm_12 (List.mem_of_getElem? (i := 7) rfl) rfl
theorem q_c_X4_readNumber : Cond.code yX4_readNumber cX4_readNumber 2 (some .boolean) ∈ gw := gwm_12 (List.mem_of_getElem? (i := 8) rfl) rfl
theorem q_m_X4_42 : Cond.methodLink RX4 42 yX4_readPerson ∈ gw := gwm_12 (List.mem_of_getElem? (i := 9) rfl) rfl
theorem q_i_X4_readPerson : Cond.instanceMethod yX4_readPerson ∈ gw := gwm_12 (List.mem_of_getElem? (i := 11) rfl) rfl
theorem q_c_X4_readPerson : Cond.code yX4_readPerson cX4_readPerson 3 (some .boolean) ∈ gw := gwm_12 (List.mem_of_getElem? (i := 12) rfl) rfl
theorem q_m_X4_58 : Cond.methodLink RX4 58 yX4_stepToNumber ∈ gw := gwm_12 (List.mem_of_getElem? (i := 13) rfl) rfl
theorem q_i_X4_stepToNumber : Cond.instanceMethod yX4_stepToNumber ∈ gw := gwm_12 (List.mem_of_getElem? (i := 15) rfl) rfl
theorem q_c_X4_stepToNumber : Cond.code yX4_stepToNumber cX4_stepToNumber 3 (some .boolean) ∈ gw := gwm_12 (List.mem_of_getElem? (i := 16) rfl) rfl
theorem q_m_X4_65 : Cond.methodLink RX4 65 yX4_stepToEnd ∈ gw := gwm_12 (List.mem_of_getElem? (i := 18) rfl) rfl
theorem q_i_X4_stepToEnd : Cond.instanceMethod yX4_stepToEnd ∈ gw := gwm_12 (List.mem_of_getElem? (i := 20) rfl) rfl
theorem q_c_X4_stepToEnd : Cond.code yX4_stepToEnd cX4_stepToEnd 1 (some .boolean) ∈ gw := gwm_12 (List.mem_of_getElem? (i := 21) rfl) rfl
theorem q_m_X4_68 : Cond.methodLink RX4 68 yX2_addPerson ∈ gw := gwm_12 (List.mem_of_getElem? (i := 22) rfl) rfl
theorem q_i_X2_addPerson : Cond.instanceMethod yX2_addPerson ∈ gw := gwm_12 (List.mem_of_getElem? (i := 23) rfl) rfl
theorem q_s_X2_addPerson : Cond.selects RX2 yX2_addPerson yX2_addPerson ∈ gw := gwm_12 (List.mem_of_getElem? (i := 24) rfl) rfl
theorem q_c_X2_addPerson : Cond.code yX2_addPerson cX2_addPerson 3 (some .boolean) ∈ gw := gwm_13 (List.mem_of_getElem? (i := 0) rfl) rfl
theorem q_m_X2_36 : Cond.methodLink RX2 36 yX2_dropWants ∈ gw := gwm_13 (List.mem_of_getElem? (i := 1) rfl) rfl
theorem q_i_X2_dropWants : Cond.instanceMethod yX2_dropWants ∈ gw := gwm_13 (List.mem_of_getElem? (i := 2) rfl) rfl
theorem q_s_X2_dropWants : Cond.selects RX2 yX2_dropWants yX2_dropWants ∈ gw := gwm_13 (List.mem_of_getElem? (i := 3) rfl) rfl
theorem q_c_X2_dropWants : Cond.code yX2_dropWants cX2_dropWants 2 none ∈ gw := gwm_13 (List.mem_of_getElem? (i := 4) rfl) rfl
theorem q_m_X4_46 : Cond.methodLink RX4 46 yX4_readWants ∈ gw := gwm_13 (List.mem_of_getElem? (i := 5) rfl) rfl
theorem q_i_X4_readWants : Cond.instanceMethod yX4_readWants ∈ gw := gwm_13 (List.mem_of_getElem? (i := 7) rfl) rfl
theorem q_c_X4_readWants : Cond.code yX4_readWants cX4_readWants 3 (some .boolean) ∈ gw := gwm_13 (List.mem_of_getElem? (i := 8) rfl) rfl
theorem q_m_X4_71 : Cond.methodLink RX4 71 yX2_dropWants ∈ gw := gwm_13 (List.mem_of_getElem? (i := 9) rfl) rfl
theorem q_m_X4_75 : Cond.methodLink RX4 75 yX2_addWant ∈ gw := gwm_13 (List.mem_of_getElem? (i := 10) rfl) rfl
theorem q_i_X2_addWant : Cond.instanceMethod yX2_addWant ∈ gw := gwm_13 (List.mem_of_getElem? (i := 11) rfl) rfl
theorem q_s_X2_addWant : Cond.selects RX2 yX2_addWant yX2_addWant ∈ gw := gwm_13 (List.mem_of_getElem? (i := 12) rfl) rfl
theorem q_c_X2_addWant : Cond.code yX2_addWant cX2_addWant 3 (some .boolean) ∈ gw := gwm_13 (List.mem_of_getElem? (i := 13) rfl) rfl
theorem q_m_X2_40 : Cond.methodLink RX2 40 yX2_knows ∈ gw := gwm_13 (List.mem_of_getElem? (i := 14) rfl) rfl
theorem q_i_X2_knows : Cond.instanceMethod yX2_knows ∈ gw := gwm_13 (List.mem_of_getElem? (i := 15) rfl) rfl
theorem q_s_X2_knows : Cond.selects RX2 yX2_knows yX2_knows ∈ gw := gwm_13 (List.mem_of_getElem? (i := 16) rfl) rfl
theorem q_c_X2_knows : Cond.code yX2_knows cX2_knows 2 (some .boolean) ∈ gw := gwm_13 (List.mem_of_getElem? (i := 17) rfl) rfl
theorem q_t_X7_holds : Cond.static yX7_holds ∈ gw := gwm_13 (List.mem_of_getElem? (i := 19) rfl) rfl
theorem q_c_X7_holds : Cond.code yX7_holds cX7_holds 2 (some .boolean) ∈ gw := gwm_13 (List.mem_of_getElem? (i := 20) rfl) rfl
theorem q_m_X4_49 : Cond.methodLink RX4 49 yX4_readLaw ∈ gw := gwm_13 (List.mem_of_getElem? (i := 21) rfl) rfl
theorem q_i_X4_readLaw : Cond.instanceMethod yX4_readLaw ∈ gw := gwm_13 (List.mem_of_getElem? (i := 23) rfl) rfl
theorem q_c_X4_readLaw : Cond.code yX4_readLaw cX4_readLaw 1 (some .boolean) ∈ gw := gwm_13 (List.mem_of_getElem? (i := 24) rfl) rfl
theorem q_m_X7_97 : Cond.methodLink RX7 97 yX2_become ∈ gw := gwm_14 (List.mem_of_getElem? (i := 0) rfl) rfl
theorem q_i_X2_become : Cond.instanceMethod yX2_become ∈ gw := gwm_14 (List.mem_of_getElem? (i := 1) rfl) rfl
theorem q_s_X2_become : Cond.selects RX2 yX2_become yX2_become ∈ gw := gwm_14 (List.mem_of_getElem? (i := 2) rfl) rfl
theorem q_c_X2_become : Cond.code yX2_become cX2_become 4 none ∈ gw := gwm_14 (List.mem_of_getElem? (i := 3) rfl) rfl
theorem q_m_X7_100 : Cond.methodLink RX7 100 yX0_begin ∈ gw := gwm_14 (List.mem_of_getElem? (i := 4) rfl) rfl
theorem q_i_X0_begin : Cond.instanceMethod yX0_begin ∈ gw := gwm_14 (List.mem_of_getElem? (i := 5) rfl) rfl
theorem q_s_X0_begin : Cond.selects RX0 yX0_begin yX0_begin ∈ gw := gwm_14 (List.mem_of_getElem? (i := 6) rfl) rfl
theorem q_c_X0_begin : Cond.code yX0_begin cX0_begin 3 none ∈ gw := gwm_14 (List.mem_of_getElem? (i := 7) rfl) rfl
theorem q_m_X0_21 : Cond.methodLink RX0 21 yX2_knows ∈ gw := gwm_14 (List.mem_of_getElem? (i := 8) rfl) rfl
theorem q_m_L_27 : Cond.methodLink RL 27 yX7_person ∈ gw := gwm_14 (List.mem_of_getElem? (i := 9) rfl) rfl
theorem q_i_X7_person : Cond.instanceMethod yX7_person ∈ gw := gwm_14 (List.mem_of_getElem? (i := 10) rfl) rfl
theorem q_s_X7_person : Cond.selects RX7 yX7_person yX7_person ∈ gw := gwm_14 (List.mem_of_getElem? (i := 11) rfl) rfl
theorem q_c_X7_person : Cond.code yX7_person cX7_person 3 (some .int) ∈ gw := gwm_14 (List.mem_of_getElem? (i := 12) rfl) rfl
theorem q_m_X7_109 : Cond.methodLink RX7 109 yX2_knows ∈ gw := gwm_14 (List.mem_of_getElem? (i := 13) rfl) rfl
theorem q_m_X7_124 : Cond.methodLink RX7 124 yX7_holds ∈ gw := gwm_14 (List.mem_of_getElem? (i := 14) rfl) rfl
theorem q_m_L_32 : Cond.methodLink RL 32 yX7_wants ∈ gw := gwm_14 (List.mem_of_getElem? (i := 15) rfl) rfl
theorem q_i_X7_wants : Cond.instanceMethod yX7_wants ∈ gw := gwm_14 (List.mem_of_getElem? (i := 16) rfl) rfl
theorem q_s_X7_wants : Cond.selects RX7 yX7_wants yX7_wants ∈ gw := gwm_14 (List.mem_of_getElem? (i := 17) rfl) rfl
theorem q_c_X7_wants : Cond.code yX7_wants cX7_wants 3 (some .int) ∈ gw := gwm_14 (List.mem_of_getElem? (i := 18) rfl) rfl
theorem q_m_L_36 : Cond.methodLink RL 36 yX7_bit ∈ gw := gwm_14 (List.mem_of_getElem? (i := 19) rfl) rfl
theorem q_i_X7_bit : Cond.instanceMethod yX7_bit ∈ gw := gwm_14 (List.mem_of_getElem? (i := 20) rfl) rfl
theorem q_s_X7_bit : Cond.selects RX7 yX7_bit yX7_bit ∈ gw := gwm_14 (List.mem_of_getElem? (i := 21) rfl) rfl
theorem q_c_X7_bit : Cond.code yX7_bit cX7_bit 2 (some .int) ∈ gw := gwm_14 (List.mem_of_getElem? (i := 22) rfl) rfl
theorem q_m_L_40 : Cond.methodLink RL 40 yX7_now ∈ gw := gwm_14 (List.mem_of_getElem? (i := 23) rfl) rfl
theorem q_i_X7_now : Cond.instanceMethod yX7_now ∈ gw := gwm_14 (List.mem_of_getElem? (i := 24) rfl) rfl
theorem q_s_X7_now : Cond.selects RX7 yX7_now yX7_now ∈ gw := gwm_15 (List.mem_of_getElem? (i := 0) rfl) rfl
theorem q_c_X7_now : Cond.code yX7_now cX7_now 2 (some .int) ∈ gw := gwm_15 (List.mem_of_getElem? (i := 1) rfl) rfl
theorem q_m_X7_150 : Cond.methodLink RX7 150 yX0_withTheirOwn ∈ gw := gwm_15 (List.mem_of_getElem? (i := 2) rfl) rfl
theorem q_i_X0_withTheirOwn : Cond.instanceMethod yX0_withTheirOwn ∈ gw := gwm_15 (List.mem_of_getElem? (i := 3) rfl) rfl
theorem q_s_X0_withTheirOwn : Cond.selects RX0 yX0_withTheirOwn yX0_withTheirOwn ∈ gw := gwm_15 (List.mem_of_getElem? (i := 4) rfl) rfl
theorem q_c_X0_withTheirOwn : Cond.code yX0_withTheirOwn cX0_withTheirOwn 3 (some .int) ∈ gw := gwm_15 (List.mem_of_getElem? (i := 5) rfl) rfl
theorem q_m_L_44 : Cond.methodLink RL 44 yX7_gives ∈ gw := gwm_15 (List.mem_of_getElem? (i := 6) rfl) rfl
theorem q_i_X7_gives : Cond.instanceMethod yX7_gives ∈ gw := gwm_15 (List.mem_of_getElem? (i := 7) rfl) rfl
theorem q_s_X7_gives : Cond.selects RX7 yX7_gives yX7_gives ∈ gw := gwm_15 (List.mem_of_getElem? (i := 8) rfl) rfl
theorem q_c_X7_gives : Cond.code yX7_gives cX7_gives 2 (some .int) ∈ gw := gwm_15 (List.mem_of_getElem? (i := 9) rfl) rfl
theorem q_m_X7_153 : Cond.methodLink RX7 153 yX0_able ∈ gw := gwm_15 (List.mem_of_getElem? (i := 10) rfl) rfl
theorem q_i_X0_able : Cond.instanceMethod yX0_able ∈ gw := gwm_15 (List.mem_of_getElem? (i := 11) rfl) rfl
theorem q_s_X0_able : Cond.selects RX0 yX0_able yX0_able ∈ gw := gwm_15 (List.mem_of_getElem? (i := 12) rfl) rfl
theorem q_c_X0_able : Cond.code yX0_able cX0_able 3 (some .int) ∈ gw := gwm_15 (List.mem_of_getElem? (i := 13) rfl) rfl
theorem q_m_X7_156 : Cond.methodLink RX7 156 yX1_remember ∈ gw := gwm_15 (List.mem_of_getElem? (i := 14) rfl) rfl
theorem q_i_X1_remember : Cond.instanceMethod yX1_remember ∈ gw := gwm_15 (List.mem_of_getElem? (i := 15) rfl) rfl
theorem q_s_X1_remember : Cond.selects RX1 yX1_remember yX1_remember ∈ gw := gwm_15 (List.mem_of_getElem? (i := 16) rfl) rfl
theorem q_c_X1_remember : Cond.code yX1_remember cX1_remember 2 none ∈ gw := gwm_15 (List.mem_of_getElem? (i := 17) rfl) rfl
theorem q_m_X1_22 : Cond.methodLink RX1 22 yX0_become ∈ gw := gwm_15 (List.mem_of_getElem? (i := 18) rfl) rfl
theorem q_i_X0_become : Cond.instanceMethod yX0_become ∈ gw := gwm_15 (List.mem_of_getElem? (i := 19) rfl) rfl
theorem q_s_X0_become : Cond.selects RX0 yX0_become yX0_become ∈ gw := gwm_15 (List.mem_of_getElem? (i := 20) rfl) rfl
theorem q_c_X0_become : Cond.code yX0_become cX0_become 3 none ∈ gw := gwm_15 (List.mem_of_getElem? (i := 21) rfl) rfl
theorem q_m_X1_29 : Cond.methodLink RX1 29 yJ9_min_7cf53 ∈ gw := gwm_15 (List.mem_of_getElem? (i := 22) rfl) rfl
theorem q_t_J9_min_7cf53 : Cond.static yJ9_min_7cf53 ∈ gw := gwm_15 (List.mem_of_getElem? (i := 23) rfl) rfl
theorem q_c_J9_min_7cf53 : Cond.code yJ9_min_7cf53 cJ9_min_7cf53 2 (some .int) ∈ gw := gwm_15 (List.mem_of_getElem? (i := 24) rfl) rfl
theorem q_m_X7_160 : Cond.methodLink RX7 160 yJ6_bitCount_0f7a4 ∈ gw := gwm_16 (List.mem_of_getElem? (i := 0) rfl) rfl
theorem q_t_J6_bitCount_0f7a4 : Cond.static yJ6_bitCount_0f7a4 ∈ gw := gwm_16 (List.mem_of_getElem? (i := 1) rfl) rfl
theorem q_c_J6_bitCount_0f7a4 : Cond.code yJ6_bitCount_0f7a4 cJ6_bitCount_0f7a4 1 (some .int) ∈ gw := gwm_16 (List.mem_of_getElem? (i := 2) rfl) rfl
theorem q_v_J6_265 : Cond.constant RJ6 265 (1431655765) ∈ gw := gwm_16 (List.mem_of_getElem? (i := 3) rfl) rfl
theorem q_v_J6_266 : Cond.constant RJ6 266 (858993459) ∈ gw := gwm_16 (List.mem_of_getElem? (i := 4) rfl) rfl
theorem q_v_J6_267 : Cond.constant RJ6 267 (252645135) ∈ gw := gwm_16 (List.mem_of_getElem? (i := 5) rfl) rfl
theorem q_m_L_48 : Cond.methodLink RL 48 yX7_takes ∈ gw := gwm_16 (List.mem_of_getElem? (i := 6) rfl) rfl
theorem q_i_X7_takes : Cond.instanceMethod yX7_takes ∈ gw := gwm_16 (List.mem_of_getElem? (i := 7) rfl) rfl
theorem q_s_X7_takes : Cond.selects RX7 yX7_takes yX7_takes ∈ gw := gwm_16 (List.mem_of_getElem? (i := 8) rfl) rfl
theorem q_c_X7_takes : Cond.code yX7_takes cX7_takes 2 (some .int) ∈ gw := gwm_16 (List.mem_of_getElem? (i := 9) rfl) rfl
theorem q_m_L_52 : Cond.methodLink RL 52 yX7_night ∈ gw := gwm_16 (List.mem_of_getElem? (i := 10) rfl) rfl
theorem q_i_X7_night : Cond.instanceMethod yX7_night ∈ gw := gwm_16 (List.mem_of_getElem? (i := 11) rfl) rfl
theorem q_s_X7_night : Cond.selects RX7 yX7_night yX7_night ∈ gw := gwm_16 (List.mem_of_getElem? (i := 12) rfl) rfl
theorem q_c_X7_night : Cond.code yX7_night cX7_night 1 (some .int) ∈ gw := gwm_16 (List.mem_of_getElem? (i := 13) rfl) rfl
theorem q_m_X7_165 : Cond.methodLink RX7 165 yX6_play ∈ gw := gwm_16 (List.mem_of_getElem? (i := 14) rfl) rfl
theorem q_i_X6_play : Cond.instanceMethod yX6_play ∈ gw := gwm_16 (List.mem_of_getElem? (i := 15) rfl) rfl
theorem q_s_X6_play : Cond.selects RX6 yX6_play yX6_play ∈ gw := gwm_16 (List.mem_of_getElem? (i := 16) rfl) rfl
theorem q_c_X6_play : Cond.code yX6_play cX6_play 6 none ∈ gw := gwm_16 (List.mem_of_getElem? (i := 17) rfl) rfl
theorem q_m_X6_31 : Cond.methodLink RX6 31 yX6_lay ∈ gw := gwm_16 (List.mem_of_getElem? (i := 18) rfl) rfl
theorem q_i_X6_lay : Cond.instanceMethod yX6_lay ∈ gw := gwm_16 (List.mem_of_getElem? (i := 20) rfl) rfl
theorem q_c_X6_lay : Cond.code yX6_lay cX6_lay 4 none ∈ gw := gwm_16 (List.mem_of_getElem? (i := 21) rfl) rfl
theorem q_m_X6_65 : Cond.methodLink RX6 65 yX2_knows ∈ gw := gwm_16 (List.mem_of_getElem? (i := 23) rfl) rfl
theorem q_m_X6_39 : Cond.methodLink RX6 39 yX6_aimAll ∈ gw := gwm_16 (List.mem_of_getElem? (i := 24) rfl) rfl
theorem q_i_X6_aimAll : Cond.instanceMethod yX6_aimAll ∈ gw := gwm_17 (List.mem_of_getElem? (i := 1) rfl) rfl
theorem q_c_X6_aimAll : Cond.code yX6_aimAll cX6_aimAll 3 (some .int) ∈ gw := gwm_17 (List.mem_of_getElem? (i := 2) rfl) rfl
theorem q_m_X6_69 : Cond.methodLink RX6 69 yX6_aimOf ∈ gw := gwm_17 (List.mem_of_getElem? (i := 3) rfl) rfl
theorem q_i_X6_aimOf : Cond.instanceMethod yX6_aimOf ∈ gw := gwm_17 (List.mem_of_getElem? (i := 5) rfl) rfl
theorem q_c_X6_aimOf : Cond.code yX6_aimOf cX6_aimOf 8 (some .int) ∈ gw := gwm_17 (List.mem_of_getElem? (i := 6) rfl) rfl
theorem q_m_X6_80 : Cond.methodLink RX6 80 yX6_distance ∈ gw := gwm_17 (List.mem_of_getElem? (i := 7) rfl) rfl
theorem q_i_X6_distance : Cond.instanceMethod yX6_distance ∈ gw := gwm_17 (List.mem_of_getElem? (i := 9) rfl) rfl
theorem q_c_X6_distance : Cond.code yX6_distance cX6_distance 5 (some .int) ∈ gw := gwm_17 (List.mem_of_getElem? (i := 10) rfl) rfl
theorem q_m_X6_87 : Cond.methodLink RX6 87 yJ9_abs_0f7a4 ∈ gw := gwm_17 (List.mem_of_getElem? (i := 11) rfl) rfl
theorem q_t_J9_abs_0f7a4 : Cond.static yJ9_abs_0f7a4 ∈ gw := gwm_17 (List.mem_of_getElem? (i := 12) rfl) rfl
theorem q_c_J9_abs_0f7a4 : Cond.code yJ9_abs_0f7a4 cJ9_abs_0f7a4 1 (some .int) ∈ gw := gwm_17 (List.mem_of_getElem? (i := 13) rfl) rfl
theorem q_m_X6_43 : Cond.methodLink RX6 43 yX6_goRound ∈ gw := gwm_17 (List.mem_of_getElem? (i := 14) rfl) rfl
theorem q_i_X6_goRound : Cond.instanceMethod yX6_goRound ∈ gw := gwm_17 (List.mem_of_getElem? (i := 16) rfl) rfl
theorem q_c_X6_goRound : Cond.code yX6_goRound cX6_goRound 4 none ∈ gw := gwm_17 (List.mem_of_getElem? (i := 17) rfl) rfl
theorem q_m_X6_95 : Cond.methodLink RX6 95 yX6_lowestLeft ∈ gw := gwm_17 (List.mem_of_getElem? (i := 18) rfl) rfl
theorem q_i_X6_lowestLeft : Cond.instanceMethod yX6_lowestLeft ∈ gw := gwm_17 (List.mem_of_getElem? (i := 20) rfl) rfl
theorem q_c_X6_lowestLeft : Cond.code yX6_lowestLeft cX6_lowestLeft 2 (some .int) ∈ gw := gwm_17 (List.mem_of_getElem? (i := 21) rfl) rfl
theorem q_m_X6_92 : Cond.methodLink RX6 92 yX6_letOut ∈ gw := gwm_17 (List.mem_of_getElem? (i := 22) rfl) rfl
theorem q_i_X6_letOut : Cond.instanceMethod yX6_letOut ∈ gw := gwm_17 (List.mem_of_getElem? (i := 24) rfl) rfl
theorem q_c_X6_letOut : Cond.code yX6_letOut cX6_letOut 2 none ∈ gw := gwm_18 (List.mem_of_getElem? (i := 0) rfl) rfl
theorem q_m_X6_46 : Cond.methodLink RX6 46 yX6_smash ∈ gw := gwm_18 (List.mem_of_getElem? (i := 1) rfl) rfl
theorem q_i_X6_smash : Cond.instanceMethod yX6_smash ∈ gw := gwm_18 (List.mem_of_getElem? (i := 3) rfl) rfl
theorem q_c_X6_smash : Cond.code yX6_smash cX6_smash 2 none ∈ gw := gwm_18 (List.mem_of_getElem? (i := 4) rfl) rfl
theorem q_m_X7_169 : Cond.methodLink RX7 169 yX0_pass ∈ gw := gwm_18 (List.mem_of_getElem? (i := 5) rfl) rfl
theorem q_i_X0_pass : Cond.instanceMethod yX0_pass ∈ gw := gwm_18 (List.mem_of_getElem? (i := 6) rfl) rfl
theorem q_s_X0_pass : Cond.selects RX0 yX0_pass yX0_pass ∈ gw := gwm_18 (List.mem_of_getElem? (i := 7) rfl) rfl
theorem q_c_X0_pass : Cond.code yX0_pass cX0_pass 4 none ∈ gw := gwm_18 (List.mem_of_getElem? (i := 8) rfl) rfl
theorem q_m_L_56 : Cond.methodLink RL 56 yX7_joins ∈ gw := gwm_18 (List.mem_of_getElem? (i := 10) rfl) rfl
theorem q_i_X7_joins : Cond.instanceMethod yX7_joins ∈ gw := gwm_18 (List.mem_of_getElem? (i := 11) rfl) rfl
theorem q_s_X7_joins : Cond.selects RX7 yX7_joins yX7_joins ∈ gw := gwm_18 (List.mem_of_getElem? (i := 12) rfl) rfl
theorem q_c_X7_joins : Cond.code yX7_joins cX7_joins 2 (some .int) ∈ gw := gwm_18 (List.mem_of_getElem? (i := 13) rfl) rfl
theorem q_m_X7_176 : Cond.methodLink RX7 176 yX7_isSetOf ∈ gw := gwm_18 (List.mem_of_getElem? (i := 14) rfl) rfl
theorem q_t_X7_isSetOf : Cond.static yX7_isSetOf ∈ gw := gwm_18 (List.mem_of_getElem? (i := 15) rfl) rfl
theorem q_c_X7_isSetOf : Cond.code yX7_isSetOf cX7_isSetOf 2 (some .boolean) ∈ gw := gwm_18 (List.mem_of_getElem? (i := 16) rfl) rfl
theorem q_m_X7_179 : Cond.methodLink RX7 179 yX0_minutes ∈ gw := gwm_18 (List.mem_of_getElem? (i := 17) rfl) rfl
theorem q_i_X0_minutes : Cond.instanceMethod yX0_minutes ∈ gw := gwm_18 (List.mem_of_getElem? (i := 18) rfl) rfl
theorem q_s_X0_minutes : Cond.selects RX0 yX0_minutes yX0_minutes ∈ gw := gwm_18 (List.mem_of_getElem? (i := 19) rfl) rfl
theorem q_c_X0_minutes : Cond.code yX0_minutes cX0_minutes 4 (some .int) ∈ gw := gwm_18 (List.mem_of_getElem? (i := 20) rfl) rfl
theorem q_m_X7_182 : Cond.methodLink RX7 182 yX0_dropBits ∈ gw := gwm_18 (List.mem_of_getElem? (i := 21) rfl) rfl
theorem q_i_X0_dropBits : Cond.instanceMethod yX0_dropBits ∈ gw := gwm_18 (List.mem_of_getElem? (i := 22) rfl) rfl
theorem q_s_X0_dropBits : Cond.selects RX0 yX0_dropBits yX0_dropBits ∈ gw := gwm_18 (List.mem_of_getElem? (i := 23) rfl) rfl
theorem q_c_X0_dropBits : Cond.code yX0_dropBits cX0_dropBits 4 none ∈ gw := gwm_18 (List.mem_of_getElem? (i := 24) rfl) rfl
theorem q_m_L_60 : Cond.methodLink RL 60 yX7_laws ∈ gw := gwm_19 (List.mem_of_getElem? (i := 0) rfl) rfl
theorem q_i_X7_laws : Cond.instanceMethod yX7_laws ∈ gw := gwm_19 (List.mem_of_getElem? (i := 1) rfl) rfl
theorem q_s_X7_laws : Cond.selects RX7 yX7_laws yX7_laws ∈ gw := gwm_19 (List.mem_of_getElem? (i := 2) rfl) rfl
theorem q_c_X7_laws : Cond.code yX7_laws cX7_laws 3 (some .int) ∈ gw := gwm_19 (List.mem_of_getElem? (i := 3) rfl) rfl
theorem q_m_L_64 : Cond.methodLink RL 64 yX7_undo ∈ gw := gwm_19 (List.mem_of_getElem? (i := 4) rfl) rfl
theorem q_i_X7_undo : Cond.instanceMethod yX7_undo ∈ gw := gwm_19 (List.mem_of_getElem? (i := 5) rfl) rfl
theorem q_s_X7_undo : Cond.selects RX7 yX7_undo yX7_undo ∈ gw := gwm_19 (List.mem_of_getElem? (i := 6) rfl) rfl
theorem q_c_X7_undo : Cond.code yX7_undo cX7_undo 1 (some .int) ∈ gw := gwm_19 (List.mem_of_getElem? (i := 7) rfl) rfl
theorem q_m_X7_186 : Cond.methodLink RX7 186 yX1_restore ∈ gw := gwm_19 (List.mem_of_getElem? (i := 8) rfl) rfl
theorem q_i_X1_restore : Cond.instanceMethod yX1_restore ∈ gw := gwm_19 (List.mem_of_getElem? (i := 9) rfl) rfl
theorem q_s_X1_restore : Cond.selects RX1 yX1_restore yX1_restore ∈ gw := gwm_19 (List.mem_of_getElem? (i := 10) rfl) rfl
theorem q_c_X1_restore : Cond.code yX1_restore cX1_restore 2 (some .boolean) ∈ gw := gwm_19 (List.mem_of_getElem? (i := 11) rfl) rfl
theorem q_m_L_68 : Cond.methodLink RL 68 yX7_would ∈ gw := gwm_19 (List.mem_of_getElem? (i := 12) rfl) rfl
theorem q_i_X7_would : Cond.instanceMethod yX7_would ∈ gw := gwm_19 (List.mem_of_getElem? (i := 13) rfl) rfl
theorem q_s_X7_would : Cond.selects RX7 yX7_would yX7_would ∈ gw := gwm_19 (List.mem_of_getElem? (i := 14) rfl) rfl
theorem q_c_X7_would : Cond.code yX7_would cX7_would 2 (some .int) ∈ gw := gwm_19 (List.mem_of_getElem? (i := 15) rfl) rfl
theorem q_m_L_72 : Cond.methodLink RL 72 yX7_served ∈ gw := gwm_19 (List.mem_of_getElem? (i := 16) rfl) rfl
theorem q_i_X7_served : Cond.instanceMethod yX7_served ∈ gw := gwm_19 (List.mem_of_getElem? (i := 17) rfl) rfl
theorem q_s_X7_served : Cond.selects RX7 yX7_served yX7_served ∈ gw := gwm_19 (List.mem_of_getElem? (i := 18) rfl) rfl
theorem q_c_X7_served : Cond.code yX7_served cX7_served 2 (some .int) ∈ gw := gwm_19 (List.mem_of_getElem? (i := 19) rfl) rfl
theorem q_m_X7_196 : Cond.methodLink RX7 196 yX7_isWithin ∈ gw := gwm_19 (List.mem_of_getElem? (i := 20) rfl) rfl
theorem q_t_X7_isWithin : Cond.static yX7_isWithin ∈ gw := gwm_19 (List.mem_of_getElem? (i := 21) rfl) rfl
theorem q_c_X7_isWithin : Cond.code yX7_isWithin cX7_isWithin 2 (some .boolean) ∈ gw := gwm_19 (List.mem_of_getElem? (i := 22) rfl) rfl
theorem q_m_X7_199 : Cond.methodLink RX7 199 yX7_servedOf ∈ gw := gwm_19 (List.mem_of_getElem? (i := 23) rfl) rfl
theorem q_i_X7_servedOf : Cond.instanceMethod yX7_servedOf ∈ gw := gwm_20 (List.mem_of_getElem? (i := 0) rfl) rfl
theorem q_c_X7_servedOf : Cond.code yX7_servedOf cX7_servedOf 2 (some .int) ∈ gw := gwm_20 (List.mem_of_getElem? (i := 1) rfl) rfl
theorem q_m_L_76 : Cond.methodLink RL 76 yX7_get ∈ gw := gwm_20 (List.mem_of_getElem? (i := 2) rfl) rfl
theorem q_i_X7_get : Cond.instanceMethod yX7_get ∈ gw := gwm_20 (List.mem_of_getElem? (i := 3) rfl) rfl
theorem q_s_X7_get : Cond.selects RX7 yX7_get yX7_get ∈ gw := gwm_20 (List.mem_of_getElem? (i := 4) rfl) rfl
theorem q_c_X7_get : Cond.code yX7_get cX7_get 7 (some .int) ∈ gw := gwm_20 (List.mem_of_getElem? (i := 5) rfl) rfl
theorem q_m_L_80 : Cond.methodLink RL 80 yX7_most ∈ gw := gwm_20 (List.mem_of_getElem? (i := 6) rfl) rfl
theorem q_i_X7_most : Cond.instanceMethod yX7_most ∈ gw := gwm_20 (List.mem_of_getElem? (i := 7) rfl) rfl
theorem q_s_X7_most : Cond.selects RX7 yX7_most yX7_most ∈ gw := gwm_20 (List.mem_of_getElem? (i := 8) rfl) rfl
theorem q_c_X7_most : Cond.code yX7_most cX7_most 8 (some .int) ∈ gw := gwm_20 (List.mem_of_getElem? (i := 9) rfl) rfl
theorem q_m_L_84 : Cond.methodLink RL 84 yX7_could ∈ gw := gwm_20 (List.mem_of_getElem? (i := 10) rfl) rfl
theorem q_i_X7_could : Cond.instanceMethod yX7_could ∈ gw := gwm_20 (List.mem_of_getElem? (i := 11) rfl) rfl
theorem q_s_X7_could : Cond.selects RX7 yX7_could yX7_could ∈ gw := gwm_20 (List.mem_of_getElem? (i := 12) rfl) rfl
theorem q_c_X7_could : Cond.code yX7_could cX7_could 2 (some .int) ∈ gw := gwm_20 (List.mem_of_getElem? (i := 13) rfl) rfl
theorem q_m_X7_202 : Cond.methodLink RX7 202 yX5_weigh ∈ gw := gwm_20 (List.mem_of_getElem? (i := 14) rfl) rfl
theorem q_i_X5_weigh : Cond.instanceMethod yX5_weigh ∈ gw := gwm_20 (List.mem_of_getElem? (i := 15) rfl) rfl
theorem q_s_X5_weigh : Cond.selects RX5 yX5_weigh yX5_weigh ∈ gw := gwm_20 (List.mem_of_getElem? (i := 16) rfl) rfl
theorem q_c_X5_weigh : Cond.code yX5_weigh cX5_weigh 6 none ∈ gw := gwm_20 (List.mem_of_getElem? (i := 17) rfl) rfl
theorem q_m_X5_26 : Cond.methodLink RX5 26 yX2_knows ∈ gw := gwm_20 (List.mem_of_getElem? (i := 18) rfl) rfl
theorem q_m_X5_32 : Cond.methodLink RX5 32 yX5_wishOf ∈ gw := gwm_20 (List.mem_of_getElem? (i := 19) rfl) rfl
theorem q_t_X5_wishOf : Cond.static yX5_wishOf ∈ gw := gwm_20 (List.mem_of_getElem? (i := 20) rfl) rfl
theorem q_c_X5_wishOf : Cond.code yX5_wishOf cX5_wishOf 3 (some .int) ∈ gw := gwm_20 (List.mem_of_getElem? (i := 21) rfl) rfl
theorem q_m_X5_40 : Cond.methodLink RX5 40 yX5_bestFrom ∈ gw := gwm_20 (List.mem_of_getElem? (i := 23) rfl) rfl
theorem q_i_X5_bestFrom : Cond.instanceMethod yX5_bestFrom ∈ gw := gwm_21 (List.mem_of_getElem? (i := 0) rfl) rfl
theorem q_c_X5_bestFrom : Cond.code yX5_bestFrom cX5_bestFrom 6 (some .int) ∈ gw := gwm_21 (List.mem_of_getElem? (i := 1) rfl) rfl
theorem q_m_X5_53 : Cond.methodLink RX5 53 yJ9_max_7cf53 ∈ gw := gwm_21 (List.mem_of_getElem? (i := 3) rfl) rfl
theorem q_t_J9_max_7cf53 : Cond.static yJ9_max_7cf53 ∈ gw := gwm_21 (List.mem_of_getElem? (i := 4) rfl) rfl
theorem q_c_J9_max_7cf53 : Cond.code yJ9_max_7cf53 cJ9_max_7cf53 2 (some .int) ∈ gw := gwm_21 (List.mem_of_getElem? (i := 5) rfl) rfl
theorem q_m_X7_206 : Cond.methodLink RX7 206 yX5_mostServed ∈ gw := gwm_21 (List.mem_of_getElem? (i := 6) rfl) rfl
theorem q_i_X5_mostServed : Cond.instanceMethod yX5_mostServed ∈ gw := gwm_21 (List.mem_of_getElem? (i := 7) rfl) rfl
theorem q_s_X5_mostServed : Cond.selects RX5 yX5_mostServed yX5_mostServed ∈ gw := gwm_21 (List.mem_of_getElem? (i := 8) rfl) rfl
theorem q_c_X5_mostServed : Cond.code yX5_mostServed cX5_mostServed 1 (some .int) ∈ gw := gwm_21 (List.mem_of_getElem? (i := 9) rfl) rfl
theorem q_m_X7_209 : Cond.methodLink RX7 209 yX5_hourOf ∈ gw := gwm_21 (List.mem_of_getElem? (i := 10) rfl) rfl
theorem q_i_X5_hourOf : Cond.instanceMethod yX5_hourOf ∈ gw := gwm_21 (List.mem_of_getElem? (i := 11) rfl) rfl
theorem q_s_X5_hourOf : Cond.selects RX5 yX5_hourOf yX5_hourOf ∈ gw := gwm_21 (List.mem_of_getElem? (i := 12) rfl) rfl
theorem q_c_X5_hourOf : Cond.code yX5_hourOf cX5_hourOf 7 (some .int) ∈ gw := gwm_21 (List.mem_of_getElem? (i := 13) rfl) rfl
theorem q_m_X5_44 : Cond.methodLink RX5 44 yX5_firstFor ∈ gw := gwm_21 (List.mem_of_getElem? (i := 14) rfl) rfl
theorem q_i_X5_firstFor : Cond.instanceMethod yX5_firstFor ∈ gw := gwm_21 (List.mem_of_getElem? (i := 16) rfl) rfl
theorem q_c_X5_firstFor : Cond.code yX5_firstFor cX5_firstFor 5 (some .int) ∈ gw := gwm_21 (List.mem_of_getElem? (i := 17) rfl) rfl
theorem q_m_L_88 : Cond.methodLink RL 88 yX7_odds ∈ gw := gwm_21 (List.mem_of_getElem? (i := 18) rfl) rfl
theorem q_i_X7_odds : Cond.instanceMethod yX7_odds ∈ gw := gwm_21 (List.mem_of_getElem? (i := 19) rfl) rfl
theorem q_s_X7_odds : Cond.selects RX7 yX7_odds yX7_odds ∈ gw := gwm_21 (List.mem_of_getElem? (i := 20) rfl) rfl
theorem q_c_X7_odds : Cond.code yX7_odds cX7_odds 10 (some .int) ∈ gw := gwm_21 (List.mem_of_getElem? (i := 21) rfl) rfl
theorem q_m_X7_213 : Cond.methodLink RX7 213 yX7_part ∈ gw := gwm_21 (List.mem_of_getElem? (i := 22) rfl) rfl
theorem q_t_X7_part : Cond.static yX7_part ∈ gw := gwm_21 (List.mem_of_getElem? (i := 23) rfl) rfl
theorem q_c_X7_part : Cond.code yX7_part cX7_part 4 (some .int) ∈ gw := gwm_21 (List.mem_of_getElem? (i := 24) rfl) rfl
theorem q_m_X7_280 : Cond.methodLink RX7 280 yX7_greatestDivisor ∈ gw := gwm_22 (List.mem_of_getElem? (i := 0) rfl) rfl
theorem q_t_X7_greatestDivisor : Cond.static yX7_greatestDivisor ∈ gw := gwm_22 (List.mem_of_getElem? (i := 1) rfl) rfl
theorem q_c_X7_greatestDivisor : Cond.code yX7_greatestDivisor cX7_greatestDivisor 6 (some .int) ∈ gw := gwm_22 (List.mem_of_getElem? (i := 2) rfl) rfl
theorem q_m_X7_231 : Cond.methodLink RX7 231 yJ9_max_7cf53 ∈ gw := gwm_22 (List.mem_of_getElem? (i := 3) rfl) rfl
theorem q_m_X7_217 : Cond.methodLink RX7 217 yX7_power ∈ gw := gwm_22 (List.mem_of_getElem? (i := 4) rfl) rfl
theorem q_t_X7_power : Cond.static yX7_power ∈ gw := gwm_22 (List.mem_of_getElem? (i := 5) rfl) rfl
theorem q_c_X7_power : Cond.code yX7_power cX7_power 4 (some .int) ∈ gw := gwm_22 (List.mem_of_getElem? (i := 6) rfl) rfl
theorem q_m_L_93 : Cond.methodLink RL 93 yX7_join ∈ gw := gwm_22 (List.mem_of_getElem? (i := 7) rfl) rfl
theorem q_i_X7_join : Cond.instanceMethod yX7_join ∈ gw := gwm_22 (List.mem_of_getElem? (i := 8) rfl) rfl
theorem q_s_X7_join : Cond.selects RX7 yX7_join yX7_join ∈ gw := gwm_22 (List.mem_of_getElem? (i := 9) rfl) rfl
theorem q_c_X7_join : Cond.code yX7_join cX7_join 2 (some .int) ∈ gw := gwm_22 (List.mem_of_getElem? (i := 10) rfl) rfl
theorem q_m_X7_221 : Cond.methodLink RX7 221 yX3_fullest ∈ gw := gwm_22 (List.mem_of_getElem? (i := 11) rfl) rfl
theorem q_i_X3_fullest : Cond.instanceMethod yX3_fullest ∈ gw := gwm_22 (List.mem_of_getElem? (i := 12) rfl) rfl
theorem q_s_X3_fullest : Cond.selects RX3 yX3_fullest yX3_fullest ∈ gw := gwm_22 (List.mem_of_getElem? (i := 13) rfl) rfl
theorem q_c_X3_fullest : Cond.code yX3_fullest cX3_fullest 6 (some .int) ∈ gw := gwm_22 (List.mem_of_getElem? (i := 14) rfl) rfl
theorem q_m_X3_24 : Cond.methodLink RX3 24 yX0_minutes ∈ gw := gwm_22 (List.mem_of_getElem? (i := 15) rfl) rfl
theorem q_m_X7_225 : Cond.methodLink RX7 225 yX3_mostHours ∈ gw := gwm_22 (List.mem_of_getElem? (i := 16) rfl) rfl
theorem q_i_X3_mostHours : Cond.instanceMethod yX3_mostHours ∈ gw := gwm_22 (List.mem_of_getElem? (i := 17) rfl) rfl
theorem q_s_X3_mostHours : Cond.selects RX3 yX3_mostHours yX3_mostHours ∈ gw := gwm_22 (List.mem_of_getElem? (i := 18) rfl) rfl
theorem q_c_X3_mostHours : Cond.code yX3_mostHours cX3_mostHours 4 (some .int) ∈ gw := gwm_22 (List.mem_of_getElem? (i := 19) rfl) rfl
theorem q_m_X3_28 : Cond.methodLink RX3 28 yX3_hoursOf ∈ gw := gwm_22 (List.mem_of_getElem? (i := 20) rfl) rfl
theorem q_i_X3_hoursOf : Cond.instanceMethod yX3_hoursOf ∈ gw := gwm_22 (List.mem_of_getElem? (i := 22) rfl) rfl
theorem q_c_X3_hoursOf : Cond.code yX3_hoursOf cX3_hoursOf 5 (some .int) ∈ gw := gwm_22 (List.mem_of_getElem? (i := 23) rfl) rfl
theorem q_m_X3_31 : Cond.methodLink RX3 31 yJ9_max_7cf53 ∈ gw := gwm_22 (List.mem_of_getElem? (i := 24) rfl) rfl
theorem q_m_L_97 : Cond.methodLink RL 97 yX7_tells ∈ gw := gwm_23 (List.mem_of_getElem? (i := 0) rfl) rfl
theorem q_i_X7_tells : Cond.instanceMethod yX7_tells ∈ gw := gwm_23 (List.mem_of_getElem? (i := 1) rfl) rfl
theorem q_s_X7_tells : Cond.selects RX7 yX7_tells yX7_tells ∈ gw := gwm_23 (List.mem_of_getElem? (i := 2) rfl) rfl
theorem q_c_X7_tells : Cond.code yX7_tells cX7_tells 4 (some .int) ∈ gw := gwm_23 (List.mem_of_getElem? (i := 3) rfl) rfl
theorem q_m_L_101 : Cond.methodLink RL 101 yX7_forget ∈ gw := gwm_23 (List.mem_of_getElem? (i := 4) rfl) rfl
theorem q_i_X7_forget : Cond.instanceMethod yX7_forget ∈ gw := gwm_23 (List.mem_of_getElem? (i := 5) rfl) rfl
theorem q_s_X7_forget : Cond.selects RX7 yX7_forget yX7_forget ∈ gw := gwm_23 (List.mem_of_getElem? (i := 6) rfl) rfl
theorem q_c_X7_forget : Cond.code yX7_forget cX7_forget 2 (some .int) ∈ gw := gwm_23 (List.mem_of_getElem? (i := 7) rfl) rfl
theorem q_m_L_105 : Cond.methodLink RL 105 yX7_fits ∈ gw := gwm_23 (List.mem_of_getElem? (i := 8) rfl) rfl
theorem q_i_X7_fits : Cond.instanceMethod yX7_fits ∈ gw := gwm_23 (List.mem_of_getElem? (i := 9) rfl) rfl
theorem q_s_X7_fits : Cond.selects RX7 yX7_fits yX7_fits ∈ gw := gwm_23 (List.mem_of_getElem? (i := 10) rfl) rfl
theorem q_c_X7_fits : Cond.code yX7_fits cX7_fits 3 (some .int) ∈ gw := gwm_23 (List.mem_of_getElem? (i := 11) rfl) rfl
theorem q_m_X7_228 : Cond.methodLink RX7 228 yX7_allToldIsSoBy ∈ gw := gwm_23 (List.mem_of_getElem? (i := 12) rfl) rfl
theorem q_i_X7_allToldIsSoBy : Cond.instanceMethod yX7_allToldIsSoBy ∈ gw := gwm_23 (List.mem_of_getElem? (i := 14) rfl) rfl
theorem q_c_X7_allToldIsSoBy : Cond.code yX7_allToldIsSoBy cX7_allToldIsSoBy 3 (some .boolean) ∈ gw := gwm_23 (List.mem_of_getElem? (i := 15) rfl) rfl
theorem q_f_X7_261 : Cond.fieldLink RX7 261 "SmashedHours" "OWN" "[I" ∈ gw := gwm_23 (List.mem_of_getElem? (i := 16) rfl) rfl
theorem q_m_L_109 : Cond.methodLink RL 109 yX7_stop ∈ gw := gwm_23 (List.mem_of_getElem? (i := 18) rfl) rfl
theorem q_i_X7_stop : Cond.instanceMethod yX7_stop ∈ gw := gwm_23 (List.mem_of_getElem? (i := 19) rfl) rfl
theorem q_s_X7_stop : Cond.selects RX7 yX7_stop yX7_stop ∈ gw := gwm_23 (List.mem_of_getElem? (i := 20) rfl) rfl
theorem q_c_X7_stop : Cond.code yX7_stop cX7_stop 10 (some .int) ∈ gw := gwm_23 (List.mem_of_getElem? (i := 21) rfl) rfl
theorem q_m_L_114 : Cond.methodLink RL 114 yX7_rate ∈ gw := gwm_23 (List.mem_of_getElem? (i := 22) rfl) rfl
theorem q_i_X7_rate : Cond.instanceMethod yX7_rate ∈ gw := gwm_23 (List.mem_of_getElem? (i := 23) rfl) rfl
theorem q_s_X7_rate : Cond.selects RX7 yX7_rate yX7_rate ∈ gw := gwm_23 (List.mem_of_getElem? (i := 24) rfl) rfl
theorem q_c_X7_rate : Cond.code yX7_rate cX7_rate 3 (some .int) ∈ gw := gwm_24 (List.mem_of_getElem? (i := 0) rfl) rfl
theorem q_v_X7_236 : Cond.constant RX7 236 (-1000000) ∈ gw := gwm_24 (List.mem_of_getElem? (i := 1) rfl) rfl
theorem q_m_X7_237 : Cond.methodLink RX7 237 yX7_asHour ∈ gw := gwm_24 (List.mem_of_getElem? (i := 2) rfl) rfl
theorem q_i_X7_asHour : Cond.instanceMethod yX7_asHour ∈ gw := gwm_24 (List.mem_of_getElem? (i := 4) rfl) rfl
theorem q_c_X7_asHour : Cond.code yX7_asHour cX7_asHour 2 (some .int) ∈ gw := gwm_24 (List.mem_of_getElem? (i := 5) rfl) rfl
theorem q_m_X7_240 : Cond.methodLink RX7 240 yX7_asRiver ∈ gw := gwm_24 (List.mem_of_getElem? (i := 6) rfl) rfl
theorem q_i_X7_asRiver : Cond.instanceMethod yX7_asRiver ∈ gw := gwm_24 (List.mem_of_getElem? (i := 8) rfl) rfl
theorem q_c_X7_asRiver : Cond.code yX7_asRiver cX7_asRiver 2 (some .int) ∈ gw := gwm_24 (List.mem_of_getElem? (i := 9) rfl) rfl
theorem q_v_X7_264 : Cond.constantLong RX7 264 (10) ∈ gw := gwm_24 (List.mem_of_getElem? (i := 10) rfl) rfl
theorem q_m_X7_266 : Cond.methodLink RX7 266 yX2_howManyWant ∈ gw := gwm_24 (List.mem_of_getElem? (i := 11) rfl) rfl
theorem q_i_X2_howManyWant : Cond.instanceMethod yX2_howManyWant ∈ gw := gwm_24 (List.mem_of_getElem? (i := 12) rfl) rfl
theorem q_s_X2_howManyWant : Cond.selects RX2 yX2_howManyWant yX2_howManyWant ∈ gw := gwm_24 (List.mem_of_getElem? (i := 13) rfl) rfl
theorem q_c_X2_howManyWant : Cond.code yX2_howManyWant cX2_howManyWant 4 (some .int) ∈ gw := gwm_24 (List.mem_of_getElem? (i := 14) rfl) rfl
theorem q_m_X7_243 : Cond.methodLink RX7 243 yX7_asBand ∈ gw := gwm_24 (List.mem_of_getElem? (i := 15) rfl) rfl
theorem q_i_X7_asBand : Cond.instanceMethod yX7_asBand ∈ gw := gwm_24 (List.mem_of_getElem? (i := 17) rfl) rfl
theorem q_c_X7_asBand : Cond.code yX7_asBand cX7_asBand 2 (some .int) ∈ gw := gwm_24 (List.mem_of_getElem? (i := 18) rfl) rfl
theorem q_v_X7_269 : Cond.constantLong RX7 269 (100) ∈ gw := gwm_24 (List.mem_of_getElem? (i := 19) rfl) rfl
theorem q_m_X7_246 : Cond.methodLink RX7 246 yX7_asDentist ∈ gw := gwm_24 (List.mem_of_getElem? (i := 20) rfl) rfl
theorem q_i_X7_asDentist : Cond.instanceMethod yX7_asDentist ∈ gw := gwm_24 (List.mem_of_getElem? (i := 22) rfl) rfl
theorem q_c_X7_asDentist : Cond.code yX7_asDentist cX7_asDentist 2 (some .int) ∈ gw := gwm_24 (List.mem_of_getElem? (i := 23) rfl) rfl
theorem q_v_X7_271 : Cond.constantLong RX7 271 (1000) ∈ gw := gwm_24 (List.mem_of_getElem? (i := 24) rfl) rfl
theorem q_m_X7_249 : Cond.methodLink RX7 249 yX7_asWidow ∈ gw := gwm_25 (List.mem_of_getElem? (i := 0) rfl) rfl
theorem q_i_X7_asWidow : Cond.instanceMethod yX7_asWidow ∈ gw := gwm_25 (List.mem_of_getElem? (i := 2) rfl) rfl
theorem q_c_X7_asWidow : Cond.code yX7_asWidow cX7_asWidow 3 (some .int) ∈ gw := gwm_25 (List.mem_of_getElem? (i := 3) rfl) rfl
theorem q_v_X7_273 : Cond.constantLong RX7 273 (10000) ∈ gw := gwm_25 (List.mem_of_getElem? (i := 4) rfl) rfl
theorem q_m_X7_275 : Cond.methodLink RX7 275 yX0_whoHas ∈ gw := gwm_25 (List.mem_of_getElem? (i := 5) rfl) rfl
theorem q_i_X0_whoHas : Cond.instanceMethod yX0_whoHas ∈ gw := gwm_25 (List.mem_of_getElem? (i := 6) rfl) rfl
theorem q_s_X0_whoHas : Cond.selects RX0 yX0_whoHas yX0_whoHas ∈ gw := gwm_25 (List.mem_of_getElem? (i := 7) rfl) rfl
theorem q_c_X0_whoHas : Cond.code yX0_whoHas cX0_whoHas 3 (some .int) ∈ gw := gwm_25 (List.mem_of_getElem? (i := 8) rfl) rfl
theorem q_m_X7_252 : Cond.methodLink RX7 252 yX7_asMinute ∈ gw := gwm_25 (List.mem_of_getElem? (i := 9) rfl) rfl
theorem q_i_X7_asMinute : Cond.instanceMethod yX7_asMinute ∈ gw := gwm_25 (List.mem_of_getElem? (i := 11) rfl) rfl
theorem q_c_X7_asMinute : Cond.code yX7_asMinute cX7_asMinute 2 (some .int) ∈ gw := gwm_25 (List.mem_of_getElem? (i := 12) rfl) rfl
theorem q_v_X7_278 : Cond.constantLong RX7 278 (100000) ∈ gw := gwm_25 (List.mem_of_getElem? (i := 13) rfl) rfl
theorem q_m_L_118 : Cond.methodLink RL 118 yX7_keep ∈ gw := gwm_25 (List.mem_of_getElem? (i := 14) rfl) rfl
theorem q_i_X7_keep : Cond.instanceMethod yX7_keep ∈ gw := gwm_25 (List.mem_of_getElem? (i := 15) rfl) rfl
theorem q_s_X7_keep : Cond.selects RX7 yX7_keep yX7_keep ∈ gw := gwm_25 (List.mem_of_getElem? (i := 16) rfl) rfl
theorem q_c_X7_keep : Cond.code yX7_keep cX7_keep 2 (some .int) ∈ gw := gwm_25 (List.mem_of_getElem? (i := 17) rfl) rfl
theorem q_m_X7_255 : Cond.methodLink RX7 255 yX0_become ∈ gw := gwm_25 (List.mem_of_getElem? (i := 18) rfl) rfl
theorem q_m_L_122 : Cond.methodLink RL 122 yX7_back ∈ gw := gwm_25 (List.mem_of_getElem? (i := 19) rfl) rfl
theorem q_i_X7_back : Cond.instanceMethod yX7_back ∈ gw := gwm_25 (List.mem_of_getElem? (i := 20) rfl) rfl
theorem q_s_X7_back : Cond.selects RX7 yX7_back yX7_back ∈ gw := gwm_25 (List.mem_of_getElem? (i := 21) rfl) rfl
theorem q_c_X7_back : Cond.code yX7_back cX7_back 2 (some .int) ∈ gw := gwm_25 (List.mem_of_getElem? (i := 22) rfl) rfl
theorem q_m_L_126 : Cond.methodLink RL 126 yX7_count ∈ gw := gwm_25 (List.mem_of_getElem? (i := 23) rfl) rfl
theorem q_i_X7_count : Cond.instanceMethod yX7_count ∈ gw := gwm_25 (List.mem_of_getElem? (i := 24) rfl) rfl
theorem q_s_X7_count : Cond.selects RX7 yX7_count yX7_count ∈ gw := gwm_26 (List.mem_of_getElem? (i := 0) rfl) rfl
theorem q_c_X7_count : Cond.code yX7_count cX7_count 2 (some .int) ∈ gw := gwm_26 (List.mem_of_getElem? (i := 1) rfl) rfl
theorem q_m_L_130 : Cond.methodLink RL 130 yX7_trace ∈ gw := gwm_26 (List.mem_of_getElem? (i := 2) rfl) rfl
theorem q_i_X7_trace : Cond.instanceMethod yX7_trace ∈ gw := gwm_26 (List.mem_of_getElem? (i := 3) rfl) rfl
theorem q_s_X7_trace : Cond.selects RX7 yX7_trace yX7_trace ∈ gw := gwm_26 (List.mem_of_getElem? (i := 4) rfl) rfl
theorem q_c_X7_trace : Cond.code yX7_trace cX7_trace 1 (some .long) ∈ gw := gwm_26 (List.mem_of_getElem? (i := 5) rfl) rfl
theorem q_k_L_10 : Cond.classLink RL 10 RX8 ∈ gw := gwm_26 (List.mem_of_getElem? (i := 6) rfl) rfl
theorem q_a_X8 : Cond.instantiable RX8 34 ∈ gw := gwm_26 (List.mem_of_getElem? (i := 7) rfl) rfl
theorem q_m_L_12 : Cond.methodLink RL 12 yX8_init ∈ gw := gwm_26 (List.mem_of_getElem? (i := 8) rfl) rfl
theorem q_i_X8_init : Cond.instanceMethod yX8_init ∈ gw := gwm_26 (List.mem_of_getElem? (i := 9) rfl) rfl
theorem q_c_X8_init : Cond.code yX8_init cX8_init 1 none ∈ gw := gwm_26 (List.mem_of_getElem? (i := 10) rfl) rfl
theorem q_m_X8_1 : Cond.methodLink RX8 1 objectInit ∈ gw := gwm_26 (List.mem_of_getElem? (i := 11) rfl) rfl
theorem q_f_X8_68 : Cond.fieldLink RX8 68 "SmashedHoursModel" "people" "I" ∈ gw := gwm_26 (List.mem_of_getElem? (i := 12) rfl) rfl
theorem q_f_X8_7 : Cond.fieldLink RX8 7 "SmashedHoursModel" "weight" "[I" ∈ gw := gwm_26 (List.mem_of_getElem? (i := 13) rfl) rfl
theorem q_f_X8_13 : Cond.fieldLink RX8 13 "SmashedHoursModel" "wants" "[I" ∈ gw := gwm_26 (List.mem_of_getElem? (i := 14) rfl) rfl
theorem q_f_X8_16 : Cond.fieldLink RX8 16 "SmashedHoursModel" "wantsMany" "[I" ∈ gw := gwm_26 (List.mem_of_getElem? (i := 15) rfl) rfl
theorem q_f_X8_19 : Cond.fieldLink RX8 19 "SmashedHoursModel" "st" "[I" ∈ gw := gwm_26 (List.mem_of_getElem? (i := 16) rfl) rfl
theorem q_f_X8_22 : Cond.fieldLink RX8 22 "SmashedHoursModel" "was" "[I" ∈ gw := gwm_26 (List.mem_of_getElem? (i := 17) rfl) rfl
theorem q_f_X8_135 : Cond.fieldLink RX8 135 "SmashedHoursModel" "known" "I" ∈ gw := gwm_26 (List.mem_of_getElem? (i := 18) rfl) rfl
theorem q_f_X8_25 : Cond.fieldLink RX8 25 "SmashedHoursModel" "images" "[I" ∈ gw := gwm_26 (List.mem_of_getElem? (i := 19) rfl) rfl
theorem q_f_X8_28 : Cond.fieldLink RX8 28 "SmashedHoursModel" "isKept" "[Z" ∈ gw := gwm_26 (List.mem_of_getElem? (i := 20) rfl) rfl
theorem q_f_X8_138 : Cond.fieldLink RX8 138 "SmashedHoursModel" "toldMany" "I" ∈ gw := gwm_26 (List.mem_of_getElem? (i := 21) rfl) rfl
theorem q_f_X8_32 : Cond.fieldLink RX8 32 "SmashedHoursModel" "told" "[I" ∈ gw := gwm_26 (List.mem_of_getElem? (i := 22) rfl) rfl
theorem q_f_X8_213 : Cond.fieldLink RX8 213 "SmashedHoursModel" "trace" "J" ∈ gw := gwm_26 (List.mem_of_getElem? (i := 23) rfl) rfl
theorem q_f_X8_35 : Cond.fieldLink RX8 35 "SmashedHoursModel" "text" "[I" ∈ gw := gwm_26 (List.mem_of_getElem? (i := 24) rfl) rfl
theorem q_f_X8_76 : Cond.fieldLink RX8 76 "SmashedHoursModel" "texted" "I" ∈ gw := gwm_27 (List.mem_of_getElem? (i := 0) rfl) rfl
theorem q_f_X8_79 : Cond.fieldLink RX8 79 "SmashedHoursModel" "cursor" "I" ∈ gw := gwm_27 (List.mem_of_getElem? (i := 1) rfl) rfl
theorem q_f_X8_86 : Cond.fieldLink RX8 86 "SmashedHoursModel" "start" "I" ∈ gw := gwm_27 (List.mem_of_getElem? (i := 2) rfl) rfl
theorem q_f_X8_92 : Cond.fieldLink RX8 92 "SmashedHoursModel" "token" "I" ∈ gw := gwm_27 (List.mem_of_getElem? (i := 3) rfl) rfl
theorem q_f_X8_89 : Cond.fieldLink RX8 89 "SmashedHoursModel" "number" "I" ∈ gw := gwm_27 (List.mem_of_getElem? (i := 4) rfl) rfl
theorem q_f_X8_99 : Cond.fieldLink RX8 99 "SmashedHoursModel" "isWrong" "Z" ∈ gw := gwm_27 (List.mem_of_getElem? (i := 5) rfl) rfl
theorem q_f_X8_126 : Cond.fieldLink RX8 126 "SmashedHoursModel" "items" "I" ∈ gw := gwm_27 (List.mem_of_getElem? (i := 6) rfl) rfl
theorem q_f_X8_106 : Cond.fieldLink RX8 106 "SmashedHoursModel" "saidPeople" "I" ∈ gw := gwm_27 (List.mem_of_getElem? (i := 7) rfl) rfl
theorem q_f_X8_38 : Cond.fieldLink RX8 38 "SmashedHoursModel" "saidWeight" "[I" ∈ gw := gwm_27 (List.mem_of_getElem? (i := 8) rfl) rfl
theorem q_f_X8_41 : Cond.fieldLink RX8 41 "SmashedHoursModel" "saidNights" "[I" ∈ gw := gwm_27 (List.mem_of_getElem? (i := 9) rfl) rfl
theorem q_f_X8_44 : Cond.fieldLink RX8 44 "SmashedHoursModel" "saidWants" "[I" ∈ gw := gwm_27 (List.mem_of_getElem? (i := 10) rfl) rfl
theorem q_f_X8_47 : Cond.fieldLink RX8 47 "SmashedHoursModel" "saidMany" "[I" ∈ gw := gwm_27 (List.mem_of_getElem? (i := 11) rfl) rfl
theorem q_f_X8_117 : Cond.fieldLink RX8 117 "SmashedHoursModel" "saidLaw" "I" ∈ gw := gwm_27 (List.mem_of_getElem? (i := 12) rfl) rfl
theorem q_f_X8_50 : Cond.fieldLink RX8 50 "SmashedHoursModel" "now" "[I" ∈ gw := gwm_27 (List.mem_of_getElem? (i := 13) rfl) rfl
theorem q_f_X8_53 : Cond.fieldLink RX8 53 "SmashedHoursModel" "gave" "[I" ∈ gw := gwm_27 (List.mem_of_getElem? (i := 14) rfl) rfl
theorem q_f_X8_56 : Cond.fieldLink RX8 56 "SmashedHoursModel" "at" "[I" ∈ gw := gwm_27 (List.mem_of_getElem? (i := 15) rfl) rfl
theorem q_f_X8_155 : Cond.fieldLink RX8 155 "SmashedHoursModel" "ringed" "I" ∈ gw := gwm_27 (List.mem_of_getElem? (i := 16) rfl) rfl
theorem q_f_X8_152 : Cond.fieldLink RX8 152 "SmashedHoursModel" "lumps" "I" ∈ gw := gwm_27 (List.mem_of_getElem? (i := 17) rfl) rfl
theorem q_f_X8_59 : Cond.fieldLink RX8 59 "SmashedHoursModel" "way" "[I" ∈ gw := gwm_27 (List.mem_of_getElem? (i := 18) rfl) rfl
theorem q_f_X8_62 : Cond.fieldLink RX8 62 "SmashedHoursModel" "bestWay" "[I" ∈ gw := gwm_27 (List.mem_of_getElem? (i := 19) rfl) rfl
theorem q_f_X8_65 : Cond.fieldLink RX8 65 "SmashedHoursModel" "made" "[I" ∈ gw := gwm_27 (List.mem_of_getElem? (i := 20) rfl) rfl
theorem q_m_L_17 : Cond.methodLink RL 17 yX8_type ∈ gw := gwm_30 (List.mem_of_getElem? (i := 15) rfl) rfl
theorem q_i_X8_type : Cond.instanceMethod yX8_type ∈ gw := gwm_30 (List.mem_of_getElem? (i := 16) rfl) rfl
theorem q_s_X8_type : Cond.selects RX8 yX8_type yX8_type ∈ gw := gwm_30 (List.mem_of_getElem? (i := 17) rfl) rfl
theorem q_c_X8_type : Cond.code yX8_type cX8_type 2 (some .int) ∈ gw := gwm_30 (List.mem_of_getElem? (i := 18) rfl) rfl
theorem q_m_X8_72 : Cond.methodLink RX8 72 yX8_in ∈ gw := gwm_30 (List.mem_of_getElem? (i := 19) rfl) rfl
theorem q_t_X8_in : Cond.static yX8_in ∈ gw := gwm_30 (List.mem_of_getElem? (i := 20) rfl) rfl
theorem q_c_X8_in : Cond.code yX8_in cX8_in 3 (some .boolean) ∈ gw := gwm_30 (List.mem_of_getElem? (i := 21) rfl) rfl
theorem q_m_L_22 : Cond.methodLink RL 22 yX8_clear ∈ gw := gwm_30 (List.mem_of_getElem? (i := 22) rfl) rfl
theorem q_i_X8_clear : Cond.instanceMethod yX8_clear ∈ gw := gwm_30 (List.mem_of_getElem? (i := 23) rfl) rfl
theorem q_s_X8_clear : Cond.selects RX8 yX8_clear yX8_clear ∈ gw := gwm_30 (List.mem_of_getElem? (i := 24) rfl) rfl
theorem q_c_X8_clear : Cond.code yX8_clear cX8_clear 2 (some .int) ∈ gw := gwm_31 (List.mem_of_getElem? (i := 0) rfl) rfl
theorem q_m_L_26 : Cond.methodLink RL 26 yX8_house ∈ gw := gwm_31 (List.mem_of_getElem? (i := 1) rfl) rfl
theorem q_i_X8_house : Cond.instanceMethod yX8_house ∈ gw := gwm_31 (List.mem_of_getElem? (i := 2) rfl) rfl
theorem q_s_X8_house : Cond.selects RX8 yX8_house yX8_house ∈ gw := gwm_31 (List.mem_of_getElem? (i := 3) rfl) rfl
theorem q_c_X8_house : Cond.code yX8_house cX8_house 1 (some .int) ∈ gw := gwm_31 (List.mem_of_getElem? (i := 4) rfl) rfl
theorem q_m_X8_103 : Cond.methodLink RX8 103 yX8_next ∈ gw := gwm_31 (List.mem_of_getElem? (i := 5) rfl) rfl
theorem q_i_X8_next : Cond.instanceMethod yX8_next ∈ gw := gwm_31 (List.mem_of_getElem? (i := 7) rfl) rfl
theorem q_c_X8_next : Cond.code yX8_next cX8_next 2 none ∈ gw := gwm_31 (List.mem_of_getElem? (i := 8) rfl) rfl
theorem q_m_X8_82 : Cond.methodLink RX8 82 yX8_letterAt ∈ gw := gwm_31 (List.mem_of_getElem? (i := 9) rfl) rfl
theorem q_i_X8_letterAt : Cond.instanceMethod yX8_letterAt ∈ gw := gwm_31 (List.mem_of_getElem? (i := 11) rfl) rfl
theorem q_c_X8_letterAt : Cond.code yX8_letterAt cX8_letterAt 2 (some .int) ∈ gw := gwm_31 (List.mem_of_getElem? (i := 12) rfl) rfl
theorem q_m_X8_95 : Cond.methodLink RX8 95 yX8_isFigure ∈ gw := gwm_31 (List.mem_of_getElem? (i := 13) rfl) rfl
theorem q_t_X8_isFigure : Cond.static yX8_isFigure ∈ gw := gwm_31 (List.mem_of_getElem? (i := 14) rfl) rfl
theorem q_c_X8_isFigure : Cond.code yX8_isFigure cX8_isFigure 1 (some .boolean) ∈ gw := gwm_31 (List.mem_of_getElem? (i := 15) rfl) rfl
theorem q_m_X8_129 : Cond.methodLink RX8 129 yX8_readItem ∈ gw := gwm_31 (List.mem_of_getElem? (i := 16) rfl) rfl
theorem q_i_X8_readItem : Cond.instanceMethod yX8_readItem ∈ gw := gwm_31 (List.mem_of_getElem? (i := 18) rfl) rfl
theorem q_c_X8_readItem : Cond.code yX8_readItem cX8_readItem 3 none ∈ gw := gwm_31 (List.mem_of_getElem? (i := 19) rfl) rfl
theorem q_m_X8_120 : Cond.methodLink RX8 120 yX8_readPerson ∈ gw := gwm_31 (List.mem_of_getElem? (i := 20) rfl) rfl
theorem q_i_X8_readPerson : Cond.instanceMethod yX8_readPerson ∈ gw := gwm_31 (List.mem_of_getElem? (i := 22) rfl) rfl
theorem q_c_X8_readPerson : Cond.code yX8_readPerson cX8_readPerson 1 none ∈ gw := gwm_31 (List.mem_of_getElem? (i := 23) rfl) rfl
theorem q_m_X8_109 : Cond.methodLink RX8 109 yX8_takesNumber ∈ gw := gwm_31 (List.mem_of_getElem? (i := 24) rfl) rfl
theorem q_i_X8_takesNumber : Cond.instanceMethod yX8_takesNumber ∈ gw := gwm_32 (List.mem_of_getElem? (i := 1) rfl) rfl
theorem q_c_X8_takesNumber : Cond.code yX8_takesNumber cX8_takesNumber 5 (some .int) ∈ gw := gwm_32 (List.mem_of_getElem? (i := 2) rfl) rfl
theorem q_m_X8_123 : Cond.methodLink RX8 123 yX8_readWants ∈ gw := gwm_32 (List.mem_of_getElem? (i := 3) rfl) rfl
theorem q_i_X8_readWants : Cond.instanceMethod yX8_readWants ∈ gw := gwm_32 (List.mem_of_getElem? (i := 5) rfl) rfl
theorem q_c_X8_readWants : Cond.code yX8_readWants cX8_readWants 4 none ∈ gw := gwm_32 (List.mem_of_getElem? (i := 6) rfl) rfl
theorem q_m_X8_113 : Cond.methodLink RX8 113 yX8_has ∈ gw := gwm_32 (List.mem_of_getElem? (i := 7) rfl) rfl
theorem q_t_X8_has : Cond.static yX8_has ∈ gw := gwm_32 (List.mem_of_getElem? (i := 8) rfl) rfl
theorem q_c_X8_has : Cond.code yX8_has cX8_has 2 (some .boolean) ∈ gw := gwm_32 (List.mem_of_getElem? (i := 9) rfl) rfl
theorem q_m_X8_132 : Cond.methodLink RX8 132 yX8_settles ∈ gw := gwm_32 (List.mem_of_getElem? (i := 10) rfl) rfl
theorem q_i_X8_settles : Cond.instanceMethod yX8_settles ∈ gw := gwm_32 (List.mem_of_getElem? (i := 12) rfl) rfl
theorem q_c_X8_settles : Cond.code yX8_settles cX8_settles 2 none ∈ gw := gwm_32 (List.mem_of_getElem? (i := 13) rfl) rfl
theorem q_m_L_31 : Cond.methodLink RL 31 yX8_person ∈ gw := gwm_32 (List.mem_of_getElem? (i := 14) rfl) rfl
theorem q_i_X8_person : Cond.instanceMethod yX8_person ∈ gw := gwm_32 (List.mem_of_getElem? (i := 15) rfl) rfl
theorem q_s_X8_person : Cond.selects RX8 yX8_person yX8_person ∈ gw := gwm_32 (List.mem_of_getElem? (i := 16) rfl) rfl
theorem q_c_X8_person : Cond.code yX8_person cX8_person 3 (some .int) ∈ gw := gwm_32 (List.mem_of_getElem? (i := 17) rfl) rfl
theorem q_m_X8_168 : Cond.methodLink RX8 168 yX8_isPerson ∈ gw := gwm_32 (List.mem_of_getElem? (i := 18) rfl) rfl
theorem q_i_X8_isPerson : Cond.instanceMethod yX8_isPerson ∈ gw := gwm_32 (List.mem_of_getElem? (i := 20) rfl) rfl
theorem q_c_X8_isPerson : Cond.code yX8_isPerson cX8_isPerson 2 (some .boolean) ∈ gw := gwm_32 (List.mem_of_getElem? (i := 21) rfl) rfl
theorem q_m_L_35 : Cond.methodLink RL 35 yX8_wants ∈ gw := gwm_32 (List.mem_of_getElem? (i := 22) rfl) rfl
theorem q_i_X8_wants : Cond.instanceMethod yX8_wants ∈ gw := gwm_32 (List.mem_of_getElem? (i := 23) rfl) rfl
theorem q_s_X8_wants : Cond.selects RX8 yX8_wants yX8_wants ∈ gw := gwm_32 (List.mem_of_getElem? (i := 24) rfl) rfl
theorem q_c_X8_wants : Cond.code yX8_wants cX8_wants 3 (some .int) ∈ gw := gwm_33 (List.mem_of_getElem? (i := 0) rfl) rfl
theorem q_m_L_39 : Cond.methodLink RL 39 yX8_bit ∈ gw := gwm_33 (List.mem_of_getElem? (i := 1) rfl) rfl
theorem q_i_X8_bit : Cond.instanceMethod yX8_bit ∈ gw := gwm_33 (List.mem_of_getElem? (i := 2) rfl) rfl
theorem q_s_X8_bit : Cond.selects RX8 yX8_bit yX8_bit ∈ gw := gwm_33 (List.mem_of_getElem? (i := 3) rfl) rfl
theorem q_c_X8_bit : Cond.code yX8_bit cX8_bit 2 (some .int) ∈ gw := gwm_33 (List.mem_of_getElem? (i := 4) rfl) rfl
theorem q_m_L_43 : Cond.methodLink RL 43 yX8_now ∈ gw := gwm_33 (List.mem_of_getElem? (i := 5) rfl) rfl
theorem q_i_X8_now : Cond.instanceMethod yX8_now ∈ gw := gwm_33 (List.mem_of_getElem? (i := 6) rfl) rfl
theorem q_s_X8_now : Cond.selects RX8 yX8_now yX8_now ∈ gw := gwm_33 (List.mem_of_getElem? (i := 7) rfl) rfl
theorem q_c_X8_now : Cond.code yX8_now cX8_now 4 (some .int) ∈ gw := gwm_33 (List.mem_of_getElem? (i := 8) rfl) rfl
theorem q_m_L_47 : Cond.methodLink RL 47 yX8_gives ∈ gw := gwm_33 (List.mem_of_getElem? (i := 9) rfl) rfl
theorem q_i_X8_gives : Cond.instanceMethod yX8_gives ∈ gw := gwm_33 (List.mem_of_getElem? (i := 10) rfl) rfl
theorem q_s_X8_gives : Cond.selects RX8 yX8_gives yX8_gives ∈ gw := gwm_33 (List.mem_of_getElem? (i := 11) rfl) rfl
theorem q_c_X8_gives : Cond.code yX8_gives cX8_gives 2 (some .int) ∈ gw := gwm_33 (List.mem_of_getElem? (i := 12) rfl) rfl
theorem q_m_X8_171 : Cond.methodLink RX8 171 yX8_able ∈ gw := gwm_33 (List.mem_of_getElem? (i := 13) rfl) rfl
theorem q_i_X8_able : Cond.instanceMethod yX8_able ∈ gw := gwm_33 (List.mem_of_getElem? (i := 15) rfl) rfl
theorem q_c_X8_able : Cond.code yX8_able cX8_able 3 (some .int) ∈ gw := gwm_33 (List.mem_of_getElem? (i := 16) rfl) rfl
theorem q_m_X8_175 : Cond.methodLink RX8 175 yX8_remembers ∈ gw := gwm_33 (List.mem_of_getElem? (i := 17) rfl) rfl
theorem q_i_X8_remembers : Cond.instanceMethod yX8_remembers ∈ gw := gwm_33 (List.mem_of_getElem? (i := 19) rfl) rfl
theorem q_c_X8_remembers : Cond.code yX8_remembers cX8_remembers 2 none ∈ gw := gwm_33 (List.mem_of_getElem? (i := 20) rfl) rfl
theorem q_m_X8_141 : Cond.methodLink RX8 141 yX8_copy ∈ gw := gwm_33 (List.mem_of_getElem? (i := 21) rfl) rfl
theorem q_t_X8_copy : Cond.static yX8_copy ∈ gw := gwm_33 (List.mem_of_getElem? (i := 22) rfl) rfl
theorem q_c_X8_copy : Cond.code yX8_copy cX8_copy 5 none ∈ gw := gwm_33 (List.mem_of_getElem? (i := 23) rfl) rfl
theorem q_m_X8_178 : Cond.methodLink RX8 178 yX8_bits ∈ gw := gwm_33 (List.mem_of_getElem? (i := 24) rfl) rfl
theorem q_t_X8_bits : Cond.static yX8_bits ∈ gw := gwm_34 (List.mem_of_getElem? (i := 0) rfl) rfl
theorem q_c_X8_bits : Cond.code yX8_bits cX8_bits 3 (some .int) ∈ gw := gwm_34 (List.mem_of_getElem? (i := 1) rfl) rfl
theorem q_m_L_51 : Cond.methodLink RL 51 yX8_takes ∈ gw := gwm_34 (List.mem_of_getElem? (i := 2) rfl) rfl
theorem q_i_X8_takes : Cond.instanceMethod yX8_takes ∈ gw := gwm_34 (List.mem_of_getElem? (i := 3) rfl) rfl
theorem q_s_X8_takes : Cond.selects RX8 yX8_takes yX8_takes ∈ gw := gwm_34 (List.mem_of_getElem? (i := 4) rfl) rfl
theorem q_c_X8_takes : Cond.code yX8_takes cX8_takes 2 (some .int) ∈ gw := gwm_34 (List.mem_of_getElem? (i := 5) rfl) rfl
theorem q_m_L_55 : Cond.methodLink RL 55 yX8_night ∈ gw := gwm_34 (List.mem_of_getElem? (i := 6) rfl) rfl
theorem q_i_X8_night : Cond.instanceMethod yX8_night ∈ gw := gwm_34 (List.mem_of_getElem? (i := 7) rfl) rfl
theorem q_s_X8_night : Cond.selects RX8 yX8_night yX8_night ∈ gw := gwm_34 (List.mem_of_getElem? (i := 8) rfl) rfl
theorem q_c_X8_night : Cond.code yX8_night cX8_night 2 (some .int) ∈ gw := gwm_34 (List.mem_of_getElem? (i := 9) rfl) rfl
theorem q_m_X8_181 : Cond.methodLink RX8 181 yX8_asItIs ∈ gw := gwm_34 (List.mem_of_getElem? (i := 10) rfl) rfl
theorem q_i_X8_asItIs : Cond.instanceMethod yX8_asItIs ∈ gw := gwm_34 (List.mem_of_getElem? (i := 12) rfl) rfl
theorem q_c_X8_asItIs : Cond.code yX8_asItIs cX8_asItIs 1 none ∈ gw := gwm_34 (List.mem_of_getElem? (i := 13) rfl) rfl
theorem q_m_X8_184 : Cond.methodLink RX8 184 yX8_goesBy ∈ gw := gwm_34 (List.mem_of_getElem? (i := 14) rfl) rfl
theorem q_i_X8_goesBy : Cond.instanceMethod yX8_goesBy ∈ gw := gwm_34 (List.mem_of_getElem? (i := 16) rfl) rfl
theorem q_c_X8_goesBy : Cond.code yX8_goesBy cX8_goesBy 7 none ∈ gw := gwm_34 (List.mem_of_getElem? (i := 17) rfl) rfl
theorem q_m_X8_158 : Cond.methodLink RX8 158 yX8_pointsAt ∈ gw := gwm_34 (List.mem_of_getElem? (i := 18) rfl) rfl
theorem q_i_X8_pointsAt : Cond.instanceMethod yX8_pointsAt ∈ gw := gwm_34 (List.mem_of_getElem? (i := 20) rfl) rfl
theorem q_c_X8_pointsAt : Cond.code yX8_pointsAt cX8_pointsAt 11 (some .int) ∈ gw := gwm_34 (List.mem_of_getElem? (i := 21) rfl) rfl
theorem q_m_X8_145 : Cond.methodLink RX8 145 yX8_whoGave ∈ gw := gwm_34 (List.mem_of_getElem? (i := 22) rfl) rfl
theorem q_i_X8_whoGave : Cond.instanceMethod yX8_whoGave ∈ gw := gwm_34 (List.mem_of_getElem? (i := 24) rfl) rfl
theorem q_c_X8_whoGave : Cond.code yX8_whoGave cX8_whoGave 5 (some .int) ∈ gw := gwm_35 (List.mem_of_getElem? (i := 0) rfl) rfl
theorem q_m_X8_148 : Cond.methodLink RX8 148 yX8_behind ∈ gw := gwm_35 (List.mem_of_getElem? (i := 1) rfl) rfl
theorem q_i_X8_behind : Cond.instanceMethod yX8_behind ∈ gw := gwm_35 (List.mem_of_getElem? (i := 3) rfl) rfl
theorem q_c_X8_behind : Cond.code yX8_behind cX8_behind 5 (some .int) ∈ gw := gwm_35 (List.mem_of_getElem? (i := 4) rfl) rfl
theorem q_m_X8_161 : Cond.methodLink RX8 161 yX8_ringOf ∈ gw := gwm_35 (List.mem_of_getElem? (i := 5) rfl) rfl
theorem q_i_X8_ringOf : Cond.instanceMethod yX8_ringOf ∈ gw := gwm_35 (List.mem_of_getElem? (i := 7) rfl) rfl
theorem q_c_X8_ringOf : Cond.code yX8_ringOf cX8_ringOf 5 (some .int) ∈ gw := gwm_35 (List.mem_of_getElem? (i := 8) rfl) rfl
theorem q_m_X8_164 : Cond.methodLink RX8 164 yX8_isLump ∈ gw := gwm_35 (List.mem_of_getElem? (i := 9) rfl) rfl
theorem q_i_X8_isLump : Cond.instanceMethod yX8_isLump ∈ gw := gwm_35 (List.mem_of_getElem? (i := 11) rfl) rfl
theorem q_c_X8_isLump : Cond.code yX8_isLump cX8_isLump 2 none ∈ gw := gwm_35 (List.mem_of_getElem? (i := 12) rfl) rfl
theorem q_m_L_59 : Cond.methodLink RL 59 yX8_joins ∈ gw := gwm_35 (List.mem_of_getElem? (i := 13) rfl) rfl
theorem q_i_X8_joins : Cond.instanceMethod yX8_joins ∈ gw := gwm_35 (List.mem_of_getElem? (i := 14) rfl) rfl
theorem q_s_X8_joins : Cond.selects RX8 yX8_joins yX8_joins ∈ gw := gwm_35 (List.mem_of_getElem? (i := 15) rfl) rfl
theorem q_c_X8_joins : Cond.code yX8_joins cX8_joins 4 (some .int) ∈ gw := gwm_35 (List.mem_of_getElem? (i := 16) rfl) rfl
theorem q_m_X8_188 : Cond.methodLink RX8 188 yX8_sumOf ∈ gw := gwm_35 (List.mem_of_getElem? (i := 17) rfl) rfl
theorem q_i_X8_sumOf : Cond.instanceMethod yX8_sumOf ∈ gw := gwm_35 (List.mem_of_getElem? (i := 19) rfl) rfl
theorem q_c_X8_sumOf : Cond.code yX8_sumOf cX8_sumOf 4 (some .int) ∈ gw := gwm_35 (List.mem_of_getElem? (i := 20) rfl) rfl
theorem q_m_L_63 : Cond.methodLink RL 63 yX8_laws ∈ gw := gwm_35 (List.mem_of_getElem? (i := 21) rfl) rfl
theorem q_i_X8_laws : Cond.instanceMethod yX8_laws ∈ gw := gwm_35 (List.mem_of_getElem? (i := 22) rfl) rfl
theorem q_s_X8_laws : Cond.selects RX8 yX8_laws yX8_laws ∈ gw := gwm_35 (List.mem_of_getElem? (i := 23) rfl) rfl
theorem q_c_X8_laws : Cond.code yX8_laws cX8_laws 3 (some .int) ∈ gw := gwm_35 (List.mem_of_getElem? (i := 24) rfl) rfl
theorem q_m_L_67 : Cond.methodLink RL 67 yX8_undo ∈ gw := gwm_36 (List.mem_of_getElem? (i := 0) rfl) rfl
theorem q_i_X8_undo : Cond.instanceMethod yX8_undo ∈ gw := gwm_36 (List.mem_of_getElem? (i := 1) rfl) rfl
theorem q_s_X8_undo : Cond.selects RX8 yX8_undo yX8_undo ∈ gw := gwm_36 (List.mem_of_getElem? (i := 2) rfl) rfl
theorem q_c_X8_undo : Cond.code yX8_undo cX8_undo 1 (some .int) ∈ gw := gwm_36 (List.mem_of_getElem? (i := 3) rfl) rfl
theorem q_m_L_71 : Cond.methodLink RL 71 yX8_would ∈ gw := gwm_36 (List.mem_of_getElem? (i := 4) rfl) rfl
theorem q_i_X8_would : Cond.instanceMethod yX8_would ∈ gw := gwm_36 (List.mem_of_getElem? (i := 5) rfl) rfl
theorem q_s_X8_would : Cond.selects RX8 yX8_would yX8_would ∈ gw := gwm_36 (List.mem_of_getElem? (i := 6) rfl) rfl
theorem q_c_X8_would : Cond.code yX8_would cX8_would 2 (some .int) ∈ gw := gwm_36 (List.mem_of_getElem? (i := 7) rfl) rfl
theorem q_m_L_75 : Cond.methodLink RL 75 yX8_served ∈ gw := gwm_36 (List.mem_of_getElem? (i := 8) rfl) rfl
theorem q_i_X8_served : Cond.instanceMethod yX8_served ∈ gw := gwm_36 (List.mem_of_getElem? (i := 9) rfl) rfl
theorem q_s_X8_served : Cond.selects RX8 yX8_served yX8_served ∈ gw := gwm_36 (List.mem_of_getElem? (i := 10) rfl) rfl
theorem q_c_X8_served : Cond.code yX8_served cX8_served 2 (some .int) ∈ gw := gwm_36 (List.mem_of_getElem? (i := 11) rfl) rfl
theorem q_m_X8_191 : Cond.methodLink RX8 191 yX8_all ∈ gw := gwm_36 (List.mem_of_getElem? (i := 12) rfl) rfl
theorem q_i_X8_all : Cond.instanceMethod yX8_all ∈ gw := gwm_36 (List.mem_of_getElem? (i := 14) rfl) rfl
theorem q_c_X8_all : Cond.code yX8_all cX8_all 1 (some .int) ∈ gw := gwm_36 (List.mem_of_getElem? (i := 15) rfl) rfl
theorem q_m_L_79 : Cond.methodLink RL 79 yX8_get ∈ gw := gwm_36 (List.mem_of_getElem? (i := 16) rfl) rfl
theorem q_i_X8_get : Cond.instanceMethod yX8_get ∈ gw := gwm_36 (List.mem_of_getElem? (i := 17) rfl) rfl
theorem q_s_X8_get : Cond.selects RX8 yX8_get yX8_get ∈ gw := gwm_36 (List.mem_of_getElem? (i := 18) rfl) rfl
theorem q_c_X8_get : Cond.code yX8_get cX8_get 7 (some .int) ∈ gw := gwm_36 (List.mem_of_getElem? (i := 19) rfl) rfl
theorem q_m_L_83 : Cond.methodLink RL 83 yX8_most ∈ gw := gwm_36 (List.mem_of_getElem? (i := 20) rfl) rfl
theorem q_i_X8_most : Cond.instanceMethod yX8_most ∈ gw := gwm_36 (List.mem_of_getElem? (i := 21) rfl) rfl
theorem q_s_X8_most : Cond.selects RX8 yX8_most yX8_most ∈ gw := gwm_36 (List.mem_of_getElem? (i := 22) rfl) rfl
theorem q_c_X8_most : Cond.code yX8_most cX8_most 9 (some .int) ∈ gw := gwm_36 (List.mem_of_getElem? (i := 23) rfl) rfl
theorem q_m_L_87 : Cond.methodLink RL 87 yX8_could ∈ gw := gwm_36 (List.mem_of_getElem? (i := 24) rfl) rfl
theorem q_i_X8_could : Cond.instanceMethod yX8_could ∈ gw := gwm_37 (List.mem_of_getElem? (i := 0) rfl) rfl
theorem q_s_X8_could : Cond.selects RX8 yX8_could yX8_could ∈ gw := gwm_37 (List.mem_of_getElem? (i := 1) rfl) rfl
theorem q_c_X8_could : Cond.code yX8_could cX8_could 8 (some .int) ∈ gw := gwm_37 (List.mem_of_getElem? (i := 2) rfl) rfl
theorem q_m_X8_197 : Cond.methodLink RX8 197 yX8_wayOf ∈ gw := gwm_37 (List.mem_of_getElem? (i := 3) rfl) rfl
theorem q_i_X8_wayOf : Cond.instanceMethod yX8_wayOf ∈ gw := gwm_37 (List.mem_of_getElem? (i := 5) rfl) rfl
theorem q_c_X8_wayOf : Cond.code yX8_wayOf cX8_wayOf 9 (some .int) ∈ gw := gwm_37 (List.mem_of_getElem? (i := 6) rfl) rfl
theorem q_m_X8_194 : Cond.methodLink RX8 194 yX8_isWanted ∈ gw := gwm_37 (List.mem_of_getElem? (i := 7) rfl) rfl
theorem q_i_X8_isWanted : Cond.instanceMethod yX8_isWanted ∈ gw := gwm_37 (List.mem_of_getElem? (i := 9) rfl) rfl
theorem q_c_X8_isWanted : Cond.code yX8_isWanted cX8_isWanted 5 (some .boolean) ∈ gw := gwm_37 (List.mem_of_getElem? (i := 10) rfl) rfl
theorem q_m_L_92 : Cond.methodLink RL 92 yX8_odds ∈ gw := gwm_37 (List.mem_of_getElem? (i := 11) rfl) rfl
theorem q_i_X8_odds : Cond.instanceMethod yX8_odds ∈ gw := gwm_37 (List.mem_of_getElem? (i := 12) rfl) rfl
theorem q_s_X8_odds : Cond.selects RX8 yX8_odds yX8_odds ∈ gw := gwm_37 (List.mem_of_getElem? (i := 13) rfl) rfl
theorem q_c_X8_odds : Cond.code yX8_odds cX8_odds 10 (some .int) ∈ gw := gwm_37 (List.mem_of_getElem? (i := 14) rfl) rfl
theorem q_m_X8_200 : Cond.methodLink RX8 200 yX8_lowest ∈ gw := gwm_37 (List.mem_of_getElem? (i := 15) rfl) rfl
theorem q_t_X8_lowest : Cond.static yX8_lowest ∈ gw := gwm_37 (List.mem_of_getElem? (i := 16) rfl) rfl
theorem q_c_X8_lowest : Cond.code yX8_lowest cX8_lowest 6 (some .int) ∈ gw := gwm_37 (List.mem_of_getElem? (i := 17) rfl) rfl
theorem q_m_L_96 : Cond.methodLink RL 96 yX8_join ∈ gw := gwm_37 (List.mem_of_getElem? (i := 18) rfl) rfl
theorem q_i_X8_join : Cond.instanceMethod yX8_join ∈ gw := gwm_37 (List.mem_of_getElem? (i := 19) rfl) rfl
theorem q_s_X8_join : Cond.selects RX8 yX8_join yX8_join ∈ gw := gwm_37 (List.mem_of_getElem? (i := 20) rfl) rfl
theorem q_c_X8_join : Cond.code yX8_join cX8_join 4 (some .int) ∈ gw := gwm_37 (List.mem_of_getElem? (i := 21) rfl) rfl
theorem q_m_X8_203 : Cond.methodLink RX8 203 yX8_hours ∈ gw := gwm_37 (List.mem_of_getElem? (i := 22) rfl) rfl
theorem q_i_X8_hours : Cond.instanceMethod yX8_hours ∈ gw := gwm_37 (List.mem_of_getElem? (i := 24) rfl) rfl
theorem q_c_X8_hours : Cond.code yX8_hours cX8_hours 5 (some .int) ∈ gw := gwm_38 (List.mem_of_getElem? (i := 0) rfl) rfl
theorem q_m_L_100 : Cond.methodLink RL 100 yX8_tells ∈ gw := gwm_38 (List.mem_of_getElem? (i := 1) rfl) rfl
theorem q_i_X8_tells : Cond.instanceMethod yX8_tells ∈ gw := gwm_38 (List.mem_of_getElem? (i := 2) rfl) rfl
theorem q_s_X8_tells : Cond.selects RX8 yX8_tells yX8_tells ∈ gw := gwm_38 (List.mem_of_getElem? (i := 3) rfl) rfl
theorem q_c_X8_tells : Cond.code yX8_tells cX8_tells 4 (some .int) ∈ gw := gwm_38 (List.mem_of_getElem? (i := 4) rfl) rfl
theorem q_m_L_104 : Cond.methodLink RL 104 yX8_forget ∈ gw := gwm_38 (List.mem_of_getElem? (i := 5) rfl) rfl
theorem q_i_X8_forget : Cond.instanceMethod yX8_forget ∈ gw := gwm_38 (List.mem_of_getElem? (i := 6) rfl) rfl
theorem q_s_X8_forget : Cond.selects RX8 yX8_forget yX8_forget ∈ gw := gwm_38 (List.mem_of_getElem? (i := 7) rfl) rfl
theorem q_c_X8_forget : Cond.code yX8_forget cX8_forget 2 (some .int) ∈ gw := gwm_38 (List.mem_of_getElem? (i := 8) rfl) rfl
theorem q_m_L_108 : Cond.methodLink RL 108 yX8_fits ∈ gw := gwm_38 (List.mem_of_getElem? (i := 9) rfl) rfl
theorem q_i_X8_fits : Cond.instanceMethod yX8_fits ∈ gw := gwm_38 (List.mem_of_getElem? (i := 10) rfl) rfl
theorem q_s_X8_fits : Cond.selects RX8 yX8_fits yX8_fits ∈ gw := gwm_38 (List.mem_of_getElem? (i := 11) rfl) rfl
theorem q_c_X8_fits : Cond.code yX8_fits cX8_fits 5 (some .int) ∈ gw := gwm_38 (List.mem_of_getElem? (i := 12) rfl) rfl
theorem q_m_X8_206 : Cond.methodLink RX8 206 yX8_isSo ∈ gw := gwm_38 (List.mem_of_getElem? (i := 13) rfl) rfl
theorem q_i_X8_isSo : Cond.instanceMethod yX8_isSo ∈ gw := gwm_38 (List.mem_of_getElem? (i := 15) rfl) rfl
theorem q_c_X8_isSo : Cond.code yX8_isSo cX8_isSo 4 (some .boolean) ∈ gw := gwm_38 (List.mem_of_getElem? (i := 16) rfl) rfl
theorem q_m_L_113 : Cond.methodLink RL 113 yX8_stop ∈ gw := gwm_38 (List.mem_of_getElem? (i := 17) rfl) rfl
theorem q_i_X8_stop : Cond.instanceMethod yX8_stop ∈ gw := gwm_38 (List.mem_of_getElem? (i := 18) rfl) rfl
theorem q_s_X8_stop : Cond.selects RX8 yX8_stop yX8_stop ∈ gw := gwm_38 (List.mem_of_getElem? (i := 19) rfl) rfl
theorem q_c_X8_stop : Cond.code yX8_stop cX8_stop 9 (some .int) ∈ gw := gwm_38 (List.mem_of_getElem? (i := 20) rfl) rfl
theorem q_m_L_117 : Cond.methodLink RL 117 yX8_rate ∈ gw := gwm_38 (List.mem_of_getElem? (i := 21) rfl) rfl
theorem q_i_X8_rate : Cond.instanceMethod yX8_rate ∈ gw := gwm_38 (List.mem_of_getElem? (i := 22) rfl) rfl
theorem q_s_X8_rate : Cond.selects RX8 yX8_rate yX8_rate ∈ gw := gwm_38 (List.mem_of_getElem? (i := 23) rfl) rfl
theorem q_c_X8_rate : Cond.code yX8_rate cX8_rate 6 (some .int) ∈ gw := gwm_38 (List.mem_of_getElem? (i := 24) rfl) rfl
theorem q_v_X8_209 : Cond.constant RX8 209 (-1000000) ∈ gw := gwm_39 (List.mem_of_getElem? (i := 0) rfl) rfl
theorem q_m_X8_210 : Cond.methodLink RX8 210 yX8_wantedBy ∈ gw := gwm_39 (List.mem_of_getElem? (i := 1) rfl) rfl
theorem q_i_X8_wantedBy : Cond.instanceMethod yX8_wantedBy ∈ gw := gwm_39 (List.mem_of_getElem? (i := 3) rfl) rfl
theorem q_c_X8_wantedBy : Cond.code yX8_wantedBy cX8_wantedBy 4 (some .int) ∈ gw := gwm_39 (List.mem_of_getElem? (i := 4) rfl) rfl
theorem q_v_X8_217 : Cond.constantLong RX8 217 (11) ∈ gw := gwm_39 (List.mem_of_getElem? (i := 5) rfl) rfl
theorem q_v_X8_219 : Cond.constantLong RX8 219 (101) ∈ gw := gwm_39 (List.mem_of_getElem? (i := 6) rfl) rfl
theorem q_v_X8_221 : Cond.constantLong RX8 221 (1011) ∈ gw := gwm_39 (List.mem_of_getElem? (i := 7) rfl) rfl
theorem q_v_X8_223 : Cond.constantLong RX8 223 (10101) ∈ gw := gwm_39 (List.mem_of_getElem? (i := 8) rfl) rfl
theorem q_m_X8_225 : Cond.methodLink RX8 225 yX8_whoHas ∈ gw := gwm_39 (List.mem_of_getElem? (i := 9) rfl) rfl
theorem q_i_X8_whoHas : Cond.instanceMethod yX8_whoHas ∈ gw := gwm_39 (List.mem_of_getElem? (i := 11) rfl) rfl
theorem q_c_X8_whoHas : Cond.code yX8_whoHas cX8_whoHas 4 (some .int) ∈ gw := gwm_39 (List.mem_of_getElem? (i := 12) rfl) rfl
theorem q_v_X8_228 : Cond.constantLong RX8 228 (100001) ∈ gw := gwm_39 (List.mem_of_getElem? (i := 13) rfl) rfl
theorem q_m_L_121 : Cond.methodLink RL 121 yX8_keep ∈ gw := gwm_39 (List.mem_of_getElem? (i := 14) rfl) rfl
theorem q_i_X8_keep : Cond.instanceMethod yX8_keep ∈ gw := gwm_39 (List.mem_of_getElem? (i := 15) rfl) rfl
theorem q_s_X8_keep : Cond.selects RX8 yX8_keep yX8_keep ∈ gw := gwm_39 (List.mem_of_getElem? (i := 16) rfl) rfl
theorem q_c_X8_keep : Cond.code yX8_keep cX8_keep 2 (some .int) ∈ gw := gwm_39 (List.mem_of_getElem? (i := 17) rfl) rfl
theorem q_m_L_125 : Cond.methodLink RL 125 yX8_back ∈ gw := gwm_39 (List.mem_of_getElem? (i := 18) rfl) rfl
theorem q_i_X8_back : Cond.instanceMethod yX8_back ∈ gw := gwm_39 (List.mem_of_getElem? (i := 19) rfl) rfl
theorem q_s_X8_back : Cond.selects RX8 yX8_back yX8_back ∈ gw := gwm_39 (List.mem_of_getElem? (i := 20) rfl) rfl
theorem q_c_X8_back : Cond.code yX8_back cX8_back 2 (some .int) ∈ gw := gwm_39 (List.mem_of_getElem? (i := 21) rfl) rfl
theorem q_m_L_129 : Cond.methodLink RL 129 yX8_count ∈ gw := gwm_39 (List.mem_of_getElem? (i := 22) rfl) rfl
theorem q_i_X8_count : Cond.instanceMethod yX8_count ∈ gw := gwm_39 (List.mem_of_getElem? (i := 23) rfl) rfl
theorem q_s_X8_count : Cond.selects RX8 yX8_count yX8_count ∈ gw := gwm_39 (List.mem_of_getElem? (i := 24) rfl) rfl
theorem q_c_X8_count : Cond.code yX8_count cX8_count 2 (some .int) ∈ gw := gwm_40 (List.mem_of_getElem? (i := 0) rfl) rfl
theorem q_m_L_134 : Cond.methodLink RL 134 yX8_trace ∈ gw := gwm_40 (List.mem_of_getElem? (i := 1) rfl) rfl
theorem q_i_X8_trace : Cond.instanceMethod yX8_trace ∈ gw := gwm_40 (List.mem_of_getElem? (i := 2) rfl) rfl
theorem q_s_X8_trace : Cond.selects RX8 yX8_trace yX8_trace ∈ gw := gwm_40 (List.mem_of_getElem? (i := 3) rfl) rfl
theorem q_c_X8_trace : Cond.code yX8_trace cX8_trace 1 (some .long) ∈ gw := gwm_40 (List.mem_of_getElem? (i := 4) rfl) rfl
theorem q_s_X4_step : Cond.selects RX4 yX4_step yX4_step ∈ gw := gw_s 0 (by decide +kernel) (by decide +kernel)
theorem q_s_X4_readNumber : Cond.selects RX4 yX4_readNumber yX4_readNumber ∈ gw := gw_s 1 (by decide +kernel) (by decide +kernel)
theorem q_s_X4_readPerson : Cond.selects RX4 yX4_readPerson yX4_readPerson ∈ gw := gw_s 2 (by decide +kernel) (by decide +kernel)
theorem q_s_X4_stepToNumber : Cond.selects RX4 yX4_stepToNumber yX4_stepToNumber ∈ gw := gw_s 3 (by decide +kernel) (by decide +kernel)
theorem q_s_X4_stepToEnd : Cond.selects RX4 yX4_stepToEnd yX4_stepToEnd ∈ gw := gw_s 4 (by decide +kernel) (by decide +kernel)
theorem q_s_X4_readWants : Cond.selects RX4 yX4_readWants yX4_readWants ∈ gw := gw_s 5 (by decide +kernel) (by decide +kernel)
theorem q_s_X4_readLaw : Cond.selects RX4 yX4_readLaw yX4_readLaw ∈ gw := gw_s 6 (by decide +kernel) (by decide +kernel)
theorem q_s_X6_lay : Cond.selects RX6 yX6_lay yX6_lay ∈ gw := gw_s 7 (by decide +kernel) (by decide +kernel)
theorem q_s_X6_aimAll : Cond.selects RX6 yX6_aimAll yX6_aimAll ∈ gw := gw_s 8 (by decide +kernel) (by decide +kernel)
theorem q_s_X6_aimOf : Cond.selects RX6 yX6_aimOf yX6_aimOf ∈ gw := gw_s 9 (by decide +kernel) (by decide +kernel)
theorem q_s_X6_distance : Cond.selects RX6 yX6_distance yX6_distance ∈ gw := gw_s 10 (by decide +kernel) (by decide +kernel)
theorem q_s_X6_goRound : Cond.selects RX6 yX6_goRound yX6_goRound ∈ gw := gw_s 11 (by decide +kernel) (by decide +kernel)
theorem q_s_X6_lowestLeft : Cond.selects RX6 yX6_lowestLeft yX6_lowestLeft ∈ gw := gw_s 12 (by decide +kernel) (by decide +kernel)
theorem q_s_X6_letOut : Cond.selects RX6 yX6_letOut yX6_letOut ∈ gw := gw_s 13 (by decide +kernel) (by decide +kernel)
theorem q_s_X6_smash : Cond.selects RX6 yX6_smash yX6_smash ∈ gw := gw_s 14 (by decide +kernel) (by decide +kernel)
theorem q_s_X7_servedOf : Cond.selects RX7 yX7_servedOf yX7_servedOf ∈ gw := gw_s 15 (by decide +kernel) (by decide +kernel)
theorem q_s_X5_bestFrom : Cond.selects RX5 yX5_bestFrom yX5_bestFrom ∈ gw := gw_s 16 (by decide +kernel) (by decide +kernel)
theorem q_s_X5_firstFor : Cond.selects RX5 yX5_firstFor yX5_firstFor ∈ gw := gw_s 17 (by decide +kernel) (by decide +kernel)
theorem q_s_X3_hoursOf : Cond.selects RX3 yX3_hoursOf yX3_hoursOf ∈ gw := gw_s 18 (by decide +kernel) (by decide +kernel)
theorem q_s_X7_allToldIsSoBy : Cond.selects RX7 yX7_allToldIsSoBy yX7_allToldIsSoBy ∈ gw := gw_s 19 (by decide +kernel) (by decide +kernel)
theorem q_s_X7_asHour : Cond.selects RX7 yX7_asHour yX7_asHour ∈ gw := gw_s 20 (by decide +kernel) (by decide +kernel)
theorem q_s_X7_asRiver : Cond.selects RX7 yX7_asRiver yX7_asRiver ∈ gw := gw_s 21 (by decide +kernel) (by decide +kernel)
theorem q_s_X7_asBand : Cond.selects RX7 yX7_asBand yX7_asBand ∈ gw := gw_s 22 (by decide +kernel) (by decide +kernel)
theorem q_s_X7_asDentist : Cond.selects RX7 yX7_asDentist yX7_asDentist ∈ gw := gw_s 23 (by decide +kernel) (by decide +kernel)
theorem q_s_X7_asWidow : Cond.selects RX7 yX7_asWidow yX7_asWidow ∈ gw := gw_s 24 (by decide +kernel) (by decide +kernel)
theorem q_s_X7_asMinute : Cond.selects RX7 yX7_asMinute yX7_asMinute ∈ gw := gw_s 25 (by decide +kernel) (by decide +kernel)
theorem q_s_X8_next : Cond.selects RX8 yX8_next yX8_next ∈ gw := gw_s 26 (by decide +kernel) (by decide +kernel)
theorem q_s_X8_letterAt : Cond.selects RX8 yX8_letterAt yX8_letterAt ∈ gw := gw_s 27 (by decide +kernel) (by decide +kernel)
theorem q_s_X8_readItem : Cond.selects RX8 yX8_readItem yX8_readItem ∈ gw := gw_s 28 (by decide +kernel) (by decide +kernel)
theorem q_s_X8_readPerson : Cond.selects RX8 yX8_readPerson yX8_readPerson ∈ gw := gw_s 29 (by decide +kernel) (by decide +kernel)
theorem q_s_X8_takesNumber : Cond.selects RX8 yX8_takesNumber yX8_takesNumber ∈ gw := gw_s 30 (by decide +kernel) (by decide +kernel)
theorem q_s_X8_readWants : Cond.selects RX8 yX8_readWants yX8_readWants ∈ gw := gw_s 31 (by decide +kernel) (by decide +kernel)
theorem q_s_X8_settles : Cond.selects RX8 yX8_settles yX8_settles ∈ gw := gw_s 32 (by decide +kernel) (by decide +kernel)
theorem q_s_X8_isPerson : Cond.selects RX8 yX8_isPerson yX8_isPerson ∈ gw := gw_s 33 (by decide +kernel) (by decide +kernel)
theorem q_s_X8_able : Cond.selects RX8 yX8_able yX8_able ∈ gw := gw_s 34 (by decide +kernel) (by decide +kernel)
theorem q_s_X8_remembers : Cond.selects RX8 yX8_remembers yX8_remembers ∈ gw := gw_s 35 (by decide +kernel) (by decide +kernel)
theorem q_s_X8_asItIs : Cond.selects RX8 yX8_asItIs yX8_asItIs ∈ gw := gw_s 36 (by decide +kernel) (by decide +kernel)
theorem q_s_X8_goesBy : Cond.selects RX8 yX8_goesBy yX8_goesBy ∈ gw := gw_s 37 (by decide +kernel) (by decide +kernel)
theorem q_s_X8_pointsAt : Cond.selects RX8 yX8_pointsAt yX8_pointsAt ∈ gw := gw_s 38 (by decide +kernel) (by decide +kernel)
theorem q_s_X8_whoGave : Cond.selects RX8 yX8_whoGave yX8_whoGave ∈ gw := gw_s 39 (by decide +kernel) (by decide +kernel)
theorem q_s_X8_behind : Cond.selects RX8 yX8_behind yX8_behind ∈ gw := gw_s 40 (by decide +kernel) (by decide +kernel)
theorem q_s_X8_ringOf : Cond.selects RX8 yX8_ringOf yX8_ringOf ∈ gw := gw_s 41 (by decide +kernel) (by decide +kernel)
theorem q_s_X8_isLump : Cond.selects RX8 yX8_isLump yX8_isLump ∈ gw := gw_s 42 (by decide +kernel) (by decide +kernel)
theorem q_s_X8_sumOf : Cond.selects RX8 yX8_sumOf yX8_sumOf ∈ gw := gw_s 43 (by decide +kernel) (by decide +kernel)
theorem q_s_X8_all : Cond.selects RX8 yX8_all yX8_all ∈ gw := gw_s 44 (by decide +kernel) (by decide +kernel)
theorem q_s_X8_wayOf : Cond.selects RX8 yX8_wayOf yX8_wayOf ∈ gw := gw_s 45 (by decide +kernel) (by decide +kernel)
theorem q_s_X8_isWanted : Cond.selects RX8 yX8_isWanted yX8_isWanted ∈ gw := gw_s 46 (by decide +kernel) (by decide +kernel)
theorem q_s_X8_hours : Cond.selects RX8 yX8_hours yX8_hours ∈ gw := gw_s 47 (by decide +kernel) (by decide +kernel)
theorem q_s_X8_isSo : Cond.selects RX8 yX8_isSo yX8_isSo ∈ gw := gw_s 48 (by decide +kernel) (by decide +kernel)
theorem q_s_X8_wantedBy : Cond.selects RX8 yX8_wantedBy yX8_wantedBy ∈ gw := gw_s 49 (by decide +kernel) (by decide +kernel)
theorem q_s_X8_whoHas : Cond.selects RX8 yX8_whoHas yX8_whoHas ∈ gw := gw_s 50 (by decide +kernel) (by decide +kernel)
theorem inG0 : ∀ w ∈ wsX00, w ∈ gw := by decide +kernel
theorem inG1 : ∀ w ∈ wsX10, w ∈ gw := by decide +kernel
theorem inG2 : ∀ w ∈ wsX20, w ∈ gw := by decide +kernel
theorem inG3 : ∀ w ∈ wsX30, w ∈ gw := by decide +kernel
theorem inG4 : ∀ w ∈ wsX40, w ∈ gw := by decide +kernel
theorem inG5 : ∀ w ∈ wsX50, w ∈ gw := by decide +kernel
theorem inG6 : ∀ w ∈ wsX60, w ∈ gw := by decide +kernel
theorem inG7 : ∀ w ∈ wsX70, w ∈ gw := by decide +kernel
theorem inG8 : ∀ w ∈ wsX80, w ∈ gw := by decide +kernel
def nestG : List Cond := [Cond.methodLinkNest RX7 9 yX4_init RX7, Cond.methodLinkNest RX4 11 yX2_init RX7, Cond.methodLinkNest RX7 18 yX2_init RX7, Cond.methodLinkNest RX7 56 yX5_init RX7, Cond.methodLinkNest RX7 63 yX3_init RX7, Cond.methodLinkNest RX4 81 yX7_within RX7, Cond.methodLinkNest RX2 44 yX7_holds RX7, Cond.methodLinkNest RX6 61 yX7_holds RX7, Cond.methodLinkNest RX0 47 yX7_holds RX7, Cond.methodLinkNest RX5 36 yX7_isWithin RX7, Cond.methodLinkNest RX5 50 yX7_holds RX7]
theorem q_h_X7_9 : Cond.methodLinkNest RX7 9 yX4_init RX7 ∈ nestG := List.mem_of_getElem? (i := 0) rfl
theorem q_h_X4_11 : Cond.methodLinkNest RX4 11 yX2_init RX7 ∈ nestG := List.mem_of_getElem? (i := 1) rfl
theorem q_h_X7_18 : Cond.methodLinkNest RX7 18 yX2_init RX7 ∈ nestG := List.mem_of_getElem? (i := 2) rfl
theorem q_h_X7_56 : Cond.methodLinkNest RX7 56 yX5_init RX7 ∈ nestG := List.mem_of_getElem? (i := 3) rfl
theorem q_h_X7_63 : Cond.methodLinkNest RX7 63 yX3_init RX7 ∈ nestG := List.mem_of_getElem? (i := 4) rfl
theorem q_h_X4_81 : Cond.methodLinkNest RX4 81 yX7_within RX7 ∈ nestG := List.mem_of_getElem? (i := 5) rfl
theorem q_h_X2_44 : Cond.methodLinkNest RX2 44 yX7_holds RX7 ∈ nestG := List.mem_of_getElem? (i := 6) rfl
theorem q_h_X6_61 : Cond.methodLinkNest RX6 61 yX7_holds RX7 ∈ nestG := List.mem_of_getElem? (i := 7) rfl
theorem q_h_X0_47 : Cond.methodLinkNest RX0 47 yX7_holds RX7 ∈ nestG := List.mem_of_getElem? (i := 8) rfl
theorem q_h_X5_36 : Cond.methodLinkNest RX5 36 yX7_isWithin RX7 ∈ nestG := List.mem_of_getElem? (i := 9) rfl
theorem q_h_X5_50 : Cond.methodLinkNest RX5 50 yX7_holds RX7 ∈ nestG := List.mem_of_getElem? (i := 10) rfl
theorem nestG_tbl : ∀ w ∈ nestG, w ∈ lw_tbl := by decide +kernel
theorem hd_X0_begin : yX0_begin.cls = RX0 ∧ yX0_begin.cls ≠ "java/lang/invoke/MethodHandle" ∧ yX0_begin.cls ≠ "java/lang/invoke/VarHandle" ∧ (parseMethodDescriptor yX0_begin.desc).map (fun d => d.parameters.length) = some 1 := by decide +kernel
theorem hd_X0_become : yX0_become.cls = RX0 ∧ yX0_become.cls ≠ "java/lang/invoke/MethodHandle" ∧ yX0_become.cls ≠ "java/lang/invoke/VarHandle" ∧ (parseMethodDescriptor yX0_become.desc).map (fun d => d.parameters.length) = some 1 := by decide +kernel
theorem hd_X0_able : yX0_able.cls = RX0 ∧ yX0_able.cls ≠ "java/lang/invoke/MethodHandle" ∧ yX0_able.cls ≠ "java/lang/invoke/VarHandle" ∧ (parseMethodDescriptor yX0_able.desc).map (fun d => d.parameters.length) = some 0 := by decide +kernel
theorem hd_X0_withTheirOwn : yX0_withTheirOwn.cls = RX0 ∧ yX0_withTheirOwn.cls ≠ "java/lang/invoke/MethodHandle" ∧ yX0_withTheirOwn.cls ≠ "java/lang/invoke/VarHandle" ∧ (parseMethodDescriptor yX0_withTheirOwn.desc).map (fun d => d.parameters.length) = some 0 := by decide +kernel
theorem hd_X0_whoHas : yX0_whoHas.cls = RX0 ∧ yX0_whoHas.cls ≠ "java/lang/invoke/MethodHandle" ∧ yX0_whoHas.cls ≠ "java/lang/invoke/VarHandle" ∧ (parseMethodDescriptor yX0_whoHas.desc).map (fun d => d.parameters.length) = some 1 := by decide +kernel
theorem hd_X0_minutes : yX0_minutes.cls = RX0 ∧ yX0_minutes.cls ≠ "java/lang/invoke/MethodHandle" ∧ yX0_minutes.cls ≠ "java/lang/invoke/VarHandle" ∧ (parseMethodDescriptor yX0_minutes.desc).map (fun d => d.parameters.length) = some 1 := by decide +kernel
theorem hd_X0_dropBits : yX0_dropBits.cls = RX0 ∧ yX0_dropBits.cls ≠ "java/lang/invoke/MethodHandle" ∧ yX0_dropBits.cls ≠ "java/lang/invoke/VarHandle" ∧ (parseMethodDescriptor yX0_dropBits.desc).map (fun d => d.parameters.length) = some 1 := by decide +kernel
theorem hd_X0_pass : yX0_pass.cls = RX0 ∧ yX0_pass.cls ≠ "java/lang/invoke/MethodHandle" ∧ yX0_pass.cls ≠ "java/lang/invoke/VarHandle" ∧ (parseMethodDescriptor yX0_pass.desc).map (fun d => d.parameters.length) = some 2 := by decide +kernel
theorem hd_X1_remember : yX1_remember.cls = RX1 ∧ yX1_remember.cls ≠ "java/lang/invoke/MethodHandle" ∧ yX1_remember.cls ≠ "java/lang/invoke/VarHandle" ∧ (parseMethodDescriptor yX1_remember.desc).map (fun d => d.parameters.length) = some 1 := by decide +kernel
theorem hd_X1_restore : yX1_restore.cls = RX1 ∧ yX1_restore.cls ≠ "java/lang/invoke/MethodHandle" ∧ yX1_restore.cls ≠ "java/lang/invoke/VarHandle" ∧ (parseMethodDescriptor yX1_restore.desc).map (fun d => d.parameters.length) = some 1 := by decide +kernel
theorem hd_X2_empty : yX2_empty.cls = RX2 ∧ yX2_empty.cls ≠ "java/lang/invoke/MethodHandle" ∧ yX2_empty.cls ≠ "java/lang/invoke/VarHandle" ∧ (parseMethodDescriptor yX2_empty.desc).map (fun d => d.parameters.length) = some 0 := by decide +kernel
theorem hd_X2_knows : yX2_knows.cls = RX2 ∧ yX2_knows.cls ≠ "java/lang/invoke/MethodHandle" ∧ yX2_knows.cls ≠ "java/lang/invoke/VarHandle" ∧ (parseMethodDescriptor yX2_knows.desc).map (fun d => d.parameters.length) = some 1 := by decide +kernel
theorem hd_X2_addPerson : yX2_addPerson.cls = RX2 ∧ yX2_addPerson.cls ≠ "java/lang/invoke/MethodHandle" ∧ yX2_addPerson.cls ≠ "java/lang/invoke/VarHandle" ∧ (parseMethodDescriptor yX2_addPerson.desc).map (fun d => d.parameters.length) = some 2 := by decide +kernel
theorem hd_X2_dropWants : yX2_dropWants.cls = RX2 ∧ yX2_dropWants.cls ≠ "java/lang/invoke/MethodHandle" ∧ yX2_dropWants.cls ≠ "java/lang/invoke/VarHandle" ∧ (parseMethodDescriptor yX2_dropWants.desc).map (fun d => d.parameters.length) = some 1 := by decide +kernel
theorem hd_X2_addWant : yX2_addWant.cls = RX2 ∧ yX2_addWant.cls ≠ "java/lang/invoke/MethodHandle" ∧ yX2_addWant.cls ≠ "java/lang/invoke/VarHandle" ∧ (parseMethodDescriptor yX2_addWant.desc).map (fun d => d.parameters.length) = some 2 := by decide +kernel
theorem hd_X2_howManyWant : yX2_howManyWant.cls = RX2 ∧ yX2_howManyWant.cls ≠ "java/lang/invoke/MethodHandle" ∧ yX2_howManyWant.cls ≠ "java/lang/invoke/VarHandle" ∧ (parseMethodDescriptor yX2_howManyWant.desc).map (fun d => d.parameters.length) = some 1 := by decide +kernel
theorem hd_X2_become : yX2_become.cls = RX2 ∧ yX2_become.cls ≠ "java/lang/invoke/MethodHandle" ∧ yX2_become.cls ≠ "java/lang/invoke/VarHandle" ∧ (parseMethodDescriptor yX2_become.desc).map (fun d => d.parameters.length) = some 1 := by decide +kernel
theorem hd_X3_fullest : yX3_fullest.cls = RX3 ∧ yX3_fullest.cls ≠ "java/lang/invoke/MethodHandle" ∧ yX3_fullest.cls ≠ "java/lang/invoke/VarHandle" ∧ (parseMethodDescriptor yX3_fullest.desc).map (fun d => d.parameters.length) = some 1 := by decide +kernel
theorem hd_X3_mostHours : yX3_mostHours.cls = RX3 ∧ yX3_mostHours.cls ≠ "java/lang/invoke/MethodHandle" ∧ yX3_mostHours.cls ≠ "java/lang/invoke/VarHandle" ∧ (parseMethodDescriptor yX3_mostHours.desc).map (fun d => d.parameters.length) = some 1 := by decide +kernel
theorem hd_X3_hoursOf : yX3_hoursOf.cls = RX3 ∧ yX3_hoursOf.cls ≠ "java/lang/invoke/MethodHandle" ∧ yX3_hoursOf.cls ≠ "java/lang/invoke/VarHandle" ∧ (parseMethodDescriptor yX3_hoursOf.desc).map (fun d => d.parameters.length) = some 1 := by decide +kernel
theorem hd_X4_add : yX4_add.cls = RX4 ∧ yX4_add.cls ≠ "java/lang/invoke/MethodHandle" ∧ yX4_add.cls ≠ "java/lang/invoke/VarHandle" ∧ (parseMethodDescriptor yX4_add.desc).map (fun d => d.parameters.length) = some 1 := by decide +kernel
theorem hd_X4_read : yX4_read.cls = RX4 ∧ yX4_read.cls ≠ "java/lang/invoke/MethodHandle" ∧ yX4_read.cls ≠ "java/lang/invoke/VarHandle" ∧ (parseMethodDescriptor yX4_read.desc).map (fun d => d.parameters.length) = some 0 := by decide +kernel
theorem hd_X4_readPerson : yX4_readPerson.cls = RX4 ∧ yX4_readPerson.cls ≠ "java/lang/invoke/MethodHandle" ∧ yX4_readPerson.cls ≠ "java/lang/invoke/VarHandle" ∧ (parseMethodDescriptor yX4_readPerson.desc).map (fun d => d.parameters.length) = some 0 := by decide +kernel
theorem hd_X4_readWants : yX4_readWants.cls = RX4 ∧ yX4_readWants.cls ≠ "java/lang/invoke/MethodHandle" ∧ yX4_readWants.cls ≠ "java/lang/invoke/VarHandle" ∧ (parseMethodDescriptor yX4_readWants.desc).map (fun d => d.parameters.length) = some 0 := by decide +kernel
theorem hd_X4_readLaw : yX4_readLaw.cls = RX4 ∧ yX4_readLaw.cls ≠ "java/lang/invoke/MethodHandle" ∧ yX4_readLaw.cls ≠ "java/lang/invoke/VarHandle" ∧ (parseMethodDescriptor yX4_readLaw.desc).map (fun d => d.parameters.length) = some 0 := by decide +kernel
theorem hd_X4_stepToNumber : yX4_stepToNumber.cls = RX4 ∧ yX4_stepToNumber.cls ≠ "java/lang/invoke/MethodHandle" ∧ yX4_stepToNumber.cls ≠ "java/lang/invoke/VarHandle" ∧ (parseMethodDescriptor yX4_stepToNumber.desc).map (fun d => d.parameters.length) = some 2 := by decide +kernel
theorem hd_X4_stepToEnd : yX4_stepToEnd.cls = RX4 ∧ yX4_stepToEnd.cls ≠ "java/lang/invoke/MethodHandle" ∧ yX4_stepToEnd.cls ≠ "java/lang/invoke/VarHandle" ∧ (parseMethodDescriptor yX4_stepToEnd.desc).map (fun d => d.parameters.length) = some 0 := by decide +kernel
theorem hd_X4_step : yX4_step.cls = RX4 ∧ yX4_step.cls ≠ "java/lang/invoke/MethodHandle" ∧ yX4_step.cls ≠ "java/lang/invoke/VarHandle" ∧ (parseMethodDescriptor yX4_step.desc).map (fun d => d.parameters.length) = some 0 := by decide +kernel
theorem hd_X4_readNumber : yX4_readNumber.cls = RX4 ∧ yX4_readNumber.cls ≠ "java/lang/invoke/MethodHandle" ∧ yX4_readNumber.cls ≠ "java/lang/invoke/VarHandle" ∧ (parseMethodDescriptor yX4_readNumber.desc).map (fun d => d.parameters.length) = some 0 := by decide +kernel
theorem hd_X4_isDigit : yX4_isDigit.cls = RX4 ∧ yX4_isDigit.cls ≠ "java/lang/invoke/MethodHandle" ∧ yX4_isDigit.cls ≠ "java/lang/invoke/VarHandle" ∧ (parseMethodDescriptor yX4_isDigit.desc).map (fun d => d.parameters.length) = some 1 := by decide +kernel
theorem hd_X5_weigh : yX5_weigh.cls = RX5 ∧ yX5_weigh.cls ≠ "java/lang/invoke/MethodHandle" ∧ yX5_weigh.cls ≠ "java/lang/invoke/VarHandle" ∧ (parseMethodDescriptor yX5_weigh.desc).map (fun d => d.parameters.length) = some 2 := by decide +kernel
theorem hd_X5_mostServed : yX5_mostServed.cls = RX5 ∧ yX5_mostServed.cls ≠ "java/lang/invoke/MethodHandle" ∧ yX5_mostServed.cls ≠ "java/lang/invoke/VarHandle" ∧ (parseMethodDescriptor yX5_mostServed.desc).map (fun d => d.parameters.length) = some 0 := by decide +kernel
theorem hd_X5_hourOf : yX5_hourOf.cls = RX5 ∧ yX5_hourOf.cls ≠ "java/lang/invoke/MethodHandle" ∧ yX5_hourOf.cls ≠ "java/lang/invoke/VarHandle" ∧ (parseMethodDescriptor yX5_hourOf.desc).map (fun d => d.parameters.length) = some 3 := by decide +kernel
theorem hd_X5_wishOf : yX5_wishOf.cls = RX5 ∧ yX5_wishOf.cls ≠ "java/lang/invoke/MethodHandle" ∧ yX5_wishOf.cls ≠ "java/lang/invoke/VarHandle" ∧ (parseMethodDescriptor yX5_wishOf.desc).map (fun d => d.parameters.length) = some 3 := by decide +kernel
theorem hd_X5_bestFrom : yX5_bestFrom.cls = RX5 ∧ yX5_bestFrom.cls ≠ "java/lang/invoke/MethodHandle" ∧ yX5_bestFrom.cls ≠ "java/lang/invoke/VarHandle" ∧ (parseMethodDescriptor yX5_bestFrom.desc).map (fun d => d.parameters.length) = some 3 := by decide +kernel
theorem hd_X5_firstFor : yX5_firstFor.cls = RX5 ∧ yX5_firstFor.cls ≠ "java/lang/invoke/MethodHandle" ∧ yX5_firstFor.cls ≠ "java/lang/invoke/VarHandle" ∧ (parseMethodDescriptor yX5_firstFor.desc).map (fun d => d.parameters.length) = some 3 := by decide +kernel
theorem hd_X6_play : yX6_play.cls = RX6 ∧ yX6_play.cls ≠ "java/lang/invoke/MethodHandle" ∧ yX6_play.cls ≠ "java/lang/invoke/VarHandle" ∧ (parseMethodDescriptor yX6_play.desc).map (fun d => d.parameters.length) = some 3 := by decide +kernel
theorem hd_X6_lay : yX6_lay.cls = RX6 ∧ yX6_lay.cls ≠ "java/lang/invoke/MethodHandle" ∧ yX6_lay.cls ≠ "java/lang/invoke/VarHandle" ∧ (parseMethodDescriptor yX6_lay.desc).map (fun d => d.parameters.length) = some 2 := by decide +kernel
theorem hd_X6_aimAll : yX6_aimAll.cls = RX6 ∧ yX6_aimAll.cls ≠ "java/lang/invoke/MethodHandle" ∧ yX6_aimAll.cls ≠ "java/lang/invoke/VarHandle" ∧ (parseMethodDescriptor yX6_aimAll.desc).map (fun d => d.parameters.length) = some 1 := by decide +kernel
theorem hd_X6_aimOf : yX6_aimOf.cls = RX6 ∧ yX6_aimOf.cls ≠ "java/lang/invoke/MethodHandle" ∧ yX6_aimOf.cls ≠ "java/lang/invoke/VarHandle" ∧ (parseMethodDescriptor yX6_aimOf.desc).map (fun d => d.parameters.length) = some 2 := by decide +kernel
theorem hd_X6_distance : yX6_distance.cls = RX6 ∧ yX6_distance.cls ≠ "java/lang/invoke/MethodHandle" ∧ yX6_distance.cls ≠ "java/lang/invoke/VarHandle" ∧ (parseMethodDescriptor yX6_distance.desc).map (fun d => d.parameters.length) = some 3 := by decide +kernel
theorem hd_X6_smash : yX6_smash.cls = RX6 ∧ yX6_smash.cls ≠ "java/lang/invoke/MethodHandle" ∧ yX6_smash.cls ≠ "java/lang/invoke/VarHandle" ∧ (parseMethodDescriptor yX6_smash.desc).map (fun d => d.parameters.length) = some 1 := by decide +kernel
theorem hd_X6_letOut : yX6_letOut.cls = RX6 ∧ yX6_letOut.cls ≠ "java/lang/invoke/MethodHandle" ∧ yX6_letOut.cls ≠ "java/lang/invoke/VarHandle" ∧ (parseMethodDescriptor yX6_letOut.desc).map (fun d => d.parameters.length) = some 1 := by decide +kernel
theorem hd_X6_goRound : yX6_goRound.cls = RX6 ∧ yX6_goRound.cls ≠ "java/lang/invoke/MethodHandle" ∧ yX6_goRound.cls ≠ "java/lang/invoke/VarHandle" ∧ (parseMethodDescriptor yX6_goRound.desc).map (fun d => d.parameters.length) = some 0 := by decide +kernel
theorem hd_X6_lowestLeft : yX6_lowestLeft.cls = RX6 ∧ yX6_lowestLeft.cls ≠ "java/lang/invoke/MethodHandle" ∧ yX6_lowestLeft.cls ≠ "java/lang/invoke/VarHandle" ∧ (parseMethodDescriptor yX6_lowestLeft.desc).map (fun d => d.parameters.length) = some 0 := by decide +kernel
theorem hd_X7_type : yX7_type.cls = RX7 ∧ yX7_type.cls ≠ "java/lang/invoke/MethodHandle" ∧ yX7_type.cls ≠ "java/lang/invoke/VarHandle" ∧ (parseMethodDescriptor yX7_type.desc).map (fun d => d.parameters.length) = some 1 := by decide +kernel
theorem hd_X7_clear : yX7_clear.cls = RX7 ∧ yX7_clear.cls ≠ "java/lang/invoke/MethodHandle" ∧ yX7_clear.cls ≠ "java/lang/invoke/VarHandle" ∧ (parseMethodDescriptor yX7_clear.desc).map (fun d => d.parameters.length) = some 0 := by decide +kernel
theorem hd_X7_house : yX7_house.cls = RX7 ∧ yX7_house.cls ≠ "java/lang/invoke/MethodHandle" ∧ yX7_house.cls ≠ "java/lang/invoke/VarHandle" ∧ (parseMethodDescriptor yX7_house.desc).map (fun d => d.parameters.length) = some 0 := by decide +kernel
theorem hd_X7_person : yX7_person.cls = RX7 ∧ yX7_person.cls ≠ "java/lang/invoke/MethodHandle" ∧ yX7_person.cls ≠ "java/lang/invoke/VarHandle" ∧ (parseMethodDescriptor yX7_person.desc).map (fun d => d.parameters.length) = some 2 := by decide +kernel
theorem hd_X7_wants : yX7_wants.cls = RX7 ∧ yX7_wants.cls ≠ "java/lang/invoke/MethodHandle" ∧ yX7_wants.cls ≠ "java/lang/invoke/VarHandle" ∧ (parseMethodDescriptor yX7_wants.desc).map (fun d => d.parameters.length) = some 2 := by decide +kernel
theorem hd_X7_bit : yX7_bit.cls = RX7 ∧ yX7_bit.cls ≠ "java/lang/invoke/MethodHandle" ∧ yX7_bit.cls ≠ "java/lang/invoke/VarHandle" ∧ (parseMethodDescriptor yX7_bit.desc).map (fun d => d.parameters.length) = some 1 := by decide +kernel
theorem hd_X7_now : yX7_now.cls = RX7 ∧ yX7_now.cls ≠ "java/lang/invoke/MethodHandle" ∧ yX7_now.cls ≠ "java/lang/invoke/VarHandle" ∧ (parseMethodDescriptor yX7_now.desc).map (fun d => d.parameters.length) = some 1 := by decide +kernel
theorem hd_X7_gives : yX7_gives.cls = RX7 ∧ yX7_gives.cls ≠ "java/lang/invoke/MethodHandle" ∧ yX7_gives.cls ≠ "java/lang/invoke/VarHandle" ∧ (parseMethodDescriptor yX7_gives.desc).map (fun d => d.parameters.length) = some 1 := by decide +kernel
theorem hd_X7_takes : yX7_takes.cls = RX7 ∧ yX7_takes.cls ≠ "java/lang/invoke/MethodHandle" ∧ yX7_takes.cls ≠ "java/lang/invoke/VarHandle" ∧ (parseMethodDescriptor yX7_takes.desc).map (fun d => d.parameters.length) = some 1 := by decide +kernel
theorem hd_X7_night : yX7_night.cls = RX7 ∧ yX7_night.cls ≠ "java/lang/invoke/MethodHandle" ∧ yX7_night.cls ≠ "java/lang/invoke/VarHandle" ∧ (parseMethodDescriptor yX7_night.desc).map (fun d => d.parameters.length) = some 0 := by decide +kernel
theorem hd_X7_joins : yX7_joins.cls = RX7 ∧ yX7_joins.cls ≠ "java/lang/invoke/MethodHandle" ∧ yX7_joins.cls ≠ "java/lang/invoke/VarHandle" ∧ (parseMethodDescriptor yX7_joins.desc).map (fun d => d.parameters.length) = some 1 := by decide +kernel
theorem hd_X7_laws : yX7_laws.cls = RX7 ∧ yX7_laws.cls ≠ "java/lang/invoke/MethodHandle" ∧ yX7_laws.cls ≠ "java/lang/invoke/VarHandle" ∧ (parseMethodDescriptor yX7_laws.desc).map (fun d => d.parameters.length) = some 1 := by decide +kernel
theorem hd_X7_undo : yX7_undo.cls = RX7 ∧ yX7_undo.cls ≠ "java/lang/invoke/MethodHandle" ∧ yX7_undo.cls ≠ "java/lang/invoke/VarHandle" ∧ (parseMethodDescriptor yX7_undo.desc).map (fun d => d.parameters.length) = some 0 := by decide +kernel
theorem hd_X7_would : yX7_would.cls = RX7 ∧ yX7_would.cls ≠ "java/lang/invoke/MethodHandle" ∧ yX7_would.cls ≠ "java/lang/invoke/VarHandle" ∧ (parseMethodDescriptor yX7_would.desc).map (fun d => d.parameters.length) = some 1 := by decide +kernel
theorem hd_X7_served : yX7_served.cls = RX7 ∧ yX7_served.cls ≠ "java/lang/invoke/MethodHandle" ∧ yX7_served.cls ≠ "java/lang/invoke/VarHandle" ∧ (parseMethodDescriptor yX7_served.desc).map (fun d => d.parameters.length) = some 1 := by decide +kernel
theorem hd_X7_get : yX7_get.cls = RX7 ∧ yX7_get.cls ≠ "java/lang/invoke/MethodHandle" ∧ yX7_get.cls ≠ "java/lang/invoke/VarHandle" ∧ (parseMethodDescriptor yX7_get.desc).map (fun d => d.parameters.length) = some 2 := by decide +kernel
theorem hd_X7_most : yX7_most.cls = RX7 ∧ yX7_most.cls ≠ "java/lang/invoke/MethodHandle" ∧ yX7_most.cls ≠ "java/lang/invoke/VarHandle" ∧ (parseMethodDescriptor yX7_most.desc).map (fun d => d.parameters.length) = some 1 := by decide +kernel
theorem hd_X7_could : yX7_could.cls = RX7 ∧ yX7_could.cls ≠ "java/lang/invoke/MethodHandle" ∧ yX7_could.cls ≠ "java/lang/invoke/VarHandle" ∧ (parseMethodDescriptor yX7_could.desc).map (fun d => d.parameters.length) = some 1 := by decide +kernel
theorem hd_X7_odds : yX7_odds.cls = RX7 ∧ yX7_odds.cls ≠ "java/lang/invoke/MethodHandle" ∧ yX7_odds.cls ≠ "java/lang/invoke/VarHandle" ∧ (parseMethodDescriptor yX7_odds.desc).map (fun d => d.parameters.length) = some 3 := by decide +kernel
theorem hd_X7_join : yX7_join.cls = RX7 ∧ yX7_join.cls ≠ "java/lang/invoke/MethodHandle" ∧ yX7_join.cls ≠ "java/lang/invoke/VarHandle" ∧ (parseMethodDescriptor yX7_join.desc).map (fun d => d.parameters.length) = some 1 := by decide +kernel
theorem hd_X7_tells : yX7_tells.cls = RX7 ∧ yX7_tells.cls ≠ "java/lang/invoke/MethodHandle" ∧ yX7_tells.cls ≠ "java/lang/invoke/VarHandle" ∧ (parseMethodDescriptor yX7_tells.desc).map (fun d => d.parameters.length) = some 3 := by decide +kernel
theorem hd_X7_forget : yX7_forget.cls = RX7 ∧ yX7_forget.cls ≠ "java/lang/invoke/MethodHandle" ∧ yX7_forget.cls ≠ "java/lang/invoke/VarHandle" ∧ (parseMethodDescriptor yX7_forget.desc).map (fun d => d.parameters.length) = some 0 := by decide +kernel
theorem hd_X7_fits : yX7_fits.cls = RX7 ∧ yX7_fits.cls ≠ "java/lang/invoke/MethodHandle" ∧ yX7_fits.cls ≠ "java/lang/invoke/VarHandle" ∧ (parseMethodDescriptor yX7_fits.desc).map (fun d => d.parameters.length) = some 0 := by decide +kernel
theorem hd_X7_stop : yX7_stop.cls = RX7 ∧ yX7_stop.cls ≠ "java/lang/invoke/MethodHandle" ∧ yX7_stop.cls ≠ "java/lang/invoke/VarHandle" ∧ (parseMethodDescriptor yX7_stop.desc).map (fun d => d.parameters.length) = some 5 := by decide +kernel
theorem hd_X7_rate : yX7_rate.cls = RX7 ∧ yX7_rate.cls ≠ "java/lang/invoke/MethodHandle" ∧ yX7_rate.cls ≠ "java/lang/invoke/VarHandle" ∧ (parseMethodDescriptor yX7_rate.desc).map (fun d => d.parameters.length) = some 2 := by decide +kernel
theorem hd_X7_keep : yX7_keep.cls = RX7 ∧ yX7_keep.cls ≠ "java/lang/invoke/MethodHandle" ∧ yX7_keep.cls ≠ "java/lang/invoke/VarHandle" ∧ (parseMethodDescriptor yX7_keep.desc).map (fun d => d.parameters.length) = some 1 := by decide +kernel
theorem hd_X7_back : yX7_back.cls = RX7 ∧ yX7_back.cls ≠ "java/lang/invoke/MethodHandle" ∧ yX7_back.cls ≠ "java/lang/invoke/VarHandle" ∧ (parseMethodDescriptor yX7_back.desc).map (fun d => d.parameters.length) = some 1 := by decide +kernel
theorem hd_X7_count : yX7_count.cls = RX7 ∧ yX7_count.cls ≠ "java/lang/invoke/MethodHandle" ∧ yX7_count.cls ≠ "java/lang/invoke/VarHandle" ∧ (parseMethodDescriptor yX7_count.desc).map (fun d => d.parameters.length) = some 1 := by decide +kernel
theorem hd_X7_trace : yX7_trace.cls = RX7 ∧ yX7_trace.cls ≠ "java/lang/invoke/MethodHandle" ∧ yX7_trace.cls ≠ "java/lang/invoke/VarHandle" ∧ (parseMethodDescriptor yX7_trace.desc).map (fun d => d.parameters.length) = some 0 := by decide +kernel
theorem hd_X7_servedOf : yX7_servedOf.cls = RX7 ∧ yX7_servedOf.cls ≠ "java/lang/invoke/MethodHandle" ∧ yX7_servedOf.cls ≠ "java/lang/invoke/VarHandle" ∧ (parseMethodDescriptor yX7_servedOf.desc).map (fun d => d.parameters.length) = some 1 := by decide +kernel
theorem hd_X7_allToldIsSoBy : yX7_allToldIsSoBy.cls = RX7 ∧ yX7_allToldIsSoBy.cls ≠ "java/lang/invoke/MethodHandle" ∧ yX7_allToldIsSoBy.cls ≠ "java/lang/invoke/VarHandle" ∧ (parseMethodDescriptor yX7_allToldIsSoBy.desc).map (fun d => d.parameters.length) = some 1 := by decide +kernel
theorem hd_X7_asHour : yX7_asHour.cls = RX7 ∧ yX7_asHour.cls ≠ "java/lang/invoke/MethodHandle" ∧ yX7_asHour.cls ≠ "java/lang/invoke/VarHandle" ∧ (parseMethodDescriptor yX7_asHour.desc).map (fun d => d.parameters.length) = some 1 := by decide +kernel
theorem hd_X7_asRiver : yX7_asRiver.cls = RX7 ∧ yX7_asRiver.cls ≠ "java/lang/invoke/MethodHandle" ∧ yX7_asRiver.cls ≠ "java/lang/invoke/VarHandle" ∧ (parseMethodDescriptor yX7_asRiver.desc).map (fun d => d.parameters.length) = some 1 := by decide +kernel
theorem hd_X7_asBand : yX7_asBand.cls = RX7 ∧ yX7_asBand.cls ≠ "java/lang/invoke/MethodHandle" ∧ yX7_asBand.cls ≠ "java/lang/invoke/VarHandle" ∧ (parseMethodDescriptor yX7_asBand.desc).map (fun d => d.parameters.length) = some 1 := by decide +kernel
theorem hd_X7_asDentist : yX7_asDentist.cls = RX7 ∧ yX7_asDentist.cls ≠ "java/lang/invoke/MethodHandle" ∧ yX7_asDentist.cls ≠ "java/lang/invoke/VarHandle" ∧ (parseMethodDescriptor yX7_asDentist.desc).map (fun d => d.parameters.length) = some 1 := by decide +kernel
theorem hd_X7_asWidow : yX7_asWidow.cls = RX7 ∧ yX7_asWidow.cls ≠ "java/lang/invoke/MethodHandle" ∧ yX7_asWidow.cls ≠ "java/lang/invoke/VarHandle" ∧ (parseMethodDescriptor yX7_asWidow.desc).map (fun d => d.parameters.length) = some 1 := by decide +kernel
theorem hd_X7_asMinute : yX7_asMinute.cls = RX7 ∧ yX7_asMinute.cls ≠ "java/lang/invoke/MethodHandle" ∧ yX7_asMinute.cls ≠ "java/lang/invoke/VarHandle" ∧ (parseMethodDescriptor yX7_asMinute.desc).map (fun d => d.parameters.length) = some 1 := by decide +kernel
theorem hd_X7_within : yX7_within.cls = RX7 ∧ yX7_within.cls ≠ "java/lang/invoke/MethodHandle" ∧ yX7_within.cls ≠ "java/lang/invoke/VarHandle" ∧ (parseMethodDescriptor yX7_within.desc).map (fun d => d.parameters.length) = some 3 := by decide +kernel
theorem hd_X7_holds : yX7_holds.cls = RX7 ∧ yX7_holds.cls ≠ "java/lang/invoke/MethodHandle" ∧ yX7_holds.cls ≠ "java/lang/invoke/VarHandle" ∧ (parseMethodDescriptor yX7_holds.desc).map (fun d => d.parameters.length) = some 2 := by decide +kernel
theorem hd_X7_isWithin : yX7_isWithin.cls = RX7 ∧ yX7_isWithin.cls ≠ "java/lang/invoke/MethodHandle" ∧ yX7_isWithin.cls ≠ "java/lang/invoke/VarHandle" ∧ (parseMethodDescriptor yX7_isWithin.desc).map (fun d => d.parameters.length) = some 2 := by decide +kernel
theorem hd_X7_isSetOf : yX7_isSetOf.cls = RX7 ∧ yX7_isSetOf.cls ≠ "java/lang/invoke/MethodHandle" ∧ yX7_isSetOf.cls ≠ "java/lang/invoke/VarHandle" ∧ (parseMethodDescriptor yX7_isSetOf.desc).map (fun d => d.parameters.length) = some 2 := by decide +kernel
theorem hd_X7_power : yX7_power.cls = RX7 ∧ yX7_power.cls ≠ "java/lang/invoke/MethodHandle" ∧ yX7_power.cls ≠ "java/lang/invoke/VarHandle" ∧ (parseMethodDescriptor yX7_power.desc).map (fun d => d.parameters.length) = some 2 := by decide +kernel
theorem hd_X7_part : yX7_part.cls = RX7 ∧ yX7_part.cls ≠ "java/lang/invoke/MethodHandle" ∧ yX7_part.cls ≠ "java/lang/invoke/VarHandle" ∧ (parseMethodDescriptor yX7_part.desc).map (fun d => d.parameters.length) = some 3 := by decide +kernel
theorem hd_X7_greatestDivisor : yX7_greatestDivisor.cls = RX7 ∧ yX7_greatestDivisor.cls ≠ "java/lang/invoke/MethodHandle" ∧ yX7_greatestDivisor.cls ≠ "java/lang/invoke/VarHandle" ∧ (parseMethodDescriptor yX7_greatestDivisor.desc).map (fun d => d.parameters.length) = some 2 := by decide +kernel
theorem hd_X8_in : yX8_in.cls = RX8 ∧ yX8_in.cls ≠ "java/lang/invoke/MethodHandle" ∧ yX8_in.cls ≠ "java/lang/invoke/VarHandle" ∧ (parseMethodDescriptor yX8_in.desc).map (fun d => d.parameters.length) = some 3 := by decide +kernel
theorem hd_X8_has : yX8_has.cls = RX8 ∧ yX8_has.cls ≠ "java/lang/invoke/MethodHandle" ∧ yX8_has.cls ≠ "java/lang/invoke/VarHandle" ∧ (parseMethodDescriptor yX8_has.desc).map (fun d => d.parameters.length) = some 2 := by decide +kernel
theorem hd_X8_bits : yX8_bits.cls = RX8 ∧ yX8_bits.cls ≠ "java/lang/invoke/MethodHandle" ∧ yX8_bits.cls ≠ "java/lang/invoke/VarHandle" ∧ (parseMethodDescriptor yX8_bits.desc).map (fun d => d.parameters.length) = some 1 := by decide +kernel
theorem hd_X8_isPerson : yX8_isPerson.cls = RX8 ∧ yX8_isPerson.cls ≠ "java/lang/invoke/MethodHandle" ∧ yX8_isPerson.cls ≠ "java/lang/invoke/VarHandle" ∧ (parseMethodDescriptor yX8_isPerson.desc).map (fun d => d.parameters.length) = some 1 := by decide +kernel
theorem hd_X8_copy : yX8_copy.cls = RX8 ∧ yX8_copy.cls ≠ "java/lang/invoke/MethodHandle" ∧ yX8_copy.cls ≠ "java/lang/invoke/VarHandle" ∧ (parseMethodDescriptor yX8_copy.desc).map (fun d => d.parameters.length) = some 4 := by decide +kernel
theorem hd_X8_type : yX8_type.cls = RX8 ∧ yX8_type.cls ≠ "java/lang/invoke/MethodHandle" ∧ yX8_type.cls ≠ "java/lang/invoke/VarHandle" ∧ (parseMethodDescriptor yX8_type.desc).map (fun d => d.parameters.length) = some 1 := by decide +kernel
theorem hd_X8_clear : yX8_clear.cls = RX8 ∧ yX8_clear.cls ≠ "java/lang/invoke/MethodHandle" ∧ yX8_clear.cls ≠ "java/lang/invoke/VarHandle" ∧ (parseMethodDescriptor yX8_clear.desc).map (fun d => d.parameters.length) = some 0 := by decide +kernel
theorem hd_X8_letterAt : yX8_letterAt.cls = RX8 ∧ yX8_letterAt.cls ≠ "java/lang/invoke/MethodHandle" ∧ yX8_letterAt.cls ≠ "java/lang/invoke/VarHandle" ∧ (parseMethodDescriptor yX8_letterAt.desc).map (fun d => d.parameters.length) = some 1 := by decide +kernel
theorem hd_X8_isFigure : yX8_isFigure.cls = RX8 ∧ yX8_isFigure.cls ≠ "java/lang/invoke/MethodHandle" ∧ yX8_isFigure.cls ≠ "java/lang/invoke/VarHandle" ∧ (parseMethodDescriptor yX8_isFigure.desc).map (fun d => d.parameters.length) = some 1 := by decide +kernel
theorem hd_X8_next : yX8_next.cls = RX8 ∧ yX8_next.cls ≠ "java/lang/invoke/MethodHandle" ∧ yX8_next.cls ≠ "java/lang/invoke/VarHandle" ∧ (parseMethodDescriptor yX8_next.desc).map (fun d => d.parameters.length) = some 0 := by decide +kernel
theorem hd_X8_takesNumber : yX8_takesNumber.cls = RX8 ∧ yX8_takesNumber.cls ≠ "java/lang/invoke/MethodHandle" ∧ yX8_takesNumber.cls ≠ "java/lang/invoke/VarHandle" ∧ (parseMethodDescriptor yX8_takesNumber.desc).map (fun d => d.parameters.length) = some 2 := by decide +kernel
theorem hd_X8_readPerson : yX8_readPerson.cls = RX8 ∧ yX8_readPerson.cls ≠ "java/lang/invoke/MethodHandle" ∧ yX8_readPerson.cls ≠ "java/lang/invoke/VarHandle" ∧ (parseMethodDescriptor yX8_readPerson.desc).map (fun d => d.parameters.length) = some 0 := by decide +kernel
theorem hd_X8_readWants : yX8_readWants.cls = RX8 ∧ yX8_readWants.cls ≠ "java/lang/invoke/MethodHandle" ∧ yX8_readWants.cls ≠ "java/lang/invoke/VarHandle" ∧ (parseMethodDescriptor yX8_readWants.desc).map (fun d => d.parameters.length) = some 0 := by decide +kernel
theorem hd_X8_readItem : yX8_readItem.cls = RX8 ∧ yX8_readItem.cls ≠ "java/lang/invoke/MethodHandle" ∧ yX8_readItem.cls ≠ "java/lang/invoke/VarHandle" ∧ (parseMethodDescriptor yX8_readItem.desc).map (fun d => d.parameters.length) = some 0 := by decide +kernel
theorem hd_X8_house : yX8_house.cls = RX8 ∧ yX8_house.cls ≠ "java/lang/invoke/MethodHandle" ∧ yX8_house.cls ≠ "java/lang/invoke/VarHandle" ∧ (parseMethodDescriptor yX8_house.desc).map (fun d => d.parameters.length) = some 0 := by decide +kernel
theorem hd_X8_settles : yX8_settles.cls = RX8 ∧ yX8_settles.cls ≠ "java/lang/invoke/MethodHandle" ∧ yX8_settles.cls ≠ "java/lang/invoke/VarHandle" ∧ (parseMethodDescriptor yX8_settles.desc).map (fun d => d.parameters.length) = some 0 := by decide +kernel
theorem hd_X8_asItIs : yX8_asItIs.cls = RX8 ∧ yX8_asItIs.cls ≠ "java/lang/invoke/MethodHandle" ∧ yX8_asItIs.cls ≠ "java/lang/invoke/VarHandle" ∧ (parseMethodDescriptor yX8_asItIs.desc).map (fun d => d.parameters.length) = some 0 := by decide +kernel
theorem hd_X8_whoGave : yX8_whoGave.cls = RX8 ∧ yX8_whoGave.cls ≠ "java/lang/invoke/MethodHandle" ∧ yX8_whoGave.cls ≠ "java/lang/invoke/VarHandle" ∧ (parseMethodDescriptor yX8_whoGave.desc).map (fun d => d.parameters.length) = some 2 := by decide +kernel
theorem hd_X8_behind : yX8_behind.cls = RX8 ∧ yX8_behind.cls ≠ "java/lang/invoke/MethodHandle" ∧ yX8_behind.cls ≠ "java/lang/invoke/VarHandle" ∧ (parseMethodDescriptor yX8_behind.desc).map (fun d => d.parameters.length) = some 3 := by decide +kernel
theorem hd_X8_pointsAt : yX8_pointsAt.cls = RX8 ∧ yX8_pointsAt.cls ≠ "java/lang/invoke/MethodHandle" ∧ yX8_pointsAt.cls ≠ "java/lang/invoke/VarHandle" ∧ (parseMethodDescriptor yX8_pointsAt.desc).map (fun d => d.parameters.length) = some 3 := by decide +kernel
theorem hd_X8_isLump : yX8_isLump.cls = RX8 ∧ yX8_isLump.cls ≠ "java/lang/invoke/MethodHandle" ∧ yX8_isLump.cls ≠ "java/lang/invoke/VarHandle" ∧ (parseMethodDescriptor yX8_isLump.desc).map (fun d => d.parameters.length) = some 1 := by decide +kernel
theorem hd_X8_ringOf : yX8_ringOf.cls = RX8 ∧ yX8_ringOf.cls ≠ "java/lang/invoke/MethodHandle" ∧ yX8_ringOf.cls ≠ "java/lang/invoke/VarHandle" ∧ (parseMethodDescriptor yX8_ringOf.desc).map (fun d => d.parameters.length) = some 1 := by decide +kernel
theorem hd_X8_goesBy : yX8_goesBy.cls = RX8 ∧ yX8_goesBy.cls ≠ "java/lang/invoke/MethodHandle" ∧ yX8_goesBy.cls ≠ "java/lang/invoke/VarHandle" ∧ (parseMethodDescriptor yX8_goesBy.desc).map (fun d => d.parameters.length) = some 2 := by decide +kernel
theorem hd_X8_able : yX8_able.cls = RX8 ∧ yX8_able.cls ≠ "java/lang/invoke/MethodHandle" ∧ yX8_able.cls ≠ "java/lang/invoke/VarHandle" ∧ (parseMethodDescriptor yX8_able.desc).map (fun d => d.parameters.length) = some 0 := by decide +kernel
theorem hd_X8_all : yX8_all.cls = RX8 ∧ yX8_all.cls ≠ "java/lang/invoke/MethodHandle" ∧ yX8_all.cls ≠ "java/lang/invoke/VarHandle" ∧ (parseMethodDescriptor yX8_all.desc).map (fun d => d.parameters.length) = some 0 := by decide +kernel
theorem hd_X8_person : yX8_person.cls = RX8 ∧ yX8_person.cls ≠ "java/lang/invoke/MethodHandle" ∧ yX8_person.cls ≠ "java/lang/invoke/VarHandle" ∧ (parseMethodDescriptor yX8_person.desc).map (fun d => d.parameters.length) = some 2 := by decide +kernel
theorem hd_X8_wants : yX8_wants.cls = RX8 ∧ yX8_wants.cls ≠ "java/lang/invoke/MethodHandle" ∧ yX8_wants.cls ≠ "java/lang/invoke/VarHandle" ∧ (parseMethodDescriptor yX8_wants.desc).map (fun d => d.parameters.length) = some 2 := by decide +kernel
theorem hd_X8_bit : yX8_bit.cls = RX8 ∧ yX8_bit.cls ≠ "java/lang/invoke/MethodHandle" ∧ yX8_bit.cls ≠ "java/lang/invoke/VarHandle" ∧ (parseMethodDescriptor yX8_bit.desc).map (fun d => d.parameters.length) = some 1 := by decide +kernel
theorem hd_X8_now : yX8_now.cls = RX8 ∧ yX8_now.cls ≠ "java/lang/invoke/MethodHandle" ∧ yX8_now.cls ≠ "java/lang/invoke/VarHandle" ∧ (parseMethodDescriptor yX8_now.desc).map (fun d => d.parameters.length) = some 1 := by decide +kernel
theorem hd_X8_remembers : yX8_remembers.cls = RX8 ∧ yX8_remembers.cls ≠ "java/lang/invoke/MethodHandle" ∧ yX8_remembers.cls ≠ "java/lang/invoke/VarHandle" ∧ (parseMethodDescriptor yX8_remembers.desc).map (fun d => d.parameters.length) = some 0 := by decide +kernel
theorem hd_X8_gives : yX8_gives.cls = RX8 ∧ yX8_gives.cls ≠ "java/lang/invoke/MethodHandle" ∧ yX8_gives.cls ≠ "java/lang/invoke/VarHandle" ∧ (parseMethodDescriptor yX8_gives.desc).map (fun d => d.parameters.length) = some 1 := by decide +kernel
theorem hd_X8_takes : yX8_takes.cls = RX8 ∧ yX8_takes.cls ≠ "java/lang/invoke/MethodHandle" ∧ yX8_takes.cls ≠ "java/lang/invoke/VarHandle" ∧ (parseMethodDescriptor yX8_takes.desc).map (fun d => d.parameters.length) = some 1 := by decide +kernel
theorem hd_X8_night : yX8_night.cls = RX8 ∧ yX8_night.cls ≠ "java/lang/invoke/MethodHandle" ∧ yX8_night.cls ≠ "java/lang/invoke/VarHandle" ∧ (parseMethodDescriptor yX8_night.desc).map (fun d => d.parameters.length) = some 0 := by decide +kernel
theorem hd_X8_sumOf : yX8_sumOf.cls = RX8 ∧ yX8_sumOf.cls ≠ "java/lang/invoke/MethodHandle" ∧ yX8_sumOf.cls ≠ "java/lang/invoke/VarHandle" ∧ (parseMethodDescriptor yX8_sumOf.desc).map (fun d => d.parameters.length) = some 1 := by decide +kernel
theorem hd_X8_joins : yX8_joins.cls = RX8 ∧ yX8_joins.cls ≠ "java/lang/invoke/MethodHandle" ∧ yX8_joins.cls ≠ "java/lang/invoke/VarHandle" ∧ (parseMethodDescriptor yX8_joins.desc).map (fun d => d.parameters.length) = some 1 := by decide +kernel
theorem hd_X8_laws : yX8_laws.cls = RX8 ∧ yX8_laws.cls ≠ "java/lang/invoke/MethodHandle" ∧ yX8_laws.cls ≠ "java/lang/invoke/VarHandle" ∧ (parseMethodDescriptor yX8_laws.desc).map (fun d => d.parameters.length) = some 1 := by decide +kernel
theorem hd_X8_undo : yX8_undo.cls = RX8 ∧ yX8_undo.cls ≠ "java/lang/invoke/MethodHandle" ∧ yX8_undo.cls ≠ "java/lang/invoke/VarHandle" ∧ (parseMethodDescriptor yX8_undo.desc).map (fun d => d.parameters.length) = some 0 := by decide +kernel
theorem hd_X8_would : yX8_would.cls = RX8 ∧ yX8_would.cls ≠ "java/lang/invoke/MethodHandle" ∧ yX8_would.cls ≠ "java/lang/invoke/VarHandle" ∧ (parseMethodDescriptor yX8_would.desc).map (fun d => d.parameters.length) = some 1 := by decide +kernel
theorem hd_X8_served : yX8_served.cls = RX8 ∧ yX8_served.cls ≠ "java/lang/invoke/MethodHandle" ∧ yX8_served.cls ≠ "java/lang/invoke/VarHandle" ∧ (parseMethodDescriptor yX8_served.desc).map (fun d => d.parameters.length) = some 1 := by decide +kernel
theorem hd_X8_get : yX8_get.cls = RX8 ∧ yX8_get.cls ≠ "java/lang/invoke/MethodHandle" ∧ yX8_get.cls ≠ "java/lang/invoke/VarHandle" ∧ (parseMethodDescriptor yX8_get.desc).map (fun d => d.parameters.length) = some 2 := by decide +kernel
theorem hd_X8_most : yX8_most.cls = RX8 ∧ yX8_most.cls ≠ "java/lang/invoke/MethodHandle" ∧ yX8_most.cls ≠ "java/lang/invoke/VarHandle" ∧ (parseMethodDescriptor yX8_most.desc).map (fun d => d.parameters.length) = some 1 := by decide +kernel
theorem hd_X8_isWanted : yX8_isWanted.cls = RX8 ∧ yX8_isWanted.cls ≠ "java/lang/invoke/MethodHandle" ∧ yX8_isWanted.cls ≠ "java/lang/invoke/VarHandle" ∧ (parseMethodDescriptor yX8_isWanted.desc).map (fun d => d.parameters.length) = some 2 := by decide +kernel
theorem hd_X8_wayOf : yX8_wayOf.cls = RX8 ∧ yX8_wayOf.cls ≠ "java/lang/invoke/MethodHandle" ∧ yX8_wayOf.cls ≠ "java/lang/invoke/VarHandle" ∧ (parseMethodDescriptor yX8_wayOf.desc).map (fun d => d.parameters.length) = some 2 := by decide +kernel
theorem hd_X8_could : yX8_could.cls = RX8 ∧ yX8_could.cls ≠ "java/lang/invoke/MethodHandle" ∧ yX8_could.cls ≠ "java/lang/invoke/VarHandle" ∧ (parseMethodDescriptor yX8_could.desc).map (fun d => d.parameters.length) = some 1 := by decide +kernel
theorem hd_X8_lowest : yX8_lowest.cls = RX8 ∧ yX8_lowest.cls ≠ "java/lang/invoke/MethodHandle" ∧ yX8_lowest.cls ≠ "java/lang/invoke/VarHandle" ∧ (parseMethodDescriptor yX8_lowest.desc).map (fun d => d.parameters.length) = some 3 := by decide +kernel
theorem hd_X8_odds : yX8_odds.cls = RX8 ∧ yX8_odds.cls ≠ "java/lang/invoke/MethodHandle" ∧ yX8_odds.cls ≠ "java/lang/invoke/VarHandle" ∧ (parseMethodDescriptor yX8_odds.desc).map (fun d => d.parameters.length) = some 3 := by decide +kernel
theorem hd_X8_hours : yX8_hours.cls = RX8 ∧ yX8_hours.cls ≠ "java/lang/invoke/MethodHandle" ∧ yX8_hours.cls ≠ "java/lang/invoke/VarHandle" ∧ (parseMethodDescriptor yX8_hours.desc).map (fun d => d.parameters.length) = some 0 := by decide +kernel
theorem hd_X8_join : yX8_join.cls = RX8 ∧ yX8_join.cls ≠ "java/lang/invoke/MethodHandle" ∧ yX8_join.cls ≠ "java/lang/invoke/VarHandle" ∧ (parseMethodDescriptor yX8_join.desc).map (fun d => d.parameters.length) = some 1 := by decide +kernel
theorem hd_X8_tells : yX8_tells.cls = RX8 ∧ yX8_tells.cls ≠ "java/lang/invoke/MethodHandle" ∧ yX8_tells.cls ≠ "java/lang/invoke/VarHandle" ∧ (parseMethodDescriptor yX8_tells.desc).map (fun d => d.parameters.length) = some 3 := by decide +kernel
theorem hd_X8_forget : yX8_forget.cls = RX8 ∧ yX8_forget.cls ≠ "java/lang/invoke/MethodHandle" ∧ yX8_forget.cls ≠ "java/lang/invoke/VarHandle" ∧ (parseMethodDescriptor yX8_forget.desc).map (fun d => d.parameters.length) = some 0 := by decide +kernel
theorem hd_X8_isSo : yX8_isSo.cls = RX8 ∧ yX8_isSo.cls ≠ "java/lang/invoke/MethodHandle" ∧ yX8_isSo.cls ≠ "java/lang/invoke/VarHandle" ∧ (parseMethodDescriptor yX8_isSo.desc).map (fun d => d.parameters.length) = some 2 := by decide +kernel
theorem hd_X8_fits : yX8_fits.cls = RX8 ∧ yX8_fits.cls ≠ "java/lang/invoke/MethodHandle" ∧ yX8_fits.cls ≠ "java/lang/invoke/VarHandle" ∧ (parseMethodDescriptor yX8_fits.desc).map (fun d => d.parameters.length) = some 0 := by decide +kernel
theorem hd_X8_stop : yX8_stop.cls = RX8 ∧ yX8_stop.cls ≠ "java/lang/invoke/MethodHandle" ∧ yX8_stop.cls ≠ "java/lang/invoke/VarHandle" ∧ (parseMethodDescriptor yX8_stop.desc).map (fun d => d.parameters.length) = some 5 := by decide +kernel
theorem hd_X8_wantedBy : yX8_wantedBy.cls = RX8 ∧ yX8_wantedBy.cls ≠ "java/lang/invoke/MethodHandle" ∧ yX8_wantedBy.cls ≠ "java/lang/invoke/VarHandle" ∧ (parseMethodDescriptor yX8_wantedBy.desc).map (fun d => d.parameters.length) = some 1 := by decide +kernel
theorem hd_X8_whoHas : yX8_whoHas.cls = RX8 ∧ yX8_whoHas.cls ≠ "java/lang/invoke/MethodHandle" ∧ yX8_whoHas.cls ≠ "java/lang/invoke/VarHandle" ∧ (parseMethodDescriptor yX8_whoHas.desc).map (fun d => d.parameters.length) = some 1 := by decide +kernel
theorem hd_X8_rate : yX8_rate.cls = RX8 ∧ yX8_rate.cls ≠ "java/lang/invoke/MethodHandle" ∧ yX8_rate.cls ≠ "java/lang/invoke/VarHandle" ∧ (parseMethodDescriptor yX8_rate.desc).map (fun d => d.parameters.length) = some 2 := by decide +kernel
theorem hd_X8_keep : yX8_keep.cls = RX8 ∧ yX8_keep.cls ≠ "java/lang/invoke/MethodHandle" ∧ yX8_keep.cls ≠ "java/lang/invoke/VarHandle" ∧ (parseMethodDescriptor yX8_keep.desc).map (fun d => d.parameters.length) = some 1 := by decide +kernel
theorem hd_X8_back : yX8_back.cls = RX8 ∧ yX8_back.cls ≠ "java/lang/invoke/MethodHandle" ∧ yX8_back.cls ≠ "java/lang/invoke/VarHandle" ∧ (parseMethodDescriptor yX8_back.desc).map (fun d => d.parameters.length) = some 1 := by decide +kernel
theorem hd_X8_count : yX8_count.cls = RX8 ∧ yX8_count.cls ≠ "java/lang/invoke/MethodHandle" ∧ yX8_count.cls ≠ "java/lang/invoke/VarHandle" ∧ (parseMethodDescriptor yX8_count.desc).map (fun d => d.parameters.length) = some 1 := by decide +kernel
theorem hd_X8_trace : yX8_trace.cls = RX8 ∧ yX8_trace.cls ≠ "java/lang/invoke/MethodHandle" ∧ yX8_trace.cls ≠ "java/lang/invoke/VarHandle" ∧ (parseMethodDescriptor yX8_trace.desc).map (fun d => d.parameters.length) = some 0 := by decide +kernel
theorem hd_J6_bitCount_0f7a4 : yJ6_bitCount_0f7a4.cls = RJ6 ∧ yJ6_bitCount_0f7a4.cls ≠ "java/lang/invoke/MethodHandle" ∧ yJ6_bitCount_0f7a4.cls ≠ "java/lang/invoke/VarHandle" ∧ (parseMethodDescriptor yJ6_bitCount_0f7a4.desc).map (fun d => d.parameters.length) = some 1 := by decide +kernel
theorem hd_J9_abs_0f7a4 : yJ9_abs_0f7a4.cls = RJ9 ∧ yJ9_abs_0f7a4.cls ≠ "java/lang/invoke/MethodHandle" ∧ yJ9_abs_0f7a4.cls ≠ "java/lang/invoke/VarHandle" ∧ (parseMethodDescriptor yJ9_abs_0f7a4.desc).map (fun d => d.parameters.length) = some 1 := by decide +kernel
theorem hd_J9_max_7cf53 : yJ9_max_7cf53.cls = RJ9 ∧ yJ9_max_7cf53.cls ≠ "java/lang/invoke/MethodHandle" ∧ yJ9_max_7cf53.cls ≠ "java/lang/invoke/VarHandle" ∧ (parseMethodDescriptor yJ9_max_7cf53.desc).map (fun d => d.parameters.length) = some 2 := by decide +kernel
theorem hd_J9_min_7cf53 : yJ9_min_7cf53.cls = RJ9 ∧ yJ9_min_7cf53.cls ≠ "java/lang/invoke/MethodHandle" ∧ yJ9_min_7cf53.cls ≠ "java/lang/invoke/VarHandle" ∧ (parseMethodDescriptor yJ9_min_7cf53.desc).map (fun d => d.parameters.length) = some 2 := by decide +kernel
