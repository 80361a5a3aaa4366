-- ===== PART A: goes FIRST, ahead of the names: the tables' words, and 'selects' of the private methods out of them =====
/-- a private method of a class that the tables say can be made, by its rows of tables_1 -/
def lw_okq (q : MethodName × Nat) : Prop := (q.1.cls ≠ "java/lang/invoke/MethodHandle" ∧ q.1.cls ≠ "java/lang/invoke/VarHandle") ∧ Cond.instantiable q.1.cls q.2 ∈ tables_1 ∧ Cond.privateMethod q.1 ∈ tables_1 ∧ Cond.instanceMethod q.1 ∈ tables_1
theorem lw_p0 : lw_okq (⟨"StormLoft$Tape", "put", "(I)V"⟩, 9) := ⟨⟨by decide +kernel, by decide +kernel⟩, List.mem_of_getElem? (i := 33) (by decide +kernel), List.mem_of_getElem? (i := 486) (by decide +kernel), List.mem_of_getElem? (i := 487) (by decide +kernel)⟩
theorem lw_p1 : lw_okq (⟨"StormLoft", "pathOf", "(I)LStormLoft$Path;"⟩, 12) := ⟨⟨by decide +kernel, by decide +kernel⟩, List.mem_of_getElem? (i := 25) (by decide +kernel), List.mem_of_getElem? (i := 564) (by decide +kernel), List.mem_of_getElem? (i := 565) (by decide +kernel)⟩
theorem lw_p2 : lw_okq (⟨"StormLoft$Fall", "hear", "(III)V"⟩, 8) := ⟨⟨by decide +kernel, by decide +kernel⟩, List.mem_of_getElem? (i := 246) (by decide +kernel), List.mem_of_getElem? (i := 596) (by decide +kernel), List.mem_of_getElem? (i := 597) (by decide +kernel)⟩
theorem lw_p3 : lw_okq (⟨"StormLoft$Path", "leadsTo", "(II)I"⟩, 4) := ⟨⟨by decide +kernel, by decide +kernel⟩, List.mem_of_getElem? (i := 420) (by decide +kernel), List.mem_of_getElem? (i := 604) (by decide +kernel), List.mem_of_getElem? (i := 605) (by decide +kernel)⟩
theorem lw_p4 : lw_okq (⟨"StormLoft", "canStand", "(III)Z"⟩, 12) := ⟨⟨by decide +kernel, by decide +kernel⟩, List.mem_of_getElem? (i := 25) (by decide +kernel), List.mem_of_getElem? (i := 622) (by decide +kernel), List.mem_of_getElem? (i := 623) (by decide +kernel)⟩
theorem lw_p5 : lw_okq (⟨"StormLoft$Reader", "begin", "(LStormLoft$Tape;)V"⟩, 12) := ⟨⟨by decide +kernel, by decide +kernel⟩, List.mem_of_getElem? (i := 169) (by decide +kernel), List.mem_of_getElem? (i := 646) (by decide +kernel), List.mem_of_getElem? (i := 647) (by decide +kernel)⟩
theorem lw_p6 : lw_okq (⟨"StormLoft$Tape", "readLettersAndDigits", "()V"⟩, 9) := ⟨⟨by decide +kernel, by decide +kernel⟩, List.mem_of_getElem? (i := 33) (by decide +kernel), List.mem_of_getElem? (i := 667) (by decide +kernel), List.mem_of_getElem? (i := 668) (by decide +kernel)⟩
theorem lw_p7 : lw_okq (⟨"StormLoft$Reader", "readUse", "(LStormLoft$Tape;LStormLoft$Machines;)V"⟩, 12) := ⟨⟨by decide +kernel, by decide +kernel⟩, List.mem_of_getElem? (i := 169) (by decide +kernel), List.mem_of_getElem? (i := 730) (by decide +kernel), List.mem_of_getElem? (i := 731) (by decide +kernel)⟩
theorem lw_p8 : lw_okq (⟨"StormLoft$Reader", "readNumber", "(LStormLoft$Tape;II)I"⟩, 12) := ⟨⟨by decide +kernel, by decide +kernel⟩, List.mem_of_getElem? (i := 169) (by decide +kernel), List.mem_of_getElem? (i := 734) (by decide +kernel), List.mem_of_getElem? (i := 735) (by decide +kernel)⟩
theorem lw_p9 : lw_okq (⟨"StormLoft$Reader", "fail", "(II)V"⟩, 12) := ⟨⟨by decide +kernel, by decide +kernel⟩, List.mem_of_getElem? (i := 169) (by decide +kernel), List.mem_of_getElem? (i := 738) (by decide +kernel), List.mem_of_getElem? (i := 739) (by decide +kernel)⟩
theorem lw_p10 : lw_okq (⟨"StormLoft$Reader", "readWord", "(LStormLoft$Tape;Ljava/lang/String;)V"⟩, 12) := ⟨⟨by decide +kernel, by decide +kernel⟩, List.mem_of_getElem? (i := 169) (by decide +kernel), List.mem_of_getElem? (i := 743) (by decide +kernel), List.mem_of_getElem? (i := 744) (by decide +kernel)⟩
theorem lw_p11 : lw_okq (⟨"StormLoft$Machines", "is", "(I)Z"⟩, 5) := ⟨⟨by decide +kernel, by decide +kernel⟩, List.mem_of_getElem? (i := 80) (by decide +kernel), List.mem_of_getElem? (i := 756) (by decide +kernel), List.mem_of_getElem? (i := 757) (by decide +kernel)⟩
theorem lw_p12 : lw_okq (⟨"StormLoft$Reader", "readSemicolon", "(LStormLoft$Tape;)V"⟩, 12) := ⟨⟨by decide +kernel, by decide +kernel⟩, List.mem_of_getElem? (i := 169) (by decide +kernel), List.mem_of_getElem? (i := 764) (by decide +kernel), List.mem_of_getElem? (i := 765) (by decide +kernel)⟩
theorem lw_p13 : lw_okq (⟨"StormLoft$Reader", "readTimes", "(LStormLoft$Tape;)V"⟩, 12) := ⟨⟨by decide +kernel, by decide +kernel⟩, List.mem_of_getElem? (i := 169) (by decide +kernel), List.mem_of_getElem? (i := 773) (by decide +kernel), List.mem_of_getElem? (i := 774) (by decide +kernel)⟩
theorem lw_p14 : lw_okq (⟨"StormLoft$Reader", "readPlay", "(LStormLoft$Tape;)V"⟩, 12) := ⟨⟨by decide +kernel, by decide +kernel⟩, List.mem_of_getElem? (i := 169) (by decide +kernel), List.mem_of_getElem? (i := 779) (by decide +kernel), List.mem_of_getElem? (i := 780) (by decide +kernel)⟩
theorem lw_p15 : lw_okq (⟨"StormLoft$Reader", "findStorm", "(LStormLoft$Tape;)I"⟩, 12) := ⟨⟨by decide +kernel, by decide +kernel⟩, List.mem_of_getElem? (i := 169) (by decide +kernel), List.mem_of_getElem? (i := 783) (by decide +kernel), List.mem_of_getElem? (i := 784) (by decide +kernel)⟩
def lw_privs_1 : List (MethodName × Nat) := [(⟨"StormLoft$Tape", "put", "(I)V"⟩, 9), (⟨"StormLoft", "pathOf", "(I)LStormLoft$Path;"⟩, 12), (⟨"StormLoft$Fall", "hear", "(III)V"⟩, 8), (⟨"StormLoft$Path", "leadsTo", "(II)I"⟩, 4), (⟨"StormLoft", "canStand", "(III)Z"⟩, 12), (⟨"StormLoft$Reader", "begin", "(LStormLoft$Tape;)V"⟩, 12), (⟨"StormLoft$Tape", "readLettersAndDigits", "()V"⟩, 9), (⟨"StormLoft$Reader", "readUse", "(LStormLoft$Tape;LStormLoft$Machines;)V"⟩, 12), (⟨"StormLoft$Reader", "readNumber", "(LStormLoft$Tape;II)I"⟩, 12), (⟨"StormLoft$Reader", "fail", "(II)V"⟩, 12), (⟨"StormLoft$Reader", "readWord", "(LStormLoft$Tape;Ljava/lang/String;)V"⟩, 12), (⟨"StormLoft$Machines", "is", "(I)Z"⟩, 5), (⟨"StormLoft$Reader", "readSemicolon", "(LStormLoft$Tape;)V"⟩, 12), (⟨"StormLoft$Reader", "readTimes", "(LStormLoft$Tape;)V"⟩, 12), (⟨"StormLoft$Reader", "readPlay", "(LStormLoft$Tape;)V"⟩, 12), (⟨"StormLoft$Reader", "findStorm", "(LStormLoft$Tape;)I"⟩, 12)]
theorem lw_r1 : ∀ q ∈ lw_privs_1, lw_okq q := List.forall_mem_cons.mpr ⟨lw_p0, List.forall_mem_cons.mpr ⟨lw_p1, List.forall_mem_cons.mpr ⟨lw_p2, List.forall_mem_cons.mpr ⟨lw_p3, List.forall_mem_cons.mpr ⟨lw_p4, List.forall_mem_cons.mpr ⟨lw_p5, List.forall_mem_cons.mpr ⟨lw_p6, List.forall_mem_cons.mpr ⟨lw_p7, List.forall_mem_cons.mpr ⟨lw_p8, List.forall_mem_cons.mpr ⟨lw_p9, List.forall_mem_cons.mpr ⟨lw_p10, List.forall_mem_cons.mpr ⟨lw_p11, List.forall_mem_cons.mpr ⟨lw_p12, List.forall_mem_cons.mpr ⟨lw_p13, List.forall_mem_cons.mpr ⟨lw_p14, List.forall_mem_cons.mpr ⟨lw_p15, fun _ h => absurd h List.not_mem_nil⟩⟩⟩⟩⟩⟩⟩⟩⟩⟩⟩⟩⟩⟩⟩⟩
theorem lw_p16 : lw_okq (⟨"StormLoft$Reader", "stormAt", "(I)LStormLoft$Plan;"⟩, 12) := ⟨⟨by decide +kernel, by decide +kernel⟩, List.mem_of_getElem? (i := 169) (by decide +kernel), List.mem_of_getElem? (i := 796) (by decide +kernel), List.mem_of_getElem? (i := 797) (by decide +kernel)⟩
theorem lw_p17 : lw_okq (⟨"StormLoft$Plan", "is", "(I)Z"⟩, 5) := ⟨⟨by decide +kernel, by decide +kernel⟩, List.mem_of_getElem? (i := 175) (by decide +kernel), List.mem_of_getElem? (i := 808) (by decide +kernel), List.mem_of_getElem? (i := 809) (by decide +kernel)⟩
theorem lw_p18 : lw_okq (⟨"StormLoft$Reader", "readStorm", "(LStormLoft$Tape;)V"⟩, 12) := ⟨⟨by decide +kernel, by decide +kernel⟩, List.mem_of_getElem? (i := 169) (by decide +kernel), List.mem_of_getElem? (i := 821) (by decide +kernel), List.mem_of_getElem? (i := 822) (by decide +kernel)⟩
theorem lw_p19 : lw_okq (⟨"StormLoft$Reader", "close", "(LStormLoft$Tape;)V"⟩, 12) := ⟨⟨by decide +kernel, by decide +kernel⟩, List.mem_of_getElem? (i := 169) (by decide +kernel), List.mem_of_getElem? (i := 825) (by decide +kernel), List.mem_of_getElem? (i := 826) (by decide +kernel)⟩
theorem lw_p20 : lw_okq (⟨"StormLoft$Plan", "sink", "(I)V"⟩, 5) := ⟨⟨by decide +kernel, by decide +kernel⟩, List.mem_of_getElem? (i := 175) (by decide +kernel), List.mem_of_getElem? (i := 844) (by decide +kernel), List.mem_of_getElem? (i := 845) (by decide +kernel)⟩
theorem lw_p21 : lw_okq (⟨"StormLoft$Night", "rollAll", "([LStormLoft$Path;)V"⟩, 13) := ⟨⟨by decide +kernel, by decide +kernel⟩, List.mem_of_getElem? (i := 314) (by decide +kernel), List.mem_of_getElem? (i := 866) (by decide +kernel), List.mem_of_getElem? (i := 867) (by decide +kernel)⟩
theorem lw_p22 : lw_okq (⟨"StormLoft$Night", "roll", "(LStormLoft$Ball;LStormLoft$Path;)V"⟩, 13) := ⟨⟨by decide +kernel, by decide +kernel⟩, List.mem_of_getElem? (i := 314) (by decide +kernel), List.mem_of_getElem? (i := 870) (by decide +kernel), List.mem_of_getElem? (i := 871) (by decide +kernel)⟩
theorem lw_p23 : lw_okq (⟨"StormLoft$Night", "hear", "(II)V"⟩, 13) := ⟨⟨by decide +kernel, by decide +kernel⟩, List.mem_of_getElem? (i := 314) (by decide +kernel), List.mem_of_getElem? (i := 877) (by decide +kernel), List.mem_of_getElem? (i := 878) (by decide +kernel)⟩
theorem lw_p24 : lw_okq (⟨"StormLoft$Night", "bumpAll", "()V"⟩, 13) := ⟨⟨by decide +kernel, by decide +kernel⟩, List.mem_of_getElem? (i := 314) (by decide +kernel), List.mem_of_getElem? (i := 883) (by decide +kernel), List.mem_of_getElem? (i := 884) (by decide +kernel)⟩
theorem lw_p25 : lw_okq (⟨"StormLoft$Night", "allAreAlike", "()Z"⟩, 13) := ⟨⟨by decide +kernel, by decide +kernel⟩, List.mem_of_getElem? (i := 314) (by decide +kernel), List.mem_of_getElem? (i := 887) (by decide +kernel), List.mem_of_getElem? (i := 888) (by decide +kernel)⟩
theorem lw_p26 : lw_okq (⟨"StormLoft$Night", "use", "(IILStormLoft$Machines;)V"⟩, 13) := ⟨⟨by decide +kernel, by decide +kernel⟩, List.mem_of_getElem? (i := 314) (by decide +kernel), List.mem_of_getElem? (i := 907) (by decide +kernel), List.mem_of_getElem? (i := 908) (by decide +kernel)⟩
theorem lw_p27 : lw_okq (⟨"StormLoft$Crew", "costOf", "(IILStormLoft$Plan;LStormLoft$Machines;)I"⟩, 16) := ⟨⟨by decide +kernel, by decide +kernel⟩, List.mem_of_getElem? (i := 104) (by decide +kernel), List.mem_of_getElem? (i := 938) (by decide +kernel), List.mem_of_getElem? (i := 939) (by decide +kernel)⟩
theorem lw_p28 : lw_okq (⟨"StormLoft$Crew", "assignAll", "()V"⟩, 16) := ⟨⟨by decide +kernel, by decide +kernel⟩, List.mem_of_getElem? (i := 104) (by decide +kernel), List.mem_of_getElem? (i := 956) (by decide +kernel), List.mem_of_getElem? (i := 957) (by decide +kernel)⟩
theorem lw_p29 : lw_okq (⟨"StormLoft$Crew", "assignRow", "(I)V"⟩, 16) := ⟨⟨by decide +kernel, by decide +kernel⟩, List.mem_of_getElem? (i := 104) (by decide +kernel), List.mem_of_getElem? (i := 960) (by decide +kernel), List.mem_of_getElem? (i := 961) (by decide +kernel)⟩
theorem lw_p30 : lw_okq (⟨"StormLoft$Crew", "relax", "(II)V"⟩, 16) := ⟨⟨by decide +kernel, by decide +kernel⟩, List.mem_of_getElem? (i := 104) (by decide +kernel), List.mem_of_getElem? (i := 965) (by decide +kernel), List.mem_of_getElem? (i := 966) (by decide +kernel)⟩
theorem lw_p31 : lw_okq (⟨"StormLoft$Crew", "nearest", "()I"⟩, 16) := ⟨⟨by decide +kernel, by decide +kernel⟩, List.mem_of_getElem? (i := 104) (by decide +kernel), List.mem_of_getElem? (i := 969) (by decide +kernel), List.mem_of_getElem? (i := 970) (by decide +kernel)⟩
def lw_privs_2 : List (MethodName × Nat) := [(⟨"StormLoft$Reader", "stormAt", "(I)LStormLoft$Plan;"⟩, 12), (⟨"StormLoft$Plan", "is", "(I)Z"⟩, 5), (⟨"StormLoft$Reader", "readStorm", "(LStormLoft$Tape;)V"⟩, 12), (⟨"StormLoft$Reader", "close", "(LStormLoft$Tape;)V"⟩, 12), (⟨"StormLoft$Plan", "sink", "(I)V"⟩, 5), (⟨"StormLoft$Night", "rollAll", "([LStormLoft$Path;)V"⟩, 13), (⟨"StormLoft$Night", "roll", "(LStormLoft$Ball;LStormLoft$Path;)V"⟩, 13), (⟨"StormLoft$Night", "hear", "(II)V"⟩, 13), (⟨"StormLoft$Night", "bumpAll", "()V"⟩, 13), (⟨"StormLoft$Night", "allAreAlike", "()Z"⟩, 13), (⟨"StormLoft$Night", "use", "(IILStormLoft$Machines;)V"⟩, 13), (⟨"StormLoft$Crew", "costOf", "(IILStormLoft$Plan;LStormLoft$Machines;)I"⟩, 16), (⟨"StormLoft$Crew", "assignAll", "()V"⟩, 16), (⟨"StormLoft$Crew", "assignRow", "(I)V"⟩, 16), (⟨"StormLoft$Crew", "relax", "(II)V"⟩, 16), (⟨"StormLoft$Crew", "nearest", "()I"⟩, 16)]
theorem lw_r2 : ∀ q ∈ lw_privs_2, lw_okq q := List.forall_mem_cons.mpr ⟨lw_p16, List.forall_mem_cons.mpr ⟨lw_p17, List.forall_mem_cons.mpr ⟨lw_p18, List.forall_mem_cons.mpr ⟨lw_p19, List.forall_mem_cons.mpr ⟨lw_p20, List.forall_mem_cons.mpr ⟨lw_p21, List.forall_mem_cons.mpr ⟨lw_p22, List.forall_mem_cons.mpr ⟨lw_p23, List.forall_mem_cons.mpr ⟨lw_p24, List.forall_mem_cons.mpr ⟨lw_p25, List.forall_mem_cons.mpr ⟨lw_p26, List.forall_mem_cons.mpr ⟨lw_p27, List.forall_mem_cons.mpr ⟨lw_p28, List.forall_mem_cons.mpr ⟨lw_p29, List.forall_mem_cons.mpr ⟨lw_p30, List.forall_mem_cons.mpr ⟨lw_p31, fun _ h => absurd h List.not_mem_nil⟩⟩⟩⟩⟩⟩⟩⟩⟩⟩⟩⟩⟩⟩⟩⟩
theorem lw_p32 : lw_okq (⟨"StormLoft$Crew", "lower", "(II)V"⟩, 16) := ⟨⟨by decide +kernel, by decide +kernel⟩, List.mem_of_getElem? (i := 104) (by decide +kernel), List.mem_of_getElem? (i := 973) (by decide +kernel), List.mem_of_getElem? (i := 974) (by decide +kernel)⟩
theorem lw_p33 : lw_okq (⟨"StormLoft$Crew", "flip", "(II)V"⟩, 16) := ⟨⟨by decide +kernel, by decide +kernel⟩, List.mem_of_getElem? (i := 104) (by decide +kernel), List.mem_of_getElem? (i := 977) (by decide +kernel), List.mem_of_getElem? (i := 978) (by decide +kernel)⟩
theorem lw_p34 : lw_okq (⟨"StormLoft$Crew", "chooseFirst", "()V"⟩, 16) := ⟨⟨by decide +kernel, by decide +kernel⟩, List.mem_of_getElem? (i := 104) (by decide +kernel), List.mem_of_getElem? (i := 981) (by decide +kernel), List.mem_of_getElem? (i := 982) (by decide +kernel)⟩
theorem lw_p35 : lw_okq (⟨"StormLoft$Crew", "canDoNext", "(II)Z"⟩, 16) := ⟨⟨by decide +kernel, by decide +kernel⟩, List.mem_of_getElem? (i := 104) (by decide +kernel), List.mem_of_getElem? (i := 985) (by decide +kernel), List.mem_of_getElem? (i := 986) (by decide +kernel)⟩
theorem lw_p36 : lw_okq (⟨"StormLoft$Crew", "isFree", "(II)Z"⟩, 16) := ⟨⟨by decide +kernel, by decide +kernel⟩, List.mem_of_getElem? (i := 104) (by decide +kernel), List.mem_of_getElem? (i := 989) (by decide +kernel), List.mem_of_getElem? (i := 990) (by decide +kernel)⟩
theorem lw_p37 : lw_okq (⟨"StormLoft$Crew", "reaches", "(II)Z"⟩, 16) := ⟨⟨by decide +kernel, by decide +kernel⟩, List.mem_of_getElem? (i := 104) (by decide +kernel), List.mem_of_getElem? (i := 993) (by decide +kernel), List.mem_of_getElem? (i := 994) (by decide +kernel)⟩
theorem lw_p38 : lw_okq (⟨"StormLoft$Machines", "letsGo", "(LStormLoft$Plan;II)Z"⟩, 5) := ⟨⟨by decide +kernel, by decide +kernel⟩, List.mem_of_getElem? (i := 80) (by decide +kernel), List.mem_of_getElem? (i := 1013) (by decide +kernel), List.mem_of_getElem? (i := 1014) (by decide +kernel)⟩
theorem lw_p39 : lw_okq (⟨"StormLoft$Carpenter", "begin", "()V"⟩, 14) := ⟨⟨by decide +kernel, by decide +kernel⟩, List.mem_of_getElem? (i := 369) (by decide +kernel), List.mem_of_getElem? (i := 1045) (by decide +kernel), List.mem_of_getElem? (i := 1046) (by decide +kernel)⟩
theorem lw_p40 : lw_okq (⟨"StormLoft$Carpenter", "store", "(II)V"⟩, 14) := ⟨⟨by decide +kernel, by decide +kernel⟩, List.mem_of_getElem? (i := 369) (by decide +kernel), List.mem_of_getElem? (i := 1049) (by decide +kernel), List.mem_of_getElem? (i := 1050) (by decide +kernel)⟩
theorem lw_p41 : lw_okq (⟨"StormLoft$Carpenter", "passes", "(LStormLoft$Board;LStormLoft$Tape;I)Z"⟩, 14) := ⟨⟨by decide +kernel, by decide +kernel⟩, List.mem_of_getElem? (i := 369) (by decide +kernel), List.mem_of_getElem? (i := 1057) (by decide +kernel), List.mem_of_getElem? (i := 1058) (by decide +kernel)⟩
theorem lw_p42 : lw_okq (⟨"StormLoft$Carpenter", "load", "(I)V"⟩, 14) := ⟨⟨by decide +kernel, by decide +kernel⟩, List.mem_of_getElem? (i := 369) (by decide +kernel), List.mem_of_getElem? (i := 1061) (by decide +kernel), List.mem_of_getElem? (i := 1062) (by decide +kernel)⟩
theorem lw_p43 : lw_okq (⟨"StormLoft$Carpenter", "rollToEnd", "(LStormLoft$Board;II)I"⟩, 14) := ⟨⟨by decide +kernel, by decide +kernel⟩, List.mem_of_getElem? (i := 369) (by decide +kernel), List.mem_of_getElem? (i := 1066) (by decide +kernel), List.mem_of_getElem? (i := 1067) (by decide +kernel)⟩
theorem lw_p44 : lw_okq (⟨"StormLoft$Carpenter", "glideToEnd", "(LStormLoft$Board;II)I"⟩, 14) := ⟨⟨by decide +kernel, by decide +kernel⟩, List.mem_of_getElem? (i := 369) (by decide +kernel), List.mem_of_getElem? (i := 1071) (by decide +kernel), List.mem_of_getElem? (i := 1072) (by decide +kernel)⟩
theorem lw_p45 : lw_okq (⟨"StormLoft$Carpenter", "judge", "(LStormLoft$Tape;II)V"⟩, 14) := ⟨⟨by decide +kernel, by decide +kernel⟩, List.mem_of_getElem? (i := 369) (by decide +kernel), List.mem_of_getElem? (i := 1081) (by decide +kernel), List.mem_of_getElem? (i := 1082) (by decide +kernel)⟩
theorem lw_p46 : lw_okq (⟨"StormLoft$Carpenter", "leastPossible", "(LStormLoft$Tape;I)I"⟩, 14) := ⟨⟨by decide +kernel, by decide +kernel⟩, List.mem_of_getElem? (i := 369) (by decide +kernel), List.mem_of_getElem? (i := 1086) (by decide +kernel), List.mem_of_getElem? (i := 1087) (by decide +kernel)⟩
theorem lw_p47 : lw_okq (⟨"StormLoft$Carpenter", "leave", "(LStormLoft$Path;LStormLoft$Board;LStormLoft$Tape;II)V"⟩, 14) := ⟨⟨by decide +kernel, by decide +kernel⟩, List.mem_of_getElem? (i := 369) (by decide +kernel), List.mem_of_getElem? (i := 1110) (by decide +kernel), List.mem_of_getElem? (i := 1111) (by decide +kernel)⟩
def lw_privs_3 : List (MethodName × Nat) := [(⟨"StormLoft$Crew", "lower", "(II)V"⟩, 16), (⟨"StormLoft$Crew", "flip", "(II)V"⟩, 16), (⟨"StormLoft$Crew", "chooseFirst", "()V"⟩, 16), (⟨"StormLoft$Crew", "canDoNext", "(II)Z"⟩, 16), (⟨"StormLoft$Crew", "isFree", "(II)Z"⟩, 16), (⟨"StormLoft$Crew", "reaches", "(II)Z"⟩, 16), (⟨"StormLoft$Machines", "letsGo", "(LStormLoft$Plan;II)Z"⟩, 5), (⟨"StormLoft$Carpenter", "begin", "()V"⟩, 14), (⟨"StormLoft$Carpenter", "store", "(II)V"⟩, 14), (⟨"StormLoft$Carpenter", "passes", "(LStormLoft$Board;LStormLoft$Tape;I)Z"⟩, 14), (⟨"StormLoft$Carpenter", "load", "(I)V"⟩, 14), (⟨"StormLoft$Carpenter", "rollToEnd", "(LStormLoft$Board;II)I"⟩, 14), (⟨"StormLoft$Carpenter", "glideToEnd", "(LStormLoft$Board;II)I"⟩, 14), (⟨"StormLoft$Carpenter", "judge", "(LStormLoft$Tape;II)V"⟩, 14), (⟨"StormLoft$Carpenter", "leastPossible", "(LStormLoft$Tape;I)I"⟩, 14), (⟨"StormLoft$Carpenter", "leave", "(LStormLoft$Path;LStormLoft$Board;LStormLoft$Tape;II)V"⟩, 14)]
theorem lw_r3 : ∀ q ∈ lw_privs_3, lw_okq q := List.forall_mem_cons.mpr ⟨lw_p32, List.forall_mem_cons.mpr ⟨lw_p33, List.forall_mem_cons.mpr ⟨lw_p34, List.forall_mem_cons.mpr ⟨lw_p35, List.forall_mem_cons.mpr ⟨lw_p36, List.forall_mem_cons.mpr ⟨lw_p37, List.forall_mem_cons.mpr ⟨lw_p38, List.forall_mem_cons.mpr ⟨lw_p39, List.forall_mem_cons.mpr ⟨lw_p40, List.forall_mem_cons.mpr ⟨lw_p41, List.forall_mem_cons.mpr ⟨lw_p42, List.forall_mem_cons.mpr ⟨lw_p43, List.forall_mem_cons.mpr ⟨lw_p44, List.forall_mem_cons.mpr ⟨lw_p45, List.forall_mem_cons.mpr ⟨lw_p46, List.forall_mem_cons.mpr ⟨lw_p47, fun _ h => absurd h List.not_mem_nil⟩⟩⟩⟩⟩⟩⟩⟩⟩⟩⟩⟩⟩⟩⟩⟩
theorem lw_p48 : lw_okq (⟨"StormLoft", "runsThatAre", "()I"⟩, 12) := ⟨⟨by decide +kernel, by decide +kernel⟩, List.mem_of_getElem? (i := 25) (by decide +kernel), List.mem_of_getElem? (i := 1119) (by decide +kernel), List.mem_of_getElem? (i := 1120) (by decide +kernel)⟩
theorem lw_p49 : lw_okq (⟨"java/lang/Throwable", "fillInStackTrace", "(I)Ljava/lang/Throwable;"⟩, 6) := ⟨⟨by decide +kernel, by decide +kernel⟩, List.mem_of_getElem? (i := 1167) (by decide +kernel), List.mem_of_getElem? (i := 1165) (by decide +kernel), List.mem_of_getElem? (i := 1166) (by decide +kernel)⟩
theorem lw_p50 : lw_okq (⟨"StormLoftModel", "come", "(I)V"⟩, 89) := ⟨⟨by decide +kernel, by decide +kernel⟩, List.mem_of_getElem? (i := 1225) (by decide +kernel), List.mem_of_getElem? (i := 1510) (by decide +kernel), List.mem_of_getElem? (i := 1511) (by decide +kernel)⟩
theorem lw_p51 : lw_okq (⟨"StormLoftModel", "isRun", "(I)Z"⟩, 89) := ⟨⟨by decide +kernel, by decide +kernel⟩, List.mem_of_getElem? (i := 1225) (by decide +kernel), List.mem_of_getElem? (i := 1536) (by decide +kernel), List.mem_of_getElem? (i := 1537) (by decide +kernel)⟩
theorem lw_p52 : lw_okq (⟨"StormLoftModel", "follow", "(II)V"⟩, 89) := ⟨⟨by decide +kernel, by decide +kernel⟩, List.mem_of_getElem? (i := 1225) (by decide +kernel), List.mem_of_getElem? (i := 1540) (by decide +kernel), List.mem_of_getElem? (i := 1541) (by decide +kernel)⟩
theorem lw_p53 : lw_okq (⟨"StormLoftModel", "step", "(II)V"⟩, 89) := ⟨⟨by decide +kernel, by decide +kernel⟩, List.mem_of_getElem? (i := 1225) (by decide +kernel), List.mem_of_getElem? (i := 1544) (by decide +kernel), List.mem_of_getElem? (i := 1545) (by decide +kernel)⟩
theorem lw_p54 : lw_okq (⟨"StormLoftModel", "lengthAt", "(II)I"⟩, 89) := ⟨⟨by decide +kernel, by decide +kernel⟩, List.mem_of_getElem? (i := 1225) (by decide +kernel), List.mem_of_getElem? (i := 1548) (by decide +kernel), List.mem_of_getElem? (i := 1549) (by decide +kernel)⟩
theorem lw_p55 : lw_okq (⟨"StormLoftModel", "nextOf", "(III)I"⟩, 89) := ⟨⟨by decide +kernel, by decide +kernel⟩, List.mem_of_getElem? (i := 1225) (by decide +kernel), List.mem_of_getElem? (i := 1552) (by decide +kernel), List.mem_of_getElem? (i := 1553) (by decide +kernel)⟩
theorem lw_p56 : lw_okq (⟨"StormLoftModel", "refuse", "()I"⟩, 89) := ⟨⟨by decide +kernel, by decide +kernel⟩, List.mem_of_getElem? (i := 1225) (by decide +kernel), List.mem_of_getElem? (i := 1560) (by decide +kernel), List.mem_of_getElem? (i := 1561) (by decide +kernel)⟩
theorem lw_p57 : lw_okq (⟨"StormLoftModel", "clear", "(I)V"⟩, 89) := ⟨⟨by decide +kernel, by decide +kernel⟩, List.mem_of_getElem? (i := 1225) (by decide +kernel), List.mem_of_getElem? (i := 1576) (by decide +kernel), List.mem_of_getElem? (i := 1577) (by decide +kernel)⟩
theorem lw_p58 : lw_okq (⟨"StormLoftModel", "go", "()V"⟩, 89) := ⟨⟨by decide +kernel, by decide +kernel⟩, List.mem_of_getElem? (i := 1225) (by decide +kernel), List.mem_of_getElem? (i := 1580) (by decide +kernel), List.mem_of_getElem? (i := 1581) (by decide +kernel)⟩
theorem lw_p59 : lw_okq (⟨"StormLoftModel", "byteAt", "(I)I"⟩, 89) := ⟨⟨by decide +kernel, by decide +kernel⟩, List.mem_of_getElem? (i := 1225) (by decide +kernel), List.mem_of_getElem? (i := 1590) (by decide +kernel), List.mem_of_getElem? (i := 1591) (by decide +kernel)⟩
theorem lw_p60 : lw_okq (⟨"StormLoftModel", "readPiece", "()Z"⟩, 89) := ⟨⟨by decide +kernel, by decide +kernel⟩, List.mem_of_getElem? (i := 1225) (by decide +kernel), List.mem_of_getElem? (i := 1596) (by decide +kernel), List.mem_of_getElem? (i := 1597) (by decide +kernel)⟩
theorem lw_p61 : lw_okq (⟨"StormLoftModel", "isAt", "()Z"⟩, 89) := ⟨⟨by decide +kernel, by decide +kernel⟩, List.mem_of_getElem? (i := 1225) (by decide +kernel), List.mem_of_getElem? (i := 1600) (by decide +kernel), List.mem_of_getElem? (i := 1601) (by decide +kernel)⟩
theorem lw_p62 : lw_okq (⟨"StormLoftModel", "isKey", "(J)Z"⟩, 89) := ⟨⟨by decide +kernel, by decide +kernel⟩, List.mem_of_getElem? (i := 1225) (by decide +kernel), List.mem_of_getElem? (i := 1607) (by decide +kernel), List.mem_of_getElem? (i := 1608) (by decide +kernel)⟩
theorem lw_p63 : lw_okq (⟨"StormLoftModel", "readNumber", "(II)Z"⟩, 89) := ⟨⟨by decide +kernel, by decide +kernel⟩, List.mem_of_getElem? (i := 1225) (by decide +kernel), List.mem_of_getElem? (i := 1611) (by decide +kernel), List.mem_of_getElem? (i := 1612) (by decide +kernel)⟩
def lw_privs_4 : List (MethodName × Nat) := [(⟨"StormLoft", "runsThatAre", "()I"⟩, 12), (⟨"java/lang/Throwable", "fillInStackTrace", "(I)Ljava/lang/Throwable;"⟩, 6), (⟨"StormLoftModel", "come", "(I)V"⟩, 89), (⟨"StormLoftModel", "isRun", "(I)Z"⟩, 89), (⟨"StormLoftModel", "follow", "(II)V"⟩, 89), (⟨"StormLoftModel", "step", "(II)V"⟩, 89), (⟨"StormLoftModel", "lengthAt", "(II)I"⟩, 89), (⟨"StormLoftModel", "nextOf", "(III)I"⟩, 89), (⟨"StormLoftModel", "refuse", "()I"⟩, 89), (⟨"StormLoftModel", "clear", "(I)V"⟩, 89), (⟨"StormLoftModel", "go", "()V"⟩, 89), (⟨"StormLoftModel", "byteAt", "(I)I"⟩, 89), (⟨"StormLoftModel", "readPiece", "()Z"⟩, 89), (⟨"StormLoftModel", "isAt", "()Z"⟩, 89), (⟨"StormLoftModel", "isKey", "(J)Z"⟩, 89), (⟨"StormLoftModel", "readNumber", "(II)Z"⟩, 89)]
theorem lw_r4 : ∀ q ∈ lw_privs_4, lw_okq q := List.forall_mem_cons.mpr ⟨lw_p48, List.forall_mem_cons.mpr ⟨lw_p49, List.forall_mem_cons.mpr ⟨lw_p50, List.forall_mem_cons.mpr ⟨lw_p51, List.forall_mem_cons.mpr ⟨lw_p52, List.forall_mem_cons.mpr ⟨lw_p53, List.forall_mem_cons.mpr ⟨lw_p54, List.forall_mem_cons.mpr ⟨lw_p55, List.forall_mem_cons.mpr ⟨lw_p56, List.forall_mem_cons.mpr ⟨lw_p57, List.forall_mem_cons.mpr ⟨lw_p58, List.forall_mem_cons.mpr ⟨lw_p59, List.forall_mem_cons.mpr ⟨lw_p60, List.forall_mem_cons.mpr ⟨lw_p61, List.forall_mem_cons.mpr ⟨lw_p62, List.forall_mem_cons.mpr ⟨lw_p63, fun _ h => absurd h List.not_mem_nil⟩⟩⟩⟩⟩⟩⟩⟩⟩⟩⟩⟩⟩⟩⟩⟩
theorem lw_p64 : lw_okq (⟨"StormLoftModel", "bad", "(I)Z"⟩, 89) := ⟨⟨by decide +kernel, by decide +kernel⟩, List.mem_of_getElem? (i := 1225) (by decide +kernel), List.mem_of_getElem? (i := 1615) (by decide +kernel), List.mem_of_getElem? (i := 1616) (by decide +kernel)⟩
theorem lw_p65 : lw_okq (⟨"StormLoftModel", "readUse", "(I)Z"⟩, 89) := ⟨⟨by decide +kernel, by decide +kernel⟩, List.mem_of_getElem? (i := 1225) (by decide +kernel), List.mem_of_getElem? (i := 1619) (by decide +kernel), List.mem_of_getElem? (i := 1620) (by decide +kernel)⟩
theorem lw_p66 : lw_okq (⟨"StormLoftModel", "isUse", "()Z"⟩, 89) := ⟨⟨by decide +kernel, by decide +kernel⟩, List.mem_of_getElem? (i := 1225) (by decide +kernel), List.mem_of_getElem? (i := 1623) (by decide +kernel), List.mem_of_getElem? (i := 1624) (by decide +kernel)⟩
theorem lw_p67 : lw_okq (⟨"StormLoftModel", "isWith", "()Z"⟩, 89) := ⟨⟨by decide +kernel, by decide +kernel⟩, List.mem_of_getElem? (i := 1225) (by decide +kernel), List.mem_of_getElem? (i := 1627) (by decide +kernel), List.mem_of_getElem? (i := 1628) (by decide +kernel)⟩
theorem lw_p68 : lw_okq (⟨"StormLoftModel", "readEnd", "()Z"⟩, 89) := ⟨⟨by decide +kernel, by decide +kernel⟩, List.mem_of_getElem? (i := 1225) (by decide +kernel), List.mem_of_getElem? (i := 1631) (by decide +kernel), List.mem_of_getElem? (i := 1632) (by decide +kernel)⟩
theorem lw_p69 : lw_okq (⟨"StormLoftModel", "put", "(IIII)V"⟩, 89) := ⟨⟨by decide +kernel, by decide +kernel⟩, List.mem_of_getElem? (i := 1225) (by decide +kernel), List.mem_of_getElem? (i := 1635) (by decide +kernel), List.mem_of_getElem? (i := 1636) (by decide +kernel)⟩
theorem lw_p70 : lw_okq (⟨"StormLoftModel", "isPlay", "()Z"⟩, 89) := ⟨⟨by decide +kernel, by decide +kernel⟩, List.mem_of_getElem? (i := 1225) (by decide +kernel), List.mem_of_getElem? (i := 1639) (by decide +kernel), List.mem_of_getElem? (i := 1640) (by decide +kernel)⟩
theorem lw_p71 : lw_okq (⟨"StormLoftModel", "readPlay", "()Z"⟩, 89) := ⟨⟨by decide +kernel, by decide +kernel⟩, List.mem_of_getElem? (i := 1225) (by decide +kernel), List.mem_of_getElem? (i := 1643) (by decide +kernel), List.mem_of_getElem? (i := 1644) (by decide +kernel)⟩
theorem lw_p72 : lw_okq (⟨"StormLoftModel", "isName", "()Z"⟩, 89) := ⟨⟨by decide +kernel, by decide +kernel⟩, List.mem_of_getElem? (i := 1225) (by decide +kernel), List.mem_of_getElem? (i := 1647) (by decide +kernel), List.mem_of_getElem? (i := 1648) (by decide +kernel)⟩
theorem lw_p73 : lw_okq (⟨"StormLoftModel", "isEnd", "()Z"⟩, 89) := ⟨⟨by decide +kernel, by decide +kernel⟩, List.mem_of_getElem? (i := 1225) (by decide +kernel), List.mem_of_getElem? (i := 1651) (by decide +kernel), List.mem_of_getElem? (i := 1652) (by decide +kernel)⟩
theorem lw_p74 : lw_okq (⟨"StormLoftModel", "isStorm", "()Z"⟩, 89) := ⟨⟨by decide +kernel, by decide +kernel⟩, List.mem_of_getElem? (i := 1225) (by decide +kernel), List.mem_of_getElem? (i := 1655) (by decide +kernel), List.mem_of_getElem? (i := 1656) (by decide +kernel)⟩
theorem lw_p75 : lw_okq (⟨"StormLoftModel", "isTimes", "()Z"⟩, 89) := ⟨⟨by decide +kernel, by decide +kernel⟩, List.mem_of_getElem? (i := 1225) (by decide +kernel), List.mem_of_getElem? (i := 1659) (by decide +kernel), List.mem_of_getElem? (i := 1660) (by decide +kernel)⟩
theorem lw_p76 : lw_okq (⟨"StormLoftModel", "isEvery", "()Z"⟩, 89) := ⟨⟨by decide +kernel, by decide +kernel⟩, List.mem_of_getElem? (i := 1225) (by decide +kernel), List.mem_of_getElem? (i := 1663) (by decide +kernel), List.mem_of_getElem? (i := 1664) (by decide +kernel)⟩
theorem lw_p77 : lw_okq (⟨"StormLoftModel", "stormOf", "(J)I"⟩, 89) := ⟨⟨by decide +kernel, by decide +kernel⟩, List.mem_of_getElem? (i := 1225) (by decide +kernel), List.mem_of_getElem? (i := 1667) (by decide +kernel), List.mem_of_getElem? (i := 1668) (by decide +kernel)⟩
theorem lw_p78 : lw_okq (⟨"StormLoftModel", "pour", "(III)V"⟩, 89) := ⟨⟨by decide +kernel, by decide +kernel⟩, List.mem_of_getElem? (i := 1225) (by decide +kernel), List.mem_of_getElem? (i := 1671) (by decide +kernel), List.mem_of_getElem? (i := 1672) (by decide +kernel)⟩
theorem lw_p79 : lw_okq (⟨"StormLoftModel", "readTimes", "()Z"⟩, 89) := ⟨⟨by decide +kernel, by decide +kernel⟩, List.mem_of_getElem? (i := 1225) (by decide +kernel), List.mem_of_getElem? (i := 1675) (by decide +kernel), List.mem_of_getElem? (i := 1676) (by decide +kernel)⟩
def lw_privs_5 : List (MethodName × Nat) := [(⟨"StormLoftModel", "bad", "(I)Z"⟩, 89), (⟨"StormLoftModel", "readUse", "(I)Z"⟩, 89), (⟨"StormLoftModel", "isUse", "()Z"⟩, 89), (⟨"StormLoftModel", "isWith", "()Z"⟩, 89), (⟨"StormLoftModel", "readEnd", "()Z"⟩, 89), (⟨"StormLoftModel", "put", "(IIII)V"⟩, 89), (⟨"StormLoftModel", "isPlay", "()Z"⟩, 89), (⟨"StormLoftModel", "readPlay", "()Z"⟩, 89), (⟨"StormLoftModel", "isName", "()Z"⟩, 89), (⟨"StormLoftModel", "isEnd", "()Z"⟩, 89), (⟨"StormLoftModel", "isStorm", "()Z"⟩, 89), (⟨"StormLoftModel", "isTimes", "()Z"⟩, 89), (⟨"StormLoftModel", "isEvery", "()Z"⟩, 89), (⟨"StormLoftModel", "stormOf", "(J)I"⟩, 89), (⟨"StormLoftModel", "pour", "(III)V"⟩, 89), (⟨"StormLoftModel", "readTimes", "()Z"⟩, 89)]
theorem lw_r5 : ∀ q ∈ lw_privs_5, lw_okq q := List.forall_mem_cons.mpr ⟨lw_p64, List.forall_mem_cons.mpr ⟨lw_p65, List.forall_mem_cons.mpr ⟨lw_p66, List.forall_mem_cons.mpr ⟨lw_p67, List.forall_mem_cons.mpr ⟨lw_p68, List.forall_mem_cons.mpr ⟨lw_p69, List.forall_mem_cons.mpr ⟨lw_p70, List.forall_mem_cons.mpr ⟨lw_p71, List.forall_mem_cons.mpr ⟨lw_p72, List.forall_mem_cons.mpr ⟨lw_p73, List.forall_mem_cons.mpr ⟨lw_p74, List.forall_mem_cons.mpr ⟨lw_p75, List.forall_mem_cons.mpr ⟨lw_p76, List.forall_mem_cons.mpr ⟨lw_p77, List.forall_mem_cons.mpr ⟨lw_p78, List.forall_mem_cons.mpr ⟨lw_p79, fun _ h => absurd h List.not_mem_nil⟩⟩⟩⟩⟩⟩⟩⟩⟩⟩⟩⟩⟩⟩⟩⟩
theorem lw_p80 : lw_okq (⟨"StormLoftModel", "endTimes", "()V"⟩, 89) := ⟨⟨by decide +kernel, by decide +kernel⟩, List.mem_of_getElem? (i := 1225) (by decide +kernel), List.mem_of_getElem? (i := 1679) (by decide +kernel), List.mem_of_getElem? (i := 1680) (by decide +kernel)⟩
theorem lw_p81 : lw_okq (⟨"StormLoftModel", "readStorm", "()Z"⟩, 89) := ⟨⟨by decide +kernel, by decide +kernel⟩, List.mem_of_getElem? (i := 1225) (by decide +kernel), List.mem_of_getElem? (i := 1683) (by decide +kernel), List.mem_of_getElem? (i := 1684) (by decide +kernel)⟩
theorem lw_p82 : lw_okq (⟨"StormLoftModel", "takes", "(I)I"⟩, 89) := ⟨⟨by decide +kernel, by decide +kernel⟩, List.mem_of_getElem? (i := 1225) (by decide +kernel), List.mem_of_getElem? (i := 1695) (by decide +kernel), List.mem_of_getElem? (i := 1696) (by decide +kernel)⟩
theorem lw_p83 : lw_okq (⟨"StormLoftModel", "worth", "(I)I"⟩, 89) := ⟨⟨by decide +kernel, by decide +kernel⟩, List.mem_of_getElem? (i := 1225) (by decide +kernel), List.mem_of_getElem? (i := 1699) (by decide +kernel), List.mem_of_getElem? (i := 1700) (by decide +kernel)⟩
theorem lw_p84 : lw_okq (⟨"StormLoftModel", "rollAll", "(I)V"⟩, 89) := ⟨⟨by decide +kernel, by decide +kernel⟩, List.mem_of_getElem? (i := 1225) (by decide +kernel), List.mem_of_getElem? (i := 1707) (by decide +kernel), List.mem_of_getElem? (i := 1708) (by decide +kernel)⟩
theorem lw_p85 : lw_okq (⟨"StormLoftModel", "hear", "(III)V"⟩, 89) := ⟨⟨by decide +kernel, by decide +kernel⟩, List.mem_of_getElem? (i := 1225) (by decide +kernel), List.mem_of_getElem? (i := 1711) (by decide +kernel), List.mem_of_getElem? (i := 1712) (by decide +kernel)⟩
theorem lw_p86 : lw_okq (⟨"StormLoftModel", "use", "(I)V"⟩, 89) := ⟨⟨by decide +kernel, by decide +kernel⟩, List.mem_of_getElem? (i := 1225) (by decide +kernel), List.mem_of_getElem? (i := 1715) (by decide +kernel), List.mem_of_getElem? (i := 1716) (by decide +kernel)⟩
theorem lw_p87 : lw_okq (⟨"StormLoftModel", "fillTable", "()V"⟩, 89) := ⟨⟨by decide +kernel, by decide +kernel⟩, List.mem_of_getElem? (i := 1225) (by decide +kernel), List.mem_of_getElem? (i := 1731) (by decide +kernel), List.mem_of_getElem? (i := 1732) (by decide +kernel)⟩
theorem lw_p88 : lw_okq (⟨"StormLoftModel", "prepare", "()V"⟩, 89) := ⟨⟨by decide +kernel, by decide +kernel⟩, List.mem_of_getElem? (i := 1225) (by decide +kernel), List.mem_of_getElem? (i := 1735) (by decide +kernel), List.mem_of_getElem? (i := 1736) (by decide +kernel)⟩
theorem lw_p89 : lw_okq (⟨"StormLoftModel", "choose", "(II)I"⟩, 89) := ⟨⟨by decide +kernel, by decide +kernel⟩, List.mem_of_getElem? (i := 1225) (by decide +kernel), List.mem_of_getElem? (i := 1742) (by decide +kernel), List.mem_of_getElem? (i := 1743) (by decide +kernel)⟩
theorem lw_p90 : lw_okq (⟨"StormLoftModel", "workOut", "(III)V"⟩, 89) := ⟨⟨by decide +kernel, by decide +kernel⟩, List.mem_of_getElem? (i := 1225) (by decide +kernel), List.mem_of_getElem? (i := 1746) (by decide +kernel), List.mem_of_getElem? (i := 1747) (by decide +kernel)⟩
theorem lw_p91 : lw_okq (⟨"StormLoftModel", "cellOf", "(IIIII)I"⟩, 89) := ⟨⟨by decide +kernel, by decide +kernel⟩, List.mem_of_getElem? (i := 1225) (by decide +kernel), List.mem_of_getElem? (i := 1750) (by decide +kernel), List.mem_of_getElem? (i := 1751) (by decide +kernel)⟩
theorem lw_p92 : lw_okq (⟨"StormLoftModel", "mayFollow", "(II)Z"⟩, 89) := ⟨⟨by decide +kernel, by decide +kernel⟩, List.mem_of_getElem? (i := 1225) (by decide +kernel), List.mem_of_getElem? (i := 1754) (by decide +kernel), List.mem_of_getElem? (i := 1755) (by decide +kernel)⟩
theorem lw_p93 : lw_okq (⟨"StormLoftModel", "standOf", "(I)I"⟩, 89) := ⟨⟨by decide +kernel, by decide +kernel⟩, List.mem_of_getElem? (i := 1225) (by decide +kernel), List.mem_of_getElem? (i := 1758) (by decide +kernel), List.mem_of_getElem? (i := 1759) (by decide +kernel)⟩
theorem lw_p94 : lw_okq (⟨"StormLoftModel", "mayBegin", "(II)Z"⟩, 89) := ⟨⟨by decide +kernel, by decide +kernel⟩, List.mem_of_getElem? (i := 1225) (by decide +kernel), List.mem_of_getElem? (i := 1765) (by decide +kernel), List.mem_of_getElem? (i := 1766) (by decide +kernel)⟩
theorem lw_p95 : lw_okq (⟨"StormLoftModel", "goesOn", "(II)Z"⟩, 89) := ⟨⟨by decide +kernel, by decide +kernel⟩, List.mem_of_getElem? (i := 1225) (by decide +kernel), List.mem_of_getElem? (i := 1769) (by decide +kernel), List.mem_of_getElem? (i := 1770) (by decide +kernel)⟩
def lw_privs_6 : List (MethodName × Nat) := [(⟨"StormLoftModel", "endTimes", "()V"⟩, 89), (⟨"StormLoftModel", "readStorm", "()Z"⟩, 89), (⟨"StormLoftModel", "takes", "(I)I"⟩, 89), (⟨"StormLoftModel", "worth", "(I)I"⟩, 89), (⟨"StormLoftModel", "rollAll", "(I)V"⟩, 89), (⟨"StormLoftModel", "hear", "(III)V"⟩, 89), (⟨"StormLoftModel", "use", "(I)V"⟩, 89), (⟨"StormLoftModel", "fillTable", "()V"⟩, 89), (⟨"StormLoftModel", "prepare", "()V"⟩, 89), (⟨"StormLoftModel", "choose", "(II)I"⟩, 89), (⟨"StormLoftModel", "workOut", "(III)V"⟩, 89), (⟨"StormLoftModel", "cellOf", "(IIIII)I"⟩, 89), (⟨"StormLoftModel", "mayFollow", "(II)Z"⟩, 89), (⟨"StormLoftModel", "standOf", "(I)I"⟩, 89), (⟨"StormLoftModel", "mayBegin", "(II)Z"⟩, 89), (⟨"StormLoftModel", "goesOn", "(II)Z"⟩, 89)]
theorem lw_r6 : ∀ q ∈ lw_privs_6, lw_okq q := List.forall_mem_cons.mpr ⟨lw_p80, List.forall_mem_cons.mpr ⟨lw_p81, List.forall_mem_cons.mpr ⟨lw_p82, List.forall_mem_cons.mpr ⟨lw_p83, List.forall_mem_cons.mpr ⟨lw_p84, List.forall_mem_cons.mpr ⟨lw_p85, List.forall_mem_cons.mpr ⟨lw_p86, List.forall_mem_cons.mpr ⟨lw_p87, List.forall_mem_cons.mpr ⟨lw_p88, List.forall_mem_cons.mpr ⟨lw_p89, List.forall_mem_cons.mpr ⟨lw_p90, List.forall_mem_cons.mpr ⟨lw_p91, List.forall_mem_cons.mpr ⟨lw_p92, List.forall_mem_cons.mpr ⟨lw_p93, List.forall_mem_cons.mpr ⟨lw_p94, List.forall_mem_cons.mpr ⟨lw_p95, fun _ h => absurd h List.not_mem_nil⟩⟩⟩⟩⟩⟩⟩⟩⟩⟩⟩⟩⟩⟩⟩⟩
theorem lw_p96 : lw_okq (⟨"StormLoftModel", "cellByMen", "(I)I"⟩, 89) := ⟨⟨by decide +kernel, by decide +kernel⟩, List.mem_of_getElem? (i := 1225) (by decide +kernel), List.mem_of_getElem? (i := 1773) (by decide +kernel), List.mem_of_getElem? (i := 1774) (by decide +kernel)⟩
theorem lw_p97 : lw_okq (⟨"StormLoftModel", "isLetGo", "(II)Z"⟩, 89) := ⟨⟨by decide +kernel, by decide +kernel⟩, List.mem_of_getElem? (i := 1225) (by decide +kernel), List.mem_of_getElem? (i := 1785) (by decide +kernel), List.mem_of_getElem? (i := 1786) (by decide +kernel)⟩
theorem lw_p98 : lw_okq (⟨"StormLoftModel", "takeTicks", "()Z"⟩, 89) := ⟨⟨by decide +kernel, by decide +kernel⟩, List.mem_of_getElem? (i := 1225) (by decide +kernel), List.mem_of_getElem? (i := 1797) (by decide +kernel), List.mem_of_getElem? (i := 1798) (by decide +kernel)⟩
theorem lw_p99 : lw_okq (⟨"StormLoftModel", "err", "()I"⟩, 89) := ⟨⟨by decide +kernel, by decide +kernel⟩, List.mem_of_getElem? (i := 1225) (by decide +kernel), List.mem_of_getElem? (i := 1801) (by decide +kernel), List.mem_of_getElem? (i := 1802) (by decide +kernel)⟩
theorem lw_p100 : lw_okq (⟨"StormLoftModel", "explains", "()Z"⟩, 89) := ⟨⟨by decide +kernel, by decide +kernel⟩, List.mem_of_getElem? (i := 1225) (by decide +kernel), List.mem_of_getElem? (i := 1813) (by decide +kernel), List.mem_of_getElem? (i := 1814) (by decide +kernel)⟩
def lw_privs_7 : List (MethodName × Nat) := [(⟨"StormLoftModel", "cellByMen", "(I)I"⟩, 89), (⟨"StormLoftModel", "isLetGo", "(II)Z"⟩, 89), (⟨"StormLoftModel", "takeTicks", "()Z"⟩, 89), (⟨"StormLoftModel", "err", "()I"⟩, 89), (⟨"StormLoftModel", "explains", "()Z"⟩, 89)]
theorem lw_r7 : ∀ q ∈ lw_privs_7, lw_okq q := List.forall_mem_cons.mpr ⟨lw_p96, List.forall_mem_cons.mpr ⟨lw_p97, List.forall_mem_cons.mpr ⟨lw_p98, List.forall_mem_cons.mpr ⟨lw_p99, List.forall_mem_cons.mpr ⟨lw_p100, fun _ h => absurd h List.not_mem_nil⟩⟩⟩⟩⟩
def lw_privs : List (MethodName × Nat) := lw_privs_1 ++ (lw_privs_2 ++ (lw_privs_3 ++ (lw_privs_4 ++ (lw_privs_5 ++ (lw_privs_6 ++ (lw_privs_7))))))
def lw_tbl : List Cond := k2_sels lw_privs ++ tables_1
theorem lw_privs_ok : ∀ q ∈ lw_privs, lw_okq q := by
  show ∀ q ∈ lw_privs_1 ++ (lw_privs_2 ++ (lw_privs_3 ++ (lw_privs_4 ++ (lw_privs_5 ++ (lw_privs_6 ++ (lw_privs_7)))))), lw_okq q
  exact List.forall_mem_append.mpr ⟨lw_r1, List.forall_mem_append.mpr ⟨lw_r2, List.forall_mem_append.mpr ⟨lw_r3, List.forall_mem_append.mpr ⟨lw_r4, List.forall_mem_append.mpr ⟨lw_r5, List.forall_mem_append.mpr ⟨lw_r6, lw_r7⟩⟩⟩⟩⟩⟩
def RX0 : String := "StormLoft$Ball"
def TX0 : u_T := fun k => match k with
  | 0 => ("StormLoft$Ball", "run", "I", false)
  | 1 => ("StormLoft$Ball", "place", "I", false)
  | 2 => ("StormLoft$Ball", "part", "I", false)
  | 3 => ("StormLoft$Ball", "speed", "I", false)
  | 4 => ("StormLoft$Ball", "placeAhead", "I", false)
  | _ => ("StormLoft$Ball", "partAhead", "I", false)
def tyX0 : Nat → FieldType := fun k => match k with
  | 0 => .int
  | 1 => .int
  | 2 => .int
  | 3 => .int
  | 4 => .int
  | _ => .int
abbrev wsX00 : List Cond := u_ws RX0 TX0 6
theorem nmX0 : ∀ a, a < 6 → ∀ b, b < 6 → a ≠ b → (TX0 a).2.1 ≠ (TX0 b).2.1 := by decide +kernel
theorem tyX0_ok : ∀ k, k < 6 → parseFieldDescriptor (TX0 k).2.2.1 = some (tyX0 k) := by decide +kernel
abbrev cX0_init : ByteArray := prog_2_method_1_code
def yX0_init : MethodName := ⟨RX0, "<init>", "()V"⟩
abbrev cX0_letGoOn : ByteArray := prog_2_method_2_code
def yX0_letGoOn : MethodName := ⟨RX0, "letGoOn", "(I)V"⟩
abbrev cX0_put : ByteArray := prog_2_method_3_code
def yX0_put : MethodName := ⟨RX0, "put", "(III)V"⟩
abbrev cX0_rollsOver : ByteArray := prog_2_method_4_code
def yX0_rollsOver : MethodName := ⟨RX0, "rollsOver", "(LStormLoft$Board;)Z"⟩
abbrev cX0_fallsOff : ByteArray := prog_2_method_5_code
def yX0_fallsOff : MethodName := ⟨RX0, "fallsOff", "(LStormLoft$Board;I)I"⟩
abbrev cX0_isAtRest : ByteArray := prog_2_method_6_code
def yX0_isAtRest : MethodName := ⟨RX0, "isAtRest", "()Z"⟩
abbrev cX0_overtook : ByteArray := prog_2_method_7_code
def yX0_overtook : MethodName := ⟨RX0, "overtook", "(LStormLoft$Ball;)Z"⟩
abbrev cX0_stayedWith : ByteArray := prog_2_method_8_code
def yX0_stayedWith : MethodName := ⟨RX0, "stayedWith", "(LStormLoft$Ball;)Z"⟩
def RX1 : String := "StormLoft$Board"
def TX1 : u_T := fun k => match k with
  | 0 => ("StormLoft$Board", "parts", "I", true)
  | 1 => ("StormLoft$Board", "slope", "I", true)
  | 2 => ("StormLoft$Board", "rough", "I", true)
  | 3 => ("StormLoft$Board", "drop", "I", true)
  | _ => ("StormLoft$Board", "turn", "I", true)
def tyX1 : Nat → FieldType := fun k => match k with
  | 0 => .int
  | 1 => .int
  | 2 => .int
  | 3 => .int
  | _ => .int
abbrev wsX10 : List Cond := u_ws RX1 TX1 5
theorem nmX1 : ∀ a, a < 5 → ∀ b, b < 5 → a ≠ b → (TX1 a).2.1 ≠ (TX1 b).2.1 := by decide +kernel
theorem tyX1_ok : ∀ k, k < 5 → parseFieldDescriptor (TX1 k).2.2.1 = some (tyX1 k) := by decide +kernel
abbrev cX1_init : ByteArray := prog_3_method_1_code
def yX1_init : MethodName := ⟨RX1, "<init>", "(IIIII)V"⟩
def RX2 : String := "StormLoft$Carpenter"
def TX2 : u_T := fun k => match k with
  | 0 => ("StormLoft$Carpenter", "tick", "[I", true)
  | 1 => ("StormLoft$Carpenter", "place", "[I", true)
  | 2 => ("StormLoft$Carpenter", "part", "[I", true)
  | 3 => ("StormLoft$Carpenter", "speed", "[I", true)
  | 4 => ("StormLoft$Carpenter", "knocks", "[I", true)
  | 5 => ("StormLoft$Carpenter", "sum", "[I", true)
  | 6 => ("StormLoft$Carpenter", "chosen", "[I", true)
  | 7 => ("StormLoft$Carpenter", "ball", "LStormLoft$Ball;", true)
  | 8 => ("StormLoft$Carpenter", "laid", "[I", true)
  | 9 => ("StormLoft$Carpenter", "laidCount", "I", false)
  | 10 => ("StormLoft$Carpenter", "wornSet", "I", false)
  | 11 => ("StormLoft$Carpenter", "many", "I", false)
  | 12 => ("StormLoft$Carpenter", "choice", "I", false)
  | _ => ("StormLoft$Carpenter", "least", "I", false)
def tyX2 : Nat → FieldType := fun k => match k with
  | 0 => .array .int
  | 1 => .array .int
  | 2 => .array .int
  | 3 => .array .int
  | 4 => .array .int
  | 5 => .array .int
  | 6 => .array .int
  | 7 => .object "StormLoft$Ball"
  | 8 => .array .int
  | 9 => .int
  | 10 => .int
  | 11 => .int
  | 12 => .int
  | _ => .int
abbrev wsX20 : List Cond := u_ws RX2 TX2 14
theorem nmX2 : ∀ a, a < 14 → ∀ b, b < 14 → a ≠ b → (TX2 a).2.1 ≠ (TX2 b).2.1 := by decide +kernel
theorem tyX2_ok : ∀ k, k < 14 → parseFieldDescriptor (TX2 k).2.2.1 = some (tyX2 k) := by decide +kernel
abbrev cX2_init : ByteArray := prog_4_method_1_code
def yX2_init : MethodName := ⟨RX2, "<init>", "()V"⟩
abbrev cX2_laidAt : ByteArray := prog_4_method_2_code
def yX2_laidAt : MethodName := ⟨RX2, "laidAt", "(I)I"⟩
abbrev cX2_layLikest : ByteArray := prog_4_method_3_code
def yX2_layLikest : MethodName := ⟨RX2, "layLikest", "([LStormLoft$Board;IILStormLoft$Tape;)I"⟩
abbrev cX2_explain : ByteArray := prog_4_method_4_code
def yX2_explain : MethodName := ⟨RX2, "explain", "(LStormLoft$Path;LStormLoft$Tape;)I"⟩
abbrev cX2_begin : ByteArray := prog_4_method_5_code
def yX2_begin : MethodName := ⟨RX2, "begin", "()V"⟩
abbrev cX2_store : ByteArray := prog_4_method_6_code
def yX2_store : MethodName := ⟨RX2, "store", "(II)V"⟩
abbrev cX2_load : ByteArray := prog_4_method_7_code
def yX2_load : MethodName := ⟨RX2, "load", "(I)V"⟩
abbrev cX2_rollToEnd : ByteArray := prog_4_method_8_code
def yX2_rollToEnd : MethodName := ⟨RX2, "rollToEnd", "(LStormLoft$Board;II)I"⟩
abbrev cX2_glideToEnd : ByteArray := prog_4_method_9_code
def yX2_glideToEnd : MethodName := ⟨RX2, "glideToEnd", "(LStormLoft$Board;II)I"⟩
abbrev cX2_layOn : ByteArray := prog_4_method_10_code
def yX2_layOn : MethodName := ⟨RX2, "layOn", "(LStormLoft$Carpenter;[LStormLoft$Board;LStormLoft$Tape;I)V"⟩
abbrev cX2_passes : ByteArray := prog_4_method_11_code
def yX2_passes : MethodName := ⟨RX2, "passes", "(LStormLoft$Board;LStormLoft$Tape;I)Z"⟩
abbrev cX2_leastPossible : ByteArray := prog_4_method_12_code
def yX2_leastPossible : MethodName := ⟨RX2, "leastPossible", "(LStormLoft$Tape;I)I"⟩
abbrev cX2_judge : ByteArray := prog_4_method_13_code
def yX2_judge : MethodName := ⟨RX2, "judge", "(LStormLoft$Tape;II)V"⟩
abbrev cX2_wearOn : ByteArray := prog_4_method_14_code
def yX2_wearOn : MethodName := ⟨RX2, "wearOn", "(LStormLoft$Carpenter;LStormLoft$Path;LStormLoft$Tape;I)V"⟩
abbrev cX2_leave : ByteArray := prog_4_method_15_code
def yX2_leave : MethodName := ⟨RX2, "leave", "(LStormLoft$Path;LStormLoft$Board;LStormLoft$Tape;II)V"⟩
def RX3 : String := "StormLoft$Crew"
def TX3 : u_T := fun k => match k with
  | 0 => ("StormLoft$Crew", "home", "[I", true)
  | 1 => ("StormLoft$Crew", "size", "I", false)
  | 2 => ("StormLoft$Crew", "doer", "[I", true)
  | 3 => ("StormLoft$Crew", "cost", "[[I", true)
  | 4 => ("StormLoft$Crew", "rowPrice", "[I", true)
  | 5 => ("StormLoft$Crew", "columnPrice", "[I", true)
  | 6 => ("StormLoft$Crew", "columnOf", "[I", true)
  | 7 => ("StormLoft$Crew", "rowOf", "[I", true)
  | 8 => ("StormLoft$Crew", "slack", "[I", true)
  | 9 => ("StormLoft$Crew", "cameFrom", "[I", true)
  | 10 => ("StormLoft$Crew", "seen", "[I", true)
  | 11 => ("StormLoft$Crew", "settled", "[I", true)
  | 12 => ("StormLoft$Crew", "queue", "[I", true)
  | 13 => ("StormLoft$Crew", "standsAt", "[I", true)
  | 14 => ("StormLoft$Crew", "events", "I", false)
  | _ => ("StormLoft$Crew", "side", "I", false)
def tyX3 : Nat → FieldType := fun k => match k with
  | 0 => .array .int
  | 1 => .int
  | 2 => .array .int
  | 3 => .array (.array .int)
  | 4 => .array .int
  | 5 => .array .int
  | 6 => .array .int
  | 7 => .array .int
  | 8 => .array .int
  | 9 => .array .int
  | 10 => .array .int
  | 11 => .array .int
  | 12 => .array .int
  | 13 => .array .int
  | 14 => .int
  | _ => .int
abbrev wsX30 : List Cond := u_ws RX3 TX3 16
theorem nmX3 : ∀ a, a < 16 → ∀ b, b < 16 → a ≠ b → (TX3 a).2.1 ≠ (TX3 b).2.1 := by decide +kernel
theorem tyX3_ok : ∀ k, k < 16 → parseFieldDescriptor (TX3 k).2.2.1 = some (tyX3 k) := by decide +kernel
abbrev cX3_init : ByteArray := prog_5_method_1_code
def yX3_init : MethodName := ⟨RX3, "<init>", "()V"⟩
abbrev cX3_forget : ByteArray := prog_5_method_2_code
def yX3_forget : MethodName := ⟨RX3, "forget", "()V"⟩
abbrev cX3_add : ByteArray := prog_5_method_3_code
def yX3_add : MethodName := ⟨RX3, "add", "(I)I"⟩
abbrev cX3_doerOf : ByteArray := prog_5_method_4_code
def yX3_doerOf : MethodName := ⟨RX3, "doerOf", "(I)I"⟩
abbrev cX3_makeMost : ByteArray := prog_5_method_5_code
def yX3_makeMost : MethodName := ⟨RX3, "makeMost", "(LStormLoft$Plan;LStormLoft$Machines;)I"⟩
abbrev cX3_costOf : ByteArray := prog_5_method_6_code
def yX3_costOf : MethodName := ⟨RX3, "costOf", "(IILStormLoft$Plan;LStormLoft$Machines;)I"⟩
abbrev cX3_assignAll : ByteArray := prog_5_method_7_code
def yX3_assignAll : MethodName := ⟨RX3, "assignAll", "()V"⟩
abbrev cX3_assignRow : ByteArray := prog_5_method_8_code
def yX3_assignRow : MethodName := ⟨RX3, "assignRow", "(I)V"⟩
abbrev cX3_relax : ByteArray := prog_5_method_9_code
def yX3_relax : MethodName := ⟨RX3, "relax", "(II)V"⟩
abbrev cX3_nearest : ByteArray := prog_5_method_10_code
def yX3_nearest : MethodName := ⟨RX3, "nearest", "()I"⟩
abbrev cX3_lower : ByteArray := prog_5_method_11_code
def yX3_lower : MethodName := ⟨RX3, "lower", "(II)V"⟩
abbrev cX3_flip : ByteArray := prog_5_method_12_code
def yX3_flip : MethodName := ⟨RX3, "flip", "(II)V"⟩
abbrev cX3_chooseFirst : ByteArray := prog_5_method_13_code
def yX3_chooseFirst : MethodName := ⟨RX3, "chooseFirst", "()V"⟩
abbrev cX3_isFree : ByteArray := prog_5_method_14_code
def yX3_isFree : MethodName := ⟨RX3, "isFree", "(II)Z"⟩
abbrev cX3_canDoNext : ByteArray := prog_5_method_15_code
def yX3_canDoNext : MethodName := ⟨RX3, "canDoNext", "(II)Z"⟩
abbrev cX3_reaches : ByteArray := prog_5_method_16_code
def yX3_reaches : MethodName := ⟨RX3, "reaches", "(II)Z"⟩
def RX4 : String := "StormLoft$Fall"
def TX4 : u_T := fun k => match k with
  | 0 => ("StormLoft$Fall", "tick", "[I", true)
  | 1 => ("StormLoft$Fall", "place", "[I", true)
  | 2 => ("StormLoft$Fall", "strong", "[I", true)
  | 3 => ("StormLoft$Fall", "ball", "LStormLoft$Ball;", true)
  | 4 => ("StormLoft$Fall", "knocks", "I", false)
  | 5 => ("StormLoft$Fall", "end", "I", false)
  | 6 => ("StormLoft$Fall", "jumped", "I", false)
  | _ => ("StormLoft$Fall", "fastest", "I", false)
def tyX4 : Nat → FieldType := fun k => match k with
  | 0 => .array .int
  | 1 => .array .int
  | 2 => .array .int
  | 3 => .object "StormLoft$Ball"
  | 4 => .int
  | 5 => .int
  | 6 => .int
  | _ => .int
abbrev wsX40 : List Cond := u_ws RX4 TX4 8
theorem nmX4 : ∀ a, a < 8 → ∀ b, b < 8 → a ≠ b → (TX4 a).2.1 ≠ (TX4 b).2.1 := by decide +kernel
theorem tyX4_ok : ∀ k, k < 8 → parseFieldDescriptor (TX4 k).2.2.1 = some (tyX4 k) := by decide +kernel
abbrev cX4_init : ByteArray := prog_6_method_1_code
def yX4_init : MethodName := ⟨RX4, "<init>", "()V"⟩
abbrev cX4_follow : ByteArray := prog_6_method_2_code
def yX4_follow : MethodName := ⟨RX4, "follow", "(LStormLoft$Path;I)V"⟩
abbrev cX4_hear : ByteArray := prog_6_method_3_code
def yX4_hear : MethodName := ⟨RX4, "hear", "(III)V"⟩
abbrev cX4_answer : ByteArray := prog_6_method_4_code
def yX4_answer : MethodName := ⟨RX4, "answer", "(I)I"⟩
abbrev cX4_knockAt : ByteArray := prog_6_method_5_code
def yX4_knockAt : MethodName := ⟨RX4, "knockAt", "(II)I"⟩
def RX5 : String := "StormLoft$Machines"
def TX5 : u_T := fun k => match k with
  | 0 => ("StormLoft$Machines", "kind", "[I", true)
  | 1 => ("StormLoft$Machines", "x", "[I", true)
  | 2 => ("StormLoft$Machines", "a", "[I", true)
  | 3 => ("StormLoft$Machines", "b", "[I", true)
  | _ => ("StormLoft$Machines", "size", "I", false)
def tyX5 : Nat → FieldType := fun k => match k with
  | 0 => .array .int
  | 1 => .array .int
  | 2 => .array .int
  | 3 => .array .int
  | _ => .int
abbrev wsX50 : List Cond := u_ws RX5 TX5 5
theorem nmX5 : ∀ a, a < 5 → ∀ b, b < 5 → a ≠ b → (TX5 a).2.1 ≠ (TX5 b).2.1 := by decide +kernel
theorem tyX5_ok : ∀ k, k < 5 → parseFieldDescriptor (TX5 k).2.2.1 = some (tyX5 k) := by decide +kernel
abbrev cX5_init : ByteArray := prog_7_method_1_code
def yX5_init : MethodName := ⟨RX5, "<init>", "()V"⟩
abbrev cX5_add : ByteArray := prog_7_method_2_code
def yX5_add : MethodName := ⟨RX5, "add", "(IIII)I"⟩
abbrev cX5_is : ByteArray := prog_7_method_3_code
def yX5_is : MethodName := ⟨RX5, "is", "(I)Z"⟩
abbrev cX5_kindOf : ByteArray := prog_7_method_4_code
def yX5_kindOf : MethodName := ⟨RX5, "kindOf", "(I)I"⟩
abbrev cX5_placeOf : ByteArray := prog_7_method_5_code
def yX5_placeOf : MethodName := ⟨RX5, "placeOf", "(I)I"⟩
abbrev cX5_firstOf : ByteArray := prog_7_method_6_code
def yX5_firstOf : MethodName := ⟨RX5, "firstOf", "(I)I"⟩
abbrev cX5_secondOf : ByteArray := prog_7_method_7_code
def yX5_secondOf : MethodName := ⟨RX5, "secondOf", "(I)I"⟩
abbrev cX5_leastNumber : ByteArray := prog_7_method_8_code
def yX5_leastNumber : MethodName := ⟨RX5, "leastNumber", "(I)I"⟩
abbrev cX5_mostNumber : ByteArray := prog_7_method_9_code
def yX5_mostNumber : MethodName := ⟨RX5, "mostNumber", "(I)I"⟩
abbrev cX5_takes : ByteArray := prog_7_method_10_code
def yX5_takes : MethodName := ⟨RX5, "takes", "(II)I"⟩
abbrev cX5_strength : ByteArray := prog_7_method_11_code
def yX5_strength : MethodName := ⟨RX5, "strength", "(II)I"⟩
abbrev cX5_ballsNeeded : ByteArray := prog_7_method_12_code
def yX5_ballsNeeded : MethodName := ⟨RX5, "ballsNeeded", "(LStormLoft$Plan;II)I"⟩
abbrev cX5_letsGo : ByteArray := prog_7_method_13_code
def yX5_letsGo : MethodName := ⟨RX5, "letsGo", "(LStormLoft$Plan;II)Z"⟩
abbrev cX5_fillingsNeeded : ByteArray := prog_7_method_14_code
def yX5_fillingsNeeded : MethodName := ⟨RX5, "fillingsNeeded", "(LStormLoft$Plan;I)I"⟩
def RX6 : String := "StormLoft$Night"
def TX6 : u_T := fun k => match k with
  | 0 => ("StormLoft$Night", "tick", "[I", true)
  | 1 => ("StormLoft$Night", "source", "[I", true)
  | 2 => ("StormLoft$Night", "strong", "[I", true)
  | 3 => ("StormLoft$Night", "kept", "I", false)
  | 4 => ("StormLoft$Night", "all", "I", false)
  | 5 => ("StormLoft$Night", "loudness", "I", false)
  | 6 => ("StormLoft$Night", "balls", "[LStormLoft$Ball;", true)
  | 7 => ("StormLoft$Night", "letGo", "I", false)
  | 8 => ("StormLoft$Night", "ended", "I", false)
  | 9 => ("StormLoft$Night", "bumps", "I", false)
  | 10 => ("StormLoft$Night", "gates", "[I", true)
  | 11 => ("StormLoft$Night", "now", "I", false)
  | _ => ("StormLoft$Night", "still", "Z", false)
def tyX6 : Nat → FieldType := fun k => match k with
  | 0 => .array .int
  | 1 => .array .int
  | 2 => .array .int
  | 3 => .int
  | 4 => .int
  | 5 => .int
  | 6 => .array (.object "StormLoft$Ball")
  | 7 => .int
  | 8 => .int
  | 9 => .int
  | 10 => .array .int
  | 11 => .int
  | _ => .boolean
abbrev wsX60 : List Cond := u_ws RX6 TX6 13
theorem nmX6 : ∀ a, a < 13 → ∀ b, b < 13 → a ≠ b → (TX6 a).2.1 ≠ (TX6 b).2.1 := by decide +kernel
theorem tyX6_ok : ∀ k, k < 13 → parseFieldDescriptor (TX6 k).2.2.1 = some (tyX6 k) := by decide +kernel
abbrev cX6_init : ByteArray := prog_8_method_1_code
def yX6_init : MethodName := ⟨RX6, "<init>", "()V"⟩
abbrev cX6_goThrough : ByteArray := prog_8_method_2_code
def yX6_goThrough : MethodName := ⟨RX6, "goThrough", "(LStormLoft$Plan;LStormLoft$Machines;[LStormLoft$Path;)V"⟩
abbrev cX6_rollAll : ByteArray := prog_8_method_3_code
def yX6_rollAll : MethodName := ⟨RX6, "rollAll", "([LStormLoft$Path;)V"⟩
abbrev cX6_roll : ByteArray := prog_8_method_4_code
def yX6_roll : MethodName := ⟨RX6, "roll", "(LStormLoft$Ball;LStormLoft$Path;)V"⟩
abbrev cX6_bumpAll : ByteArray := prog_8_method_5_code
def yX6_bumpAll : MethodName := ⟨RX6, "bumpAll", "()V"⟩
abbrev cX6_allAreAlike : ByteArray := prog_8_method_6_code
def yX6_allAreAlike : MethodName := ⟨RX6, "allAreAlike", "()Z"⟩
abbrev cX6_use : ByteArray := prog_8_method_7_code
def yX6_use : MethodName := ⟨RX6, "use", "(IILStormLoft$Machines;)V"⟩
abbrev cX6_hear : ByteArray := prog_8_method_8_code
def yX6_hear : MethodName := ⟨RX6, "hear", "(II)V"⟩
abbrev cX6_soundAt : ByteArray := prog_8_method_9_code
def yX6_soundAt : MethodName := ⟨RX6, "soundAt", "(II)I"⟩
def RX7 : String := "StormLoft$Path"
def TX7 : u_T := fun k => match k with
  | 0 => ("StormLoft$Path", "boards", "[LStormLoft$Board;", true)
  | 1 => ("StormLoft$Path", "straight", "[I", true)
  | 2 => ("StormLoft$Path", "turned", "[I", true)
  | _ => ("StormLoft$Path", "size", "I", false)
def tyX7 : Nat → FieldType := fun k => match k with
  | 0 => .array (.object "StormLoft$Board")
  | 1 => .array .int
  | 2 => .array .int
  | _ => .int
abbrev wsX70 : List Cond := u_ws RX7 TX7 4
theorem nmX7 : ∀ a, a < 4 → ∀ b, b < 4 → a ≠ b → (TX7 a).2.1 ≠ (TX7 b).2.1 := by decide +kernel
theorem tyX7_ok : ∀ k, k < 4 → parseFieldDescriptor (TX7 k).2.2.1 = some (tyX7 k) := by decide +kernel
abbrev cX7_init : ByteArray := prog_9_method_1_code
def yX7_init : MethodName := ⟨RX7, "<init>", "()V"⟩
abbrev cX7_isTold : ByteArray := prog_9_method_2_code
def yX7_isTold : MethodName := ⟨RX7, "isTold", "(LStormLoft$Tape;I)Z"⟩
abbrev cX7_leadsOn : ByteArray := prog_9_method_3_code
def yX7_leadsOn : MethodName := ⟨RX7, "leadsOn", "(III)Z"⟩
abbrev cX7_build : ByteArray := prog_9_method_4_code
def yX7_build : MethodName := ⟨RX7, "build", "(LStormLoft$Tape;[LStormLoft$Board;)V"⟩
abbrev cX7_boardAt : ByteArray := prog_9_method_5_code
def yX7_boardAt : MethodName := ⟨RX7, "boardAt", "(I)LStormLoft$Board;"⟩
abbrev cX7_leadsTo : ByteArray := prog_9_method_6_code
def yX7_leadsTo : MethodName := ⟨RX7, "leadsTo", "(II)I"⟩
abbrev cX7_carryOn : ByteArray := prog_9_method_7_code
def yX7_carryOn : MethodName := ⟨RX7, "carryOn", "(LStormLoft$Ball;I)I"⟩
def RX8 : String := "StormLoft$Plan"
def TX8 : u_T := fun k => match k with
  | 0 => ("StormLoft$Plan", "tick", "[I", true)
  | 1 => ("StormLoft$Plan", "machine", "[I", true)
  | 2 => ("StormLoft$Plan", "number", "[I", true)
  | 3 => ("StormLoft$Plan", "size", "I", false)
  | _ => ("StormLoft$Plan", "over", "Z", false)
def tyX8 : Nat → FieldType := fun k => match k with
  | 0 => .array .int
  | 1 => .array .int
  | 2 => .array .int
  | 3 => .int
  | _ => .boolean
abbrev wsX80 : List Cond := u_ws RX8 TX8 5
theorem nmX8 : ∀ a, a < 5 → ∀ b, b < 5 → a ≠ b → (TX8 a).2.1 ≠ (TX8 b).2.1 := by decide +kernel
theorem tyX8_ok : ∀ k, k < 5 → parseFieldDescriptor (TX8 k).2.2.1 = some (tyX8 k) := by decide +kernel
abbrev cX8_init : ByteArray := prog_10_method_1_code
def yX8_init : MethodName := ⟨RX8, "<init>", "()V"⟩
abbrev cX8_clear : ByteArray := prog_10_method_2_code
def yX8_clear : MethodName := ⟨RX8, "clear", "()V"⟩
abbrev cX8_is : ByteArray := prog_10_method_3_code
def yX8_is : MethodName := ⟨RX8, "is", "(I)Z"⟩
abbrev cX8_tickOf : ByteArray := prog_10_method_4_code
def yX8_tickOf : MethodName := ⟨RX8, "tickOf", "(I)I"⟩
abbrev cX8_machineOf : ByteArray := prog_10_method_5_code
def yX8_machineOf : MethodName := ⟨RX8, "machineOf", "(I)I"⟩
abbrev cX8_numberOf : ByteArray := prog_10_method_6_code
def yX8_numberOf : MethodName := ⟨RX8, "numberOf", "(I)I"⟩
abbrev cX8_add : ByteArray := prog_10_method_7_code
def yX8_add : MethodName := ⟨RX8, "add", "(III)V"⟩
abbrev cX8_addAll : ByteArray := prog_10_method_8_code
def yX8_addAll : MethodName := ⟨RX8, "addAll", "(LStormLoft$Plan;I)V"⟩
abbrev cX8_repeat : ByteArray := prog_10_method_9_code
def yX8_repeat : MethodName := ⟨RX8, "repeat", "(III)V"⟩
abbrev cX8_lastTick : ByteArray := prog_10_method_10_code
def yX8_lastTick : MethodName := ⟨RX8, "lastTick", "()I"⟩
abbrev cX8_becomes : ByteArray := prog_10_method_11_code
def yX8_becomes : MethodName := ⟨RX8, "becomes", "(LStormLoft$Plan;)V"⟩
abbrev cX8_sink : ByteArray := prog_10_method_12_code
def yX8_sink : MethodName := ⟨RX8, "sink", "(I)V"⟩
abbrev cX8_swap : ByteArray := prog_10_method_13_code
def yX8_swap : MethodName := ⟨RX8, "swap", "([II)V"⟩
def RX9 : String := "StormLoft$Reader"
def TX9 : u_T := fun k => match k with
  | 0 => ("StormLoft$Reader", "top", "LStormLoft$Plan;", true)
  | 1 => ("StormLoft$Reader", "storms", "[LStormLoft$Plan;", true)
  | 2 => ("StormLoft$Reader", "nameStart", "[I", true)
  | 3 => ("StormLoft$Reader", "nameStop", "[I", true)
  | 4 => ("StormLoft$Reader", "stormCount", "I", false)
  | 5 => ("StormLoft$Reader", "current", "LStormLoft$Plan;", false)
  | 6 => ("StormLoft$Reader", "timesFrom", "[I", true)
  | 7 => ("StormLoft$Reader", "timesMany", "[I", true)
  | 8 => ("StormLoft$Reader", "timesEvery", "[I", true)
  | 9 => ("StormLoft$Reader", "open", "I", false)
  | 10 => ("StormLoft$Reader", "faultKind", "I", false)
  | _ => ("StormLoft$Reader", "faultPlace", "I", false)
def tyX9 : Nat → FieldType := fun k => match k with
  | 0 => .object "StormLoft$Plan"
  | 1 => .array (.object "StormLoft$Plan")
  | 2 => .array .int
  | 3 => .array .int
  | 4 => .int
  | 5 => .object "StormLoft$Plan"
  | 6 => .array .int
  | 7 => .array .int
  | 8 => .array .int
  | 9 => .int
  | 10 => .int
  | _ => .int
abbrev wsX90 : List Cond := u_ws RX9 TX9 12
theorem nmX9 : ∀ a, a < 12 → ∀ b, b < 12 → a ≠ b → (TX9 a).2.1 ≠ (TX9 b).2.1 := by decide +kernel
theorem tyX9_ok : ∀ k, k < 12 → parseFieldDescriptor (TX9 k).2.2.1 = some (tyX9 k) := by decide +kernel
abbrev cX9_init : ByteArray := prog_11_method_1_code
def yX9_init : MethodName := ⟨RX9, "<init>", "()V"⟩
abbrev cX9_understands : ByteArray := prog_11_method_2_code
def yX9_understands : MethodName := ⟨RX9, "understands", "(LStormLoft$Tape;LStormLoft$Machines;)Z"⟩
abbrev cX9_begin : ByteArray := prog_11_method_3_code
def yX9_begin : MethodName := ⟨RX9, "begin", "(LStormLoft$Tape;)V"⟩
abbrev cX9_fail : ByteArray := prog_11_method_4_code
def yX9_fail : MethodName := ⟨RX9, "fail", "(II)V"⟩
abbrev cX9_readUse : ByteArray := prog_11_method_5_code
def yX9_readUse : MethodName := ⟨RX9, "readUse", "(LStormLoft$Tape;LStormLoft$Machines;)V"⟩
abbrev cX9_readTimes : ByteArray := prog_11_method_6_code
def yX9_readTimes : MethodName := ⟨RX9, "readTimes", "(LStormLoft$Tape;)V"⟩
abbrev cX9_readPlay : ByteArray := prog_11_method_7_code
def yX9_readPlay : MethodName := ⟨RX9, "readPlay", "(LStormLoft$Tape;)V"⟩
abbrev cX9_readStorm : ByteArray := prog_11_method_8_code
def yX9_readStorm : MethodName := ⟨RX9, "readStorm", "(LStormLoft$Tape;)V"⟩
abbrev cX9_close : ByteArray := prog_11_method_9_code
def yX9_close : MethodName := ⟨RX9, "close", "(LStormLoft$Tape;)V"⟩
abbrev cX9_stormAt : ByteArray := prog_11_method_10_code
def yX9_stormAt : MethodName := ⟨RX9, "stormAt", "(I)LStormLoft$Plan;"⟩
abbrev cX9_findStorm : ByteArray := prog_11_method_11_code
def yX9_findStorm : MethodName := ⟨RX9, "findStorm", "(LStormLoft$Tape;)I"⟩
abbrev cX9_isName : ByteArray := prog_11_method_12_code
def yX9_isName : MethodName := ⟨RX9, "isName", "(LStormLoft$Tape;)Z"⟩
abbrev cX9_readWord : ByteArray := prog_11_method_13_code
def yX9_readWord : MethodName := ⟨RX9, "readWord", "(LStormLoft$Tape;Ljava/lang/String;)V"⟩
abbrev cX9_readSemicolon : ByteArray := prog_11_method_14_code
def yX9_readSemicolon : MethodName := ⟨RX9, "readSemicolon", "(LStormLoft$Tape;)V"⟩
abbrev cX9_readNumber : ByteArray := prog_11_method_15_code
def yX9_readNumber : MethodName := ⟨RX9, "readNumber", "(LStormLoft$Tape;II)I"⟩
def RX10 : String := "StormLoft$Tape"
def TX10 : u_T := fun k => match k with
  | 0 => ("StormLoft$Tape", "bytes", "[I", true)
  | 1 => ("StormLoft$Tape", "size", "I", false)
  | 2 => ("StormLoft$Tape", "ticks", "[I", true)
  | 3 => ("StormLoft$Tape", "tickCount", "I", false)
  | 4 => ("StormLoft$Tape", "at", "I", false)
  | 5 => ("StormLoft$Tape", "kind", "I", false)
  | 6 => ("StormLoft$Tape", "start", "I", false)
  | 7 => ("StormLoft$Tape", "stop", "I", false)
  | _ => ("StormLoft$Tape", "value", "I", false)
def tyX10 : Nat → FieldType := fun k => match k with
  | 0 => .array .int
  | 1 => .int
  | 2 => .array .int
  | 3 => .int
  | 4 => .int
  | 5 => .int
  | 6 => .int
  | 7 => .int
  | _ => .int
abbrev wsX100 : List Cond := u_ws RX10 TX10 9
theorem nmX10 : ∀ a, a < 9 → ∀ b, b < 9 → a ≠ b → (TX10 a).2.1 ≠ (TX10 b).2.1 := by decide +kernel
theorem tyX10_ok : ∀ k, k < 9 → parseFieldDescriptor (TX10 k).2.2.1 = some (tyX10 k) := by decide +kernel
abbrev cX10_init : ByteArray := prog_12_method_1_code
def yX10_init : MethodName := ⟨RX10, "<init>", "()V"⟩
abbrev cX10_take : ByteArray := prog_12_method_2_code
def yX10_take : MethodName := ⟨RX10, "take", "(IIIII)I"⟩
abbrev cX10_put : ByteArray := prog_12_method_3_code
def yX10_put : MethodName := ⟨RX10, "put", "(I)V"⟩
abbrev cX10_cut : ByteArray := prog_12_method_4_code
def yX10_cut : MethodName := ⟨RX10, "cut", "(I)Z"⟩
abbrev cX10_clear : ByteArray := prog_12_method_5_code
def yX10_clear : MethodName := ⟨RX10, "clear", "()V"⟩
abbrev cX10_byteAt : ByteArray := prog_12_method_6_code
def yX10_byteAt : MethodName := ⟨RX10, "byteAt", "(I)I"⟩
abbrev cX10_readTicks : ByteArray := prog_12_method_7_code
def yX10_readTicks : MethodName := ⟨RX10, "readTicks", "()Z"⟩
abbrev cX10_tickAt : ByteArray := prog_12_method_8_code
def yX10_tickAt : MethodName := ⟨RX10, "tickAt", "(I)I"⟩
abbrev cX10_rewind : ByteArray := prog_12_method_9_code
def yX10_rewind : MethodName := ⟨RX10, "rewind", "()V"⟩
abbrev cX10_nextToken : ByteArray := prog_12_method_10_code
def yX10_nextToken : MethodName := ⟨RX10, "nextToken", "()V"⟩
abbrev cX10_readLettersAndDigits : ByteArray := prog_12_method_11_code
def yX10_readLettersAndDigits : MethodName := ⟨RX10, "readLettersAndDigits", "()V"⟩
abbrev cX10_isBlank : ByteArray := prog_12_method_12_code
def yX10_isBlank : MethodName := ⟨RX10, "isBlank", "(I)Z"⟩
abbrev cX10_isLetter : ByteArray := prog_12_method_13_code
def yX10_isLetter : MethodName := ⟨RX10, "isLetter", "(I)Z"⟩
abbrev cX10_isDigit : ByteArray := prog_12_method_14_code
def yX10_isDigit : MethodName := ⟨RX10, "isDigit", "(I)Z"⟩
abbrev cX10_isWord : ByteArray := prog_12_method_15_code
def yX10_isWord : MethodName := ⟨RX10, "isWord", "(Ljava/lang/String;)Z"⟩
abbrev cX10_isWordAt : ByteArray := prog_12_method_16_code
def yX10_isWordAt : MethodName := ⟨RX10, "isWordAt", "(II)Z"⟩
def RX11 : String := "StormLoft"
def TX11 : u_T := fun k => match k with
  | 0 => ("StormLoft", "tape", "LStormLoft$Tape;", true)
  | 1 => ("StormLoft", "stock", "[LStormLoft$Board;", true)
  | 2 => ("StormLoft", "runs", "[LStormLoft$Path;", true)
  | 3 => ("StormLoft", "machines", "LStormLoft$Machines;", true)
  | 4 => ("StormLoft", "crew", "LStormLoft$Crew;", true)
  | 5 => ("StormLoft", "reader", "LStormLoft$Reader;", true)
  | 6 => ("StormLoft", "plan", "LStormLoft$Plan;", true)
  | 7 => ("StormLoft", "heardFall", "LStormLoft$Fall;", true)
  | 8 => ("StormLoft", "triedFall", "LStormLoft$Fall;", true)
  | 9 => ("StormLoft", "playing", "LStormLoft$Night;", true)
  | 10 => ("StormLoft", "carpenter", "LStormLoft$Carpenter;", true)
  | _ => ("StormLoft", "boards", "I", false)
def tyX11 : Nat → FieldType := fun k => match k with
  | 0 => .object "StormLoft$Tape"
  | 1 => .array (.object "StormLoft$Board")
  | 2 => .array (.object "StormLoft$Path")
  | 3 => .object "StormLoft$Machines"
  | 4 => .object "StormLoft$Crew"
  | 5 => .object "StormLoft$Reader"
  | 6 => .object "StormLoft$Plan"
  | 7 => .object "StormLoft$Fall"
  | 8 => .object "StormLoft$Fall"
  | 9 => .object "StormLoft$Night"
  | 10 => .object "StormLoft$Carpenter"
  | _ => .int
abbrev wsX110 : List Cond := u_ws RX11 TX11 12
theorem nmX11 : ∀ a, a < 12 → ∀ b, b < 12 → a ≠ b → (TX11 a).2.1 ≠ (TX11 b).2.1 := by decide +kernel
theorem tyX11_ok : ∀ k, k < 12 → parseFieldDescriptor (TX11 k).2.2.1 = some (tyX11 k) := by decide +kernel
abbrev cX11_init : ByteArray := prog_1_method_1_code
def yX11_init : MethodName := ⟨RX11, "<init>", "()V"⟩
abbrev cX11_feed : ByteArray := prog_1_method_2_code
def yX11_feed : MethodName := ⟨RX11, "feed", "(IIIII)I"⟩
abbrev cX11_end : ByteArray := prog_1_method_3_code
def yX11_end : MethodName := ⟨RX11, "end", "(I)Z"⟩
abbrev cX11_board : ByteArray := prog_1_method_4_code
def yX11_board : MethodName := ⟨RX11, "board", "(IIIII)I"⟩
abbrev cX11_run : ByteArray := prog_1_method_5_code
def yX11_run : MethodName := ⟨RX11, "run", "(I)I"⟩
abbrev cX11_fall : ByteArray := prog_1_method_6_code
def yX11_fall : MethodName := ⟨RX11, "fall", "(III)I"⟩
abbrev cX11_knock : ByteArray := prog_1_method_7_code
def yX11_knock : MethodName := ⟨RX11, "knock", "(II)I"⟩
abbrev cX11_machine : ByteArray := prog_1_method_8_code
def yX11_machine : MethodName := ⟨RX11, "machine", "(IIII)I"⟩
abbrev cX11_man : ByteArray := prog_1_method_9_code
def yX11_man : MethodName := ⟨RX11, "man", "(I)I"⟩
abbrev cX11_score : ByteArray := prog_1_method_10_code
def yX11_score : MethodName := ⟨RX11, "score", "()I"⟩
abbrev cX11_fault : ByteArray := prog_1_method_11_code
def yX11_fault : MethodName := ⟨RX11, "fault", "()I"⟩
abbrev cX11_event : ByteArray := prog_1_method_12_code
def yX11_event : MethodName := ⟨RX11, "event", "(II)I"⟩
abbrev cX11_night : ByteArray := prog_1_method_13_code
def yX11_night : MethodName := ⟨RX11, "night", "()I"⟩
abbrev cX11_sound : ByteArray := prog_1_method_14_code
def yX11_sound : MethodName := ⟨RX11, "sound", "(II)I"⟩
abbrev cX11_told : ByteArray := prog_1_method_15_code
def yX11_told : MethodName := ⟨RX11, "told", "(I)I"⟩
abbrev cX11_made : ByteArray := prog_1_method_16_code
def yX11_made : MethodName := ⟨RX11, "made", "()I"⟩
abbrev cX11_who : ByteArray := prog_1_method_17_code
def yX11_who : MethodName := ⟨RX11, "who", "(I)I"⟩
abbrev cX11_balls : ByteArray := prog_1_method_18_code
def yX11_balls : MethodName := ⟨RX11, "balls", "(II)I"⟩
abbrev cX11_fillings : ByteArray := prog_1_method_19_code
def yX11_fillings : MethodName := ⟨RX11, "fillings", "(I)I"⟩
abbrev cX11_lay : ByteArray := prog_1_method_20_code
def yX11_lay : MethodName := ⟨RX11, "lay", "(I)I"⟩
abbrev cX11_laid : ByteArray := prog_1_method_21_code
def yX11_laid : MethodName := ⟨RX11, "laid", "(I)I"⟩
abbrev cX11_worn : ByteArray := prog_1_method_22_code
def yX11_worn : MethodName := ⟨RX11, "worn", "(I)I"⟩
abbrev cX11_count : ByteArray := prog_1_method_23_code
def yX11_count : MethodName := ⟨RX11, "count", "(I)I"⟩
abbrev cX11_within : ByteArray := prog_1_method_24_code
def yX11_within : MethodName := ⟨RX11, "within", "(III)Z"⟩
abbrev cX11_pathOf : ByteArray := prog_1_method_25_code
def yX11_pathOf : MethodName := ⟨RX11, "pathOf", "(I)LStormLoft$Path;"⟩
abbrev cX11_runsThatAre : ByteArray := prog_1_method_26_code
def yX11_runsThatAre : MethodName := ⟨RX11, "runsThatAre", "()I"⟩
abbrev cX11_canStand : ByteArray := prog_1_method_27_code
def yX11_canStand : MethodName := ⟨RX11, "canStand", "(III)Z"⟩
def RX12 : String := "StormLoftModel"
def TX12 : u_T := fun k => match k with
  | 0 => ("StormLoftModel", "thrown", "I", false)
  | 1 => ("StormLoftModel", "tape", "[I", true)
  | 2 => ("StormLoftModel", "taped", "I", false)
  | 3 => ("StormLoftModel", "length", "[I", true)
  | 4 => ("StormLoftModel", "slope", "[I", true)
  | 5 => ("StormLoftModel", "rough", "[I", true)
  | 6 => ("StormLoftModel", "drop", "[I", true)
  | 7 => ("StormLoftModel", "turn", "[I", true)
  | 8 => ("StormLoftModel", "placesOf", "[I", true)
  | 9 => ("StormLoftModel", "boardAt", "[I", true)
  | 10 => ("StormLoftModel", "onward", "[I", true)
  | 11 => ("StormLoftModel", "aside", "[I", true)
  | 12 => ("StormLoftModel", "less", "[I", true)
  | 13 => ("StormLoftModel", "boards", "I", false)
  | 14 => ("StormLoftModel", "place", "I", false)
  | 15 => ("StormLoftModel", "part", "I", false)
  | 16 => ("StormLoftModel", "speed", "I", false)
  | 17 => ("StormLoftModel", "strength", "I", false)
  | 18 => ("StormLoftModel", "jumped", "I", false)
  | 19 => ("StormLoftModel", "knockTick", "[I", true)
  | 20 => ("StormLoftModel", "knockPlace", "[I", true)
  | 21 => ("StormLoftModel", "knockStrength", "[I", true)
  | 22 => ("StormLoftModel", "toldTick", "[I", true)
  | 23 => ("StormLoftModel", "toldPlace", "[I", true)
  | 24 => ("StormLoftModel", "toldStrength", "[I", true)
  | 25 => ("StormLoftModel", "knocks", "I", false)
  | 26 => ("StormLoftModel", "ends", "I", false)
  | 27 => ("StormLoftModel", "fastest", "I", false)
  | 28 => ("StormLoftModel", "toldKnocks", "I", false)
  | 29 => ("StormLoftModel", "kindOf", "[I", true)
  | 30 => ("StormLoftModel", "stands", "[I", true)
  | 31 => ("StormLoftModel", "first", "[I", true)
  | 32 => ("StormLoftModel", "second", "[I", true)
  | 33 => ("StormLoftModel", "home", "[I", true)
  | 34 => ("StormLoftModel", "machines", "I", false)
  | 35 => ("StormLoftModel", "men", "I", false)
  | 36 => ("StormLoftModel", "size", "I", false)
  | 37 => ("StormLoftModel", "to", "I", false)
  | 38 => ("StormLoftModel", "from", "I", false)
  | 39 => ("StormLoftModel", "kind", "I", false)
  | 40 => ("StormLoftModel", "number", "I", false)
  | 41 => ("StormLoftModel", "fault", "I", false)
  | 42 => ("StormLoftModel", "faultAt", "I", false)
  | 43 => ("StormLoftModel", "word", "J", false)
  | 44 => ("StormLoftModel", "many", "[I", true)
  | 45 => ("StormLoftModel", "listTick", "[I", true)
  | 46 => ("StormLoftModel", "listMachine", "[I", true)
  | 47 => ("StormLoftModel", "listNumber", "[I", true)
  | 48 => ("StormLoftModel", "tooMuch", "[Z", true)
  | 49 => ("StormLoftModel", "stormName", "[J", true)
  | 50 => ("StormLoftModel", "times", "[I", true)
  | 51 => ("StormLoftModel", "every", "[I", true)
  | 52 => ("StormLoftModel", "open", "I", false)
  | 53 => ("StormLoftModel", "storms", "I", false)
  | 54 => ("StormLoftModel", "deep", "I", false)
  | 55 => ("StormLoftModel", "inStorm", "Z", false)
  | 56 => ("StormLoftModel", "tickOf", "[I", true)
  | 57 => ("StormLoftModel", "machineOf", "[I", true)
  | 58 => ("StormLoftModel", "numberOf", "[I", true)
  | 59 => ("StormLoftModel", "doneBy", "[I", true)
  | 60 => ("StormLoftModel", "events", "I", false)
  | 61 => ("StormLoftModel", "isMade", "Z", false)
  | 62 => ("StormLoftModel", "soundTick", "[I", true)
  | 63 => ("StormLoftModel", "soundFrom", "[I", true)
  | 64 => ("StormLoftModel", "soundStrength", "[I", true)
  | 65 => ("StormLoftModel", "ballRun", "[I", true)
  | 66 => ("StormLoftModel", "ballPlace", "[I", true)
  | 67 => ("StormLoftModel", "ballPart", "[I", true)
  | 68 => ("StormLoftModel", "ballSpeed", "[I", true)
  | 69 => ("StormLoftModel", "wasPlace", "[I", true)
  | 70 => ("StormLoftModel", "wasPart", "[I", true)
  | 71 => ("StormLoftModel", "gatesOf", "[I", true)
  | 72 => ("StormLoftModel", "kept", "I", false)
  | 73 => ("StormLoftModel", "balls", "I", false)
  | 74 => ("StormLoftModel", "ended", "I", false)
  | 75 => ("StormLoftModel", "bumps", "I", false)
  | 76 => ("StormLoftModel", "sounds", "I", false)
  | 77 => ("StormLoftModel", "together", "I", false)
  | 78 => ("StormLoftModel", "worths", "[I", true)
  | 79 => ("StormLoftModel", "offset", "[I", true)
  | 80 => ("StormLoftModel", "set", "[I", true)
  | 81 => ("StormLoftModel", "lastOf", "[I", true)
  | 82 => ("StormLoftModel", "binomial", "[I", true)
  | 83 => ("StormLoftModel", "full", "[I", true)
  | 84 => ("StormLoftModel", "turned", "[I", true)
  | 85 => ("StormLoftModel", "wished", "[I", true)
  | 86 => ("StormLoftModel", "laid", "[I", true)
  | 87 => ("StormLoftModel", "wishes", "I", false)
  | _ => ("StormLoftModel", "laidMany", "I", false)
def tyX12 : Nat → FieldType := fun k => match k with
  | 0 => .int
  | 1 => .array .int
  | 2 => .int
  | 3 => .array .int
  | 4 => .array .int
  | 5 => .array .int
  | 6 => .array .int
  | 7 => .array .int
  | 8 => .array .int
  | 9 => .array .int
  | 10 => .array .int
  | 11 => .array .int
  | 12 => .array .int
  | 13 => .int
  | 14 => .int
  | 15 => .int
  | 16 => .int
  | 17 => .int
  | 18 => .int
  | 19 => .array .int
  | 20 => .array .int
  | 21 => .array .int
  | 22 => .array .int
  | 23 => .array .int
  | 24 => .array .int
  | 25 => .int
  | 26 => .int
  | 27 => .int
  | 28 => .int
  | 29 => .array .int
  | 30 => .array .int
  | 31 => .array .int
  | 32 => .array .int
  | 33 => .array .int
  | 34 => .int
  | 35 => .int
  | 36 => .int
  | 37 => .int
  | 38 => .int
  | 39 => .int
  | 40 => .int
  | 41 => .int
  | 42 => .int
  | 43 => .long
  | 44 => .array .int
  | 45 => .array .int
  | 46 => .array .int
  | 47 => .array .int
  | 48 => .array .boolean
  | 49 => .array .long
  | 50 => .array .int
  | 51 => .array .int
  | 52 => .int
  | 53 => .int
  | 54 => .int
  | 55 => .boolean
  | 56 => .array .int
  | 57 => .array .int
  | 58 => .array .int
  | 59 => .array .int
  | 60 => .int
  | 61 => .boolean
  | 62 => .array .int
  | 63 => .array .int
  | 64 => .array .int
  | 65 => .array .int
  | 66 => .array .int
  | 67 => .array .int
  | 68 => .array .int
  | 69 => .array .int
  | 70 => .array .int
  | 71 => .array .int
  | 72 => .int
  | 73 => .int
  | 74 => .int
  | 75 => .int
  | 76 => .int
  | 77 => .int
  | 78 => .array .int
  | 79 => .array .int
  | 80 => .array .int
  | 81 => .array .int
  | 82 => .array .int
  | 83 => .array .int
  | 84 => .array .int
  | 85 => .array .int
  | 86 => .array .int
  | 87 => .int
  | _ => .int
abbrev wsX120 : List Cond := u_ws RX12 TX12 89
theorem nmX12 : ∀ a, a < 89 → ∀ b, b < 89 → a ≠ b → (TX12 a).2.1 ≠ (TX12 b).2.1 := by decide +kernel
theorem tyX12_ok : ∀ k, k < 89 → parseFieldDescriptor (TX12 k).2.2.1 = some (tyX12 k) := by decide +kernel
abbrev cX12_init : ByteArray := prog_14_method_1_code
def yX12_init : MethodName := ⟨RX12, "<init>", "()V"⟩
abbrev cX12_thrown : ByteArray := prog_14_method_2_code
def yX12_thrown : MethodName := ⟨RX12, "thrown", "()I"⟩
abbrev cX12_refuse : ByteArray := prog_14_method_3_code
def yX12_refuse : MethodName := ⟨RX12, "refuse", "()I"⟩
abbrev cX12_come : ByteArray := prog_14_method_4_code
def yX12_come : MethodName := ⟨RX12, "come", "(I)V"⟩
abbrev cX12_feed : ByteArray := prog_14_method_5_code
def yX12_feed : MethodName := ⟨RX12, "feed", "(IIIII)I"⟩
abbrev cX12_end : ByteArray := prog_14_method_6_code
def yX12_end : MethodName := ⟨RX12, "end", "(I)Z"⟩
abbrev cX12_isIn : ByteArray := prog_14_method_7_code
def yX12_isIn : MethodName := ⟨RX12, "isIn", "(III)Z"⟩
abbrev cX12_board : ByteArray := prog_14_method_8_code
def yX12_board : MethodName := ⟨RX12, "board", "(IIIII)I"⟩
abbrev cX12_isSlot : ByteArray := prog_14_method_9_code
def yX12_isSlot : MethodName := ⟨RX12, "isSlot", "(I)Z"⟩
abbrev cX12_isRun : ByteArray := prog_14_method_10_code
def yX12_isRun : MethodName := ⟨RX12, "isRun", "(I)Z"⟩
abbrev cX12_run : ByteArray := prog_14_method_11_code
def yX12_run : MethodName := ⟨RX12, "run", "(I)I"⟩
abbrev cX12_lengthAt : ByteArray := prog_14_method_12_code
def yX12_lengthAt : MethodName := ⟨RX12, "lengthAt", "(II)I"⟩
abbrev cX12_nextOf : ByteArray := prog_14_method_13_code
def yX12_nextOf : MethodName := ⟨RX12, "nextOf", "(III)I"⟩
abbrev cX12_step : ByteArray := prog_14_method_14_code
def yX12_step : MethodName := ⟨RX12, "step", "(II)V"⟩
abbrev cX12_follow : ByteArray := prog_14_method_15_code
def yX12_follow : MethodName := ⟨RX12, "follow", "(II)V"⟩
abbrev cX12_fall : ByteArray := prog_14_method_16_code
def yX12_fall : MethodName := ⟨RX12, "fall", "(III)I"⟩
abbrev cX12_knock : ByteArray := prog_14_method_17_code
def yX12_knock : MethodName := ⟨RX12, "knock", "(II)I"⟩
abbrev cX12_machine : ByteArray := prog_14_method_18_code
def yX12_machine : MethodName := ⟨RX12, "machine", "(IIII)I"⟩
abbrev cX12_man : ByteArray := prog_14_method_19_code
def yX12_man : MethodName := ⟨RX12, "man", "(I)I"⟩
abbrev cX12_byteAt : ByteArray := prog_14_method_20_code
def yX12_byteAt : MethodName := ⟨RX12, "byteAt", "(I)I"⟩
abbrev cX12_isDigit : ByteArray := prog_14_method_21_code
def yX12_isDigit : MethodName := ⟨RX12, "isDigit", "(I)Z"⟩
abbrev cX12_isLetter : ByteArray := prog_14_method_22_code
def yX12_isLetter : MethodName := ⟨RX12, "isLetter", "(I)Z"⟩
abbrev cX12_go : ByteArray := prog_14_method_23_code
def yX12_go : MethodName := ⟨RX12, "go", "()V"⟩
abbrev cX12_spelt : ByteArray := prog_14_method_24_code
def yX12_spelt : MethodName := ⟨RX12, "spelt", "(IIIII)J"⟩
abbrev cX12_isKey : ByteArray := prog_14_method_25_code
def yX12_isKey : MethodName := ⟨RX12, "isKey", "(J)Z"⟩
abbrev cX12_isAt : ByteArray := prog_14_method_26_code
def yX12_isAt : MethodName := ⟨RX12, "isAt", "()Z"⟩
abbrev cX12_isUse : ByteArray := prog_14_method_27_code
def yX12_isUse : MethodName := ⟨RX12, "isUse", "()Z"⟩
abbrev cX12_isWith : ByteArray := prog_14_method_28_code
def yX12_isWith : MethodName := ⟨RX12, "isWith", "()Z"⟩
abbrev cX12_isEnd : ByteArray := prog_14_method_29_code
def yX12_isEnd : MethodName := ⟨RX12, "isEnd", "()Z"⟩
abbrev cX12_isStorm : ByteArray := prog_14_method_30_code
def yX12_isStorm : MethodName := ⟨RX12, "isStorm", "()Z"⟩
abbrev cX12_isTimes : ByteArray := prog_14_method_31_code
def yX12_isTimes : MethodName := ⟨RX12, "isTimes", "()Z"⟩
abbrev cX12_isEvery : ByteArray := prog_14_method_32_code
def yX12_isEvery : MethodName := ⟨RX12, "isEvery", "()Z"⟩
abbrev cX12_isPlay : ByteArray := prog_14_method_33_code
def yX12_isPlay : MethodName := ⟨RX12, "isPlay", "()Z"⟩
abbrev cX12_isName : ByteArray := prog_14_method_34_code
def yX12_isName : MethodName := ⟨RX12, "isName", "()Z"⟩
abbrev cX12_bad : ByteArray := prog_14_method_35_code
def yX12_bad : MethodName := ⟨RX12, "bad", "(I)Z"⟩
abbrev cX12_readNumber : ByteArray := prog_14_method_36_code
def yX12_readNumber : MethodName := ⟨RX12, "readNumber", "(II)Z"⟩
abbrev cX12_readEnd : ByteArray := prog_14_method_37_code
def yX12_readEnd : MethodName := ⟨RX12, "readEnd", "()Z"⟩
abbrev cX12_clear : ByteArray := prog_14_method_38_code
def yX12_clear : MethodName := ⟨RX12, "clear", "(I)V"⟩
abbrev cX12_put : ByteArray := prog_14_method_39_code
def yX12_put : MethodName := ⟨RX12, "put", "(IIII)V"⟩
abbrev cX12_pour : ByteArray := prog_14_method_40_code
def yX12_pour : MethodName := ⟨RX12, "pour", "(III)V"⟩
abbrev cX12_readUse : ByteArray := prog_14_method_41_code
def yX12_readUse : MethodName := ⟨RX12, "readUse", "(I)Z"⟩
abbrev cX12_stormOf : ByteArray := prog_14_method_42_code
def yX12_stormOf : MethodName := ⟨RX12, "stormOf", "(J)I"⟩
abbrev cX12_readPlay : ByteArray := prog_14_method_43_code
def yX12_readPlay : MethodName := ⟨RX12, "readPlay", "()Z"⟩
abbrev cX12_readTimes : ByteArray := prog_14_method_44_code
def yX12_readTimes : MethodName := ⟨RX12, "readTimes", "()Z"⟩
abbrev cX12_endTimes : ByteArray := prog_14_method_45_code
def yX12_endTimes : MethodName := ⟨RX12, "endTimes", "()V"⟩
abbrev cX12_readStorm : ByteArray := prog_14_method_46_code
def yX12_readStorm : MethodName := ⟨RX12, "readStorm", "()Z"⟩
abbrev cX12_readPiece : ByteArray := prog_14_method_47_code
def yX12_readPiece : MethodName := ⟨RX12, "readPiece", "()Z"⟩
abbrev cX12_score : ByteArray := prog_14_method_48_code
def yX12_score : MethodName := ⟨RX12, "score", "()I"⟩
abbrev cX12_fault : ByteArray := prog_14_method_49_code
def yX12_fault : MethodName := ⟨RX12, "fault", "()I"⟩
abbrev cX12_takes : ByteArray := prog_14_method_50_code
def yX12_takes : MethodName := ⟨RX12, "takes", "(I)I"⟩
abbrev cX12_worth : ByteArray := prog_14_method_51_code
def yX12_worth : MethodName := ⟨RX12, "worth", "(I)I"⟩
abbrev cX12_event : ByteArray := prog_14_method_52_code
def yX12_event : MethodName := ⟨RX12, "event", "(II)I"⟩
abbrev cX12_hear : ByteArray := prog_14_method_53_code
def yX12_hear : MethodName := ⟨RX12, "hear", "(III)V"⟩
abbrev cX12_rollAll : ByteArray := prog_14_method_54_code
def yX12_rollAll : MethodName := ⟨RX12, "rollAll", "(I)V"⟩
abbrev cX12_use : ByteArray := prog_14_method_55_code
def yX12_use : MethodName := ⟨RX12, "use", "(I)V"⟩
abbrev cX12_night : ByteArray := prog_14_method_56_code
def yX12_night : MethodName := ⟨RX12, "night", "()I"⟩
abbrev cX12_sound : ByteArray := prog_14_method_57_code
def yX12_sound : MethodName := ⟨RX12, "sound", "(II)I"⟩
abbrev cX12_told : ByteArray := prog_14_method_58_code
def yX12_told : MethodName := ⟨RX12, "told", "(I)I"⟩
abbrev cX12_choose : ByteArray := prog_14_method_59_code
def yX12_choose : MethodName := ⟨RX12, "choose", "(II)I"⟩
abbrev cX12_prepare : ByteArray := prog_14_method_60_code
def yX12_prepare : MethodName := ⟨RX12, "prepare", "()V"⟩
abbrev cX12_bitsOf : ByteArray := prog_14_method_61_code
def yX12_bitsOf : MethodName := ⟨RX12, "bitsOf", "(I)I"⟩
abbrev cX12_far : ByteArray := prog_14_method_62_code
def yX12_far : MethodName := ⟨RX12, "far", "(II)I"⟩
abbrev cX12_standOf : ByteArray := prog_14_method_63_code
def yX12_standOf : MethodName := ⟨RX12, "standOf", "(I)I"⟩
abbrev cX12_mayFollow : ByteArray := prog_14_method_64_code
def yX12_mayFollow : MethodName := ⟨RX12, "mayFollow", "(II)Z"⟩
abbrev cX12_mayBegin : ByteArray := prog_14_method_65_code
def yX12_mayBegin : MethodName := ⟨RX12, "mayBegin", "(II)Z"⟩
abbrev cX12_cellOf : ByteArray := prog_14_method_66_code
def yX12_cellOf : MethodName := ⟨RX12, "cellOf", "(IIIII)I"⟩
abbrev cX12_workOut : ByteArray := prog_14_method_67_code
def yX12_workOut : MethodName := ⟨RX12, "workOut", "(III)V"⟩
abbrev cX12_goesOn : ByteArray := prog_14_method_68_code
def yX12_goesOn : MethodName := ⟨RX12, "goesOn", "(II)Z"⟩
abbrev cX12_fillTable : ByteArray := prog_14_method_69_code
def yX12_fillTable : MethodName := ⟨RX12, "fillTable", "()V"⟩
abbrev cX12_cellByMen : ByteArray := prog_14_method_70_code
def yX12_cellByMen : MethodName := ⟨RX12, "cellByMen", "(I)I"⟩
abbrev cX12_made : ByteArray := prog_14_method_71_code
def yX12_made : MethodName := ⟨RX12, "made", "()I"⟩
abbrev cX12_who : ByteArray := prog_14_method_72_code
def yX12_who : MethodName := ⟨RX12, "who", "(I)I"⟩
abbrev cX12_balls : ByteArray := prog_14_method_73_code
def yX12_balls : MethodName := ⟨RX12, "balls", "(II)I"⟩
abbrev cX12_isLetGo : ByteArray := prog_14_method_74_code
def yX12_isLetGo : MethodName := ⟨RX12, "isLetGo", "(II)Z"⟩
abbrev cX12_fillings : ByteArray := prog_14_method_75_code
def yX12_fillings : MethodName := ⟨RX12, "fillings", "(I)I"⟩
abbrev cX12_takeTicks : ByteArray := prog_14_method_76_code
def yX12_takeTicks : MethodName := ⟨RX12, "takeTicks", "()Z"⟩
abbrev cX12_err : ByteArray := prog_14_method_77_code
def yX12_err : MethodName := ⟨RX12, "err", "()I"⟩
abbrev cX12_lay : ByteArray := prog_14_method_78_code
def yX12_lay : MethodName := ⟨RX12, "lay", "(I)I"⟩
abbrev cX12_laid : ByteArray := prog_14_method_79_code
def yX12_laid : MethodName := ⟨RX12, "laid", "(I)I"⟩
abbrev cX12_explains : ByteArray := prog_14_method_80_code
def yX12_explains : MethodName := ⟨RX12, "explains", "()Z"⟩
abbrev cX12_worn : ByteArray := prog_14_method_81_code
def yX12_worn : MethodName := ⟨RX12, "worn", "(I)I"⟩
abbrev cX12_count : ByteArray := prog_14_method_82_code
def yX12_count : MethodName := ⟨RX12, "count", "(I)I"⟩
def RL : String := "StormLoftLaw"
abbrev cL_knock : ByteArray := method_3_code
def yL_knock : MethodName := ⟨RL, "knock", "(LStormLoft;II[J)I"⟩
abbrev cL_event : ByteArray := method_4_code
def yL_event : MethodName := ⟨RL, "event", "(LStormLoft;II[J)I"⟩
abbrev cL_sound : ByteArray := method_5_code
def yL_sound : MethodName := ⟨RL, "sound", "(LStormLoft;II[J)I"⟩
abbrev cL_law : ByteArray := code
def yL_law : MethodName := ⟨RL, "law", "([I)Z"⟩
abbrev vwCl : List vw_C := [(RX0, TX0, 6), (RX1, TX1, 5), (RX2, TX2, 14), (RX3, TX3, 16), (RX4, TX4, 8), (RX5, TX5, 5), (RX6, TX6, 13), (RX7, TX7, 4), (RX8, TX8, 5), (RX9, TX9, 12), (RX10, TX10, 9), (RX11, TX11, 12), (RX12, TX12, 89)]
